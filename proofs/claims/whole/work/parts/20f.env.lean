/-! THE LAW's START: the environment -/
abbrev z_G : List Jvm.Cond := flatC (Jvm.Cond.and given_1 narrow_1)
abbrev z_sT (own : String) (k : Nat) : Term := .string own k
abbrev z_sV (i : Nat) : Term := .field (z_sT RX3 (z_six i)) "java/lang/String" "value" "[B"
theorem zst_thr : ∀ q ∈ z_thr, Jvm.Cond.exactly (z_sT RX5 q.1) "java/lang/String" ∈ z_G := by decide +kernel
theorem zst_thr2 : ∀ q ∈ z_thr, Jvm.Cond.stringRef RX5 q.1 q.2 ∈ lw_tbl := by decide +kernel
theorem zst_str : ∀ i, i < 5 → Jvm.Cond.exactly (z_sT RX3 (z_six i)) "java/lang/String" ∈ z_G ∧ Jvm.Cond.eq (.field (z_sT RX3 (z_six i)) "java/lang/String" "coder" "B") (.int 0) ∈ z_G ∧ Jvm.Cond.arrayOf (z_sV i) .byte ∈ z_G ∧ Jvm.Cond.eq (.length (z_sV i)) (.int (Int32.ofNat (z_lens.getD i 0))) ∈ z_G ∧ ∀ j, j < z_lens.getD i 0 → Jvm.Cond.eq (.elem (z_sV i) (.int (Int32.ofNat j))) (.int ((z_byts.getD i []).getD j 0)) ∈ z_G := by decide +kernel
theorem zst_str2 : ∀ i, i < 5 → Jvm.Cond.stringRef RX3 (z_six i) (z_stx i) ∈ lw_tbl := by decide +kernel
theorem zst_xw : ∀ w ∈ z_xw, w ∈ lw_tbl := by decide +kernel
theorem zst_nc : ∀ i, i < 4 → ∀ j, j < 4 → i ≠ j → Jvm.Cond.not (.castable (z_EX i) (z_EX j)) ∈ z_G := by decide +kernel
theorem zst_r1 : Jvm.Cond.isRef (.static Bundle.tN "UNASSIGNED_STACK" Bundle.steD) ∈ z_G ∧ Jvm.Cond.isRef (.static Bundle.tN "SUPPRESSED_SENTINEL" Bundle.listD) ∈ z_G ∧ Jvm.Cond.isRef (.static RJ3 "SIOOBE_FORMATTER" "Ljava/util/function/BiFunction;") ∈ z_G ∧ Jvm.Cond.eq (.static RJ0 "COMPACT_STRINGS" "Z") (.int 1) ∈ z_G := by decide +kernel
theorem zst_r2 : (Jvm.Cond.laysStatic Bundle.tN "UNASSIGNED_STACK" Bundle.steD ∈ lw_tbl ∧ Jvm.Cond.laysStatic Bundle.tN "SUPPRESSED_SENTINEL" Bundle.listD ∈ lw_tbl ∧ Jvm.Cond.initialized Bundle.tN ∈ lw_tbl) ∧ (Jvm.Cond.laysStatic RJ3 "SIOOBE_FORMATTER" "Ljava/util/function/BiFunction;" ∈ lw_tbl ∧ Jvm.Cond.initialized RJ3 ∈ lw_tbl) ∧ Jvm.Cond.laysStatic RJ0 "COMPACT_STRINGS" "Z" ∈ lw_tbl ∧ Jvm.Cond.initialized RJ0 ∈ lw_tbl := by decide +kernel
theorem zst_cls : ∀ ci, ci < 7 → Jvm.Cond.instantiable (z_C ci) (z_N ci) ∈ lw_tbl := by decide +kernel
theorem zst_arr : (Jvm.Cond.arrayClass .int ∈ lw_tbl ∧ Jvm.Cond.arrayClass .boolean ∈ lw_tbl) ∧ (Jvm.Cond.arrayClass .long ∈ lw_tbl ∧ Jvm.Cond.arrayClass .double ∈ lw_tbl) ∧ Jvm.Cond.arrayOver (.array .int) ∈ lw_tbl := by decide +kernel
theorem zst_nest : ∀ q ∈ zk_nest, Jvm.Cond.methodLinkNest RX5 q.1 (zk_y q.2) RX5 ∈ lw_tbl := by decide +kernel
theorem z_wl_tbl : ∀ w ∈ z_wl, w ∈ lw_tbl := fun w h => (List.mem_filter.mp h).1
theorem zst_dif : ∀ i, i < 5 → ∀ j, j < 5 → i ≠ j → z_lens.getD i 0 ≠ z_lens.getD j 0 ∨ ∃ k, k < 9 ∧ k < z_lens.getD i 0 ∧ k < z_lens.getD j 0 ∧ (z_byts.getD i []).getD k 0 ≠ (z_byts.getD j []).getD k 0 := by
  have h : ∀ i, i < 5 → ∀ j, j < 5 → i ≠ j → z_lens.getD i 0 ≠ z_lens.getD j 0 ∨ ((List.range 9).any fun k => decide (k < z_lens.getD i 0) && decide (k < z_lens.getD j 0) && decide ((z_byts.getD i []).getD k 0 ≠ (z_byts.getD j []).getD k 0)) = true := by decide +kernel
  intro i hi j hj hij
  rcases h i hi j hj hij with h | h
  · exact Or.inl h
  · rw [List.any_eq_true] at h
    obtain ⟨k, hk, h⟩ := h
    simp only [Bool.and_eq_true, decide_eq_true_eq] at h
    exact Or.inr ⟨k, List.mem_range.mp hk, h.1.1, h.1.2, h.2⟩
section
variable {s : State} {b L : Nat} {xs : Nat → Int32}
theorem z_strs (hg : ∀ w ∈ z_G, w.before #[Value.ref b] s = true) : ∃ aS aV : Nat → Nat, vk_S 5 z_lens z_byts aS aV (fun q => s.heap.size ≤ q) s s.heap ∧ ∀ i, i < 5 → (z_sT RX3 (z_six i)).eval #[Value.ref b] s none [] s = some (.ref (aS i)) := by
  have h1 : ∀ i : Nat, ∃ q : Nat × Nat, i < 5 → (va_O "java/lang/String" q.1 (fun q => s.heap.size ≤ q) s s.heap ∧ va_OF "java/lang/String" "coder" "B" (.int 0) q.1 (fun q => s.heap.size ≤ q) s s.heap ∧ va_OF "java/lang/String" "value" "[B" (.ref q.2) q.1 (fun q => s.heap.size ≤ q) s s.heap ∧ va_T .byte q.2 (z_lens.getD i 0) (fun j => .int ((z_byts.getD i []).getD j 0)) (fun q => s.heap.size ≤ q) s s.heap) ∧ (z_sT RX3 (z_six i)).eval #[Value.ref b] s none [] s = some (.ref q.1) := by
    intro i
    by_cases hi : i < 5
    · obtain ⟨g1, g2, g3, g4, g5⟩ := zst_str i hi
      have hl9 : ∀ i, i < 5 → z_lens.getD i 0 < 2 ^ 31 := by decide +kernel
      obtain ⟨aK, aV, hS, hev⟩ := vk_Sof (args := #[Value.ref b]) (s := s) (N := 1) (tm := fun _ => z_sT RX3 (z_six i)) (len := [z_lens.getD i 0]) (byt := [z_byts.getD i []]) (A := fun q => s.heap.size ≤ q) (fun k hk => by
          obtain rfl : k = 0 := by omega
          exact hl9 i hi) (fun k hk => hg _ g1) (fun k hk => hg _ g2) (fun k hk => hg _ g3) (fun k hk => by
          obtain rfl : k = 0 := by omega
          exact hg _ g4) (fun k hk j hj => by
          obtain rfl : k = 0 := by omega
          exact hg _ (g5 j hj)) (fun i j hi hj hij => absurd (show i = j by omega) hij) (fun a h => Nat.not_le.mpr h)
      exact ⟨(aK 0, aV 0), fun _ => ⟨hS.1 0 (by omega), hev 0 (by omega)⟩⟩
    · exact ⟨(0, 0), fun h => absurd h hi⟩
  obtain ⟨f, hf⟩ : ∃ f : Nat → Nat × Nat, ∀ i : Nat, i < 5 → (va_O "java/lang/String" (f i).1 (fun q => s.heap.size ≤ q) s s.heap ∧ va_OF "java/lang/String" "coder" "B" (.int 0) (f i).1 (fun q => s.heap.size ≤ q) s s.heap ∧ va_OF "java/lang/String" "value" "[B" (.ref (f i).2) (f i).1 (fun q => s.heap.size ≤ q) s s.heap ∧ va_T .byte (f i).2 (z_lens.getD i 0) (fun j => .int ((z_byts.getD i []).getD j 0)) (fun q => s.heap.size ≤ q) s s.heap) ∧ (z_sT RX3 (z_six i)).eval #[Value.ref b] s none [] s = some (.ref (f i).1) := ⟨fun i => (h1 i).choose, fun i => (h1 i).choose_spec⟩
  refine ⟨fun i => (f i).1, fun i => (f i).2, ⟨fun i hi => (hf i hi).1, fun i j hi hj hij => ?_⟩, fun i hi => (hf i hi).2⟩
  apply Classical.byContradiction
  intro hne
  obtain ⟨⟨-, -, o1, t1⟩, -⟩ := hf i hi
  obtain ⟨⟨-, -, o2, t2⟩, -⟩ := hf j hj
  obtain ⟨cf1, k1, i1, f1, c1, a1, a2, a3, a4, a5, a6⟩ := o1
  obtain ⟨cf2, k2, i2, f2, c2, b1, b2, b3, b4, b5, b6⟩ := o2
  replace hij : (f i).1 = (f j).1 := hij
  rw [hij] at a3
  rw [a1] at b1
  cases b1
  rw [a3] at b3
  cases b3
  rw [a5] at b5
  have hv : (f i).2 = (f j).2 := by
    have := Option.some.inj b5
    injection this with h
  obtain ⟨d1, p1, p2, p3, p4, p5, p6, p7⟩ := t1
  obtain ⟨d2, q1, q2, q3, q4, q5, q6, q7⟩ := t2
  rw [hv] at p1
  rw [p1] at q1
  cases q1
  have hl9 : ∀ i, i < 5 → z_lens.getD i 0 < 2 ^ 31 := by decide +kernel
  rcases zst_dif i hi j hj hne with h | ⟨k, -, h2, h3, h4⟩
  · rw [p5] at q5
    exact h ((nI_eq (hl9 i hi) (hl9 j hj)).mp q5)
  · have e1 := p6 k h2
    have e2 := q6 k h3
    rw [e1] at e2
    have := Option.some.inj e2
    injection this with h5
    exact h4 h5
theorem z_arrT {args : Array Value} {ty : FieldType} (h : (Cond.arrayClass ty).before args s = true) (hp : ∀ C, ty ≠ .object C) : ∃ cA : ClassId, ArrOfT s cA ty ∧ va_RA s cA ty := by
  obtain ⟨cA, k, comp, h1, h2, h3⟩ := Cond.arrayClass_spec (args := args) (first := s) (o := none) (idx := []) h
  refine ⟨cA, fun n z => ⟨fun k h => (by cases h), k, h2, comp, h3⟩, ?_⟩
  cases ty <;> first | exact h1 | exact absurd rfl (hp _)
theorem z_env {p : Program} {m : MethodId} {meth : Method} {c : Code} (C0 : lw_At p s m meth c b L xs) (hUI : z_UI) : ∃ (D : va_G) (kc : Nat → ClassId) (aS aV : Nat → Nat), zc_E D kc s ∧ ∀ ad : Nat → Nat, (∀ k, k < 125 → s.heap.size ≤ ad k) → ad 300 = b → (∀ i, i < 5 → ad (200 + i) = aS i) → z_E D kc ad aV L xs s.heap.size s s.heap := by
  obtain ⟨hx, hb, hr, hml, hown, hts, hX, hbl, hlk, hgv, htab⟩ := id C0
  have hg : ∀ w ∈ z_G, w.before #[Value.ref b] s = true := flat_of_before _ hgv
  have hA0 : ∀ a, a < s.heap.size → ¬ (fun q => s.heap.size ≤ q) a := fun a h => Nat.not_le.mpr h
  have hcl : ∀ k : Nat, ∃ x : ClassId × (Nat → Nat), ∀ q, vwCl[k]? = some q → u_Kn s q.1 q.2.1 q.2.2 x.1 x.2 := by
    intro k
    by_cases hk : k < 7
    · obtain ⟨cC, iS, h⟩ := u_known (C := z_C k) (T := z_T k) (N := z_N k) (n := z_N k) hts (fun w hw => z_wl_tbl _ (hUI k hk w hw)) (hts _ (zst_cls k hk))
      refine ⟨(cC, iS), fun q hq => ?_⟩
      rw [z_vwCl k hk] at hq
      cases hq
      exact h
    · refine ⟨(0, fun _ => 0), fun q hq => ?_⟩
      have := (List.getElem?_eq_some_iff.mp hq).1
      exact absurd this (by show ¬ k < 7; exact hk)
  obtain ⟨f, hf⟩ : ∃ f : Nat → ClassId × (Nat → Nat), ∀ k q, vwCl[k]? = some q → u_Kn s q.1 q.2.1 q.2.2 (f k).1 (f k).2 := ⟨fun k => (hcl k).choose, fun k => (hcl k).choose_spec⟩
  obtain ⟨⟨r1, r2⟩, ⟨r3, r4⟩, r5⟩ := zst_arr
  obtain ⟨a10, h10⟩ := z_arrT (hts _ r1) (fun C h => by cases h)
  obtain ⟨a11, h11⟩ := z_arrT (hts _ r2) (fun C h => by cases h)
  obtain ⟨a12, h12⟩ := z_arrT (hts _ r3) (fun C h => by cases h)
  obtain ⟨a13, h13⟩ := z_arrT (hts _ r4) (fun C h => by cases h)
  have h14 : ∃ a14 : ClassId, ArrOfT s a14 (.array .int) ∧ va_RA s a14 (.array .int) := by
    obtain ⟨comp, cA, k, h1, h2, h3, h4⟩ := Cond.arrayOver_specA (args := #[Value.ref b]) (first := s) (o := none) (idx := []) (hts _ r5)
    exact ⟨cA, fun n z => ⟨fun k h => (by cases h), k, h2, comp, h3⟩, h4⟩
  obtain ⟨a14, h14⟩ := h14
  obtain ⟨aS, aV, hvS, hev⟩ := z_strs hg
  let kc : Nat → ClassId := fun k => match k with
    | 10 => a10
    | 11 => a11
    | 12 => a12
    | 13 => a13
    | _ => a14
  have hK : va_K (fun k => (f k).1, fun k => (f k).2) vwCl (z_tys kc) s := by
    refine ⟨fun k q hq => hf k q hq, fun k q hq => ?_⟩
    match k, hq with
    | 0, hq => cases hq; exact h10
    | 1, hq => cases hq; exact h11
    | 2, hq => cases hq; exact h12
    | 3, hq => cases hq; exact h13
    | 4, hq => cases hq; exact h14
    | k + 5, hq => simp [z_tys] at hq
  obtain ⟨⟨u1, u2, u3⟩, ⟨u4, u5⟩, u6, u7⟩ := zst_r2
  obtain ⟨v1, v2, v3, v4⟩ := zst_r1
  refine ⟨(fun k => (f k).1, fun k => (f k).2), kc, aS, aV, ⟨hK, hts _ r5, fun q hq => va_Nw.of rfl (hts _ (zst_nest q hq))⟩, fun ad had h300 h200 => ?_⟩
  have hn : ∀ q, z_A ad s.heap.size q → s.heap.size ≤ q := by
    intro q hq
    rcases hq with ⟨k, hk, rfl⟩ | hq
    · exact had k hk
    · exact hq
  refine ⟨hK, vx_Zq.narrow (vx_Zqof (hts _ u1) (hts _ u3) (hg _ v1) hA0) hn, vx_Zq.narrow (vx_Zqof (hts _ u2) (hts _ u3) (hg _ v2) hA0) hn, ⟨by rw [h300]; exact hX, by rw [h300]; exact hbl, fun h => by have := hn _ h; rw [h300] at this; omega⟩, fun q hq => ?_, fun i hi => by rw [h200 i hi]; exact vk_R.of (hts _ (zst_str2 i hi)) (hev i hi), fun w hw => va_tabs (z_xw_f w hw).2 rfl (hts _ (zst_xw w hw)), fun i j hi hj hij => va_Nc.of (hg _ (zst_nc i hi j hj hij)), ?_, va_Z.narrow (va_Zof (hts _ u6) (hts _ u7) (va_eqt (hg _ v4)) hA0) hn, va_Zq.narrow (va_Zqof (hts _ u4) (hts _ u5) (hg _ v3) hA0) hn⟩
  · obtain ⟨a, c, cA, kA, q1, q2, q3, q4, q5, q6, -⟩ := Cond.exactly_spec (args := #[Value.ref b]) (first := s) (o := none) (s := s) (idx := []) (t := z_sT RX5 q.1) (cls := "java/lang/String") (hg _ (zst_thr q hq))
    exact ⟨a, vk_R.of (hts _ (zst_thr2 q hq)) q1⟩
  · have h9 := vk_S.narrow hvS hn
    refine ⟨fun i hi => ?_, fun i j hi hj hij => ?_⟩
    · have := h9.1 i hi
      rw [← h200 i hi] at this
      exact this
    · replace hij : ad (200 + i) = ad (200 + j) := hij
      rw [h200 i hi, h200 j hj] at hij
      exact h9.2 i j hi hj hij
end
