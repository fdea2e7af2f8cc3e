/-! the class's Script: the changes; explain -/
section
variable {L : Nat} {xs : Nat → Int32} {I : Nat → Nat → Int32} {R : Nat → Nat → Option Nat} {A : Nat → Nat → Int32} {lo : Int64} {dd : UInt64} {Φ : zPo} {b a d f : Nat} {v u : zV} {sp : zM} {sn : zMn}
theorem s1_needs (hd : z_db d) (hb : z_ib b) (ha : z_ib a) (hRb : R d 0 = some b) (hRa : R d 1 = some a) (hE : zEn b a d v u sp sn I A) (hwf : zwf v) (hwu : zwf u) (hmp : zmo (vP v) (vP u) sp) (hm : zmo (vN v) (vN u) sn.1) {k i j : Nat} (hk : 5 ≤ k ∧ k ≤ 8) (hi : i < vN v) (hj : j < vN u) (h1 : zneed v u sp.1 sn.1.1 k i j = true → Φ (.inl (some (.int 1))) (I, R, A, lo, dd) 0) (h0 : zneed v u sp.1 sn.1.1 k i j = false → Φ (.inl (some (.int 0))) (I, R, A, lo, dd) 0) : zC L xs mX1_needs [.ref d, .int (nI k), .int (nI i), .int (nI j)] (I, R, A, lo, dd) Φ := by
  obtain ⟨⟨hS, hP, hN, p0, p1, p2, n0, n1, n2, n3, n4, n5, n6⟩, ⟨hS', hP', hN', p0', p1', p2', n0', n1', n2', n3', n4', n5', n6'⟩, e3, e4⟩ := hE
  have w1 := hwf.1
  have w2 := hwf.2.1
  have u1 := hwu.1
  have u2 := hwu.2.1
  have b1 := hwf.2.2.1 i hi
  have b2 := hwu.2.2.1 j hj
  have r1 := e3.1
  have r2 := e4.1
  have e1 : (zpI (sp.1 (vhom v i)) = nI (vhom u j)) ↔ sp.1 (vhom v i) = some (vhom u j) := zpI_eqn (fun k hk => by have := (hmp.1 _ k hk).2.1; omega) (by omega)
  refine zC_en (vc_X1_needs_0 hd hb ha hRb hRa ?_)
  have q1 := n4 i hi
  have q2 := n4' j hj
  cases hx : vpar v i with
  | none =>
    rw [hx] at q1
    replace q1 : A (b + 8) i = -nI 1 := q1
    cases hy : vpar u j with
    | none =>
      rw [hy] at q2
      replace q2 : A (a + 8) j = -nI 1 := q2
      simp (disch := omega) only [ze_lit, pk_mul, nI_add, nI_clamp, ze_inI, nI_ltI, nI_eq, r1, n0, n0', n1, n1', n2, n2', n3, n3', n5, n5', e1, q1, q2, eq_self]
      clear n0 n0' n1 n1' n2 n2' n3 n3' n4 n4' n5 n5' n6 n6' p0 p1 p2 p0' p1' p2' e3 r1 r2 e1 hm hmp hS hP hN hS' hP' hN' q1 q2 e4 hwf hwu
      obtain rfl | rfl | rfl | rfl : k = 5 ∨ k = 6 ∨ k = 7 ∨ k = 8 := by omega
      all_goals repeat' (first | refine And.intro ?_ ?_ | intro _)
      all_goals first
        | omega
        | contradiction
        | exact absurd trivial (by assumption)
        | (exact h1 (by simp [zneed, zpg, *]))
        | (exact h0 (by simp [zneed, zpg, *]))
    | some y =>
      rw [hy] at q2
      replace q2 : A (a + 8) j = nI y := q2
      have hyl := zpar_lt hwu hj hy
      simp (disch := omega) only [ze_lit, pk_mul, nI_add, nI_clamp, ze_inI, nI_ltI, nI_eq, r1, n0, n0', n1, n1', n2, n2', n3, n3', n5, n5', e1, q1, q2, eq_self, ze_m1n]
      have e5 : ¬ (-nI 1 = nI y) := fun z => (ze_m1' (by omega)).mp z
      clear n0 n0' n1 n1' n2 n2' n3 n3' n4 n4' n5 n5' n6 n6' p0 p1 p2 p0' p1' p2' e3 r1 r2 e1 hm hmp hS hP hN hS' hP' hN' q1 q2 e4 hwf hwu
      obtain rfl | rfl | rfl | rfl : k = 5 ∨ k = 6 ∨ k = 7 ∨ k = 8 := by omega
      all_goals repeat' (first | refine And.intro ?_ ?_ | intro _)
      all_goals first
        | omega
        | contradiction
        | exact absurd trivial (by assumption)
        | (exact h1 (by simp [zneed, zpg, *]))
        | (exact h0 (by simp [zneed, zpg, *]))
  | some x =>
    rw [hx] at q1
    replace q1 : A (b + 8) i = nI x := q1
    have hxl := zpar_lt hwf hi hx
    have r2x := r2 x (by omega)
    cases hy : vpar u j with
    | none =>
      rw [hy] at q2
      replace q2 : A (a + 8) j = -nI 1 := q2
      simp (disch := omega) only [ze_lit, pk_mul, nI_add, nI_clamp, ze_inI, nI_ltI, nI_eq, r1, n0, n0', n1, n1', n2, n2', n3, n3', n5, n5', e1, q1, q2, eq_self, ze_m1n]
      clear n0 n0' n1 n1' n2 n2' n3 n3' n4 n4' n5 n5' n6 n6' p0 p1 p2 p0' p1' p2' e3 r1 r2 e1 hm hmp hS hP hN hS' hP' hN' q1 q2 e4 hwf hwu
      obtain rfl | rfl | rfl | rfl : k = 5 ∨ k = 6 ∨ k = 7 ∨ k = 8 := by omega
      all_goals repeat' (first | refine And.intro ?_ ?_ | intro _)
      all_goals first
        | omega
        | contradiction
        | exact absurd trivial (by assumption)
        | (exact h1 (by simp [zneed, zpg, *]))
        | (exact h0 (by simp [zneed, zpg, *]))
    | some y =>
      rw [hy] at q2
      replace q2 : A (a + 8) j = nI y := q2
      have hyl := zpar_lt hwu hj hy
      have e5 : (zpI (sn.1.1 x) = nI y) ↔ sn.1.1 x = some y := zpI_eqn (fun k hk => by have := (hm.1 _ k hk).2.1; omega) (by omega)
      simp (disch := omega) only [ze_lit, pk_mul, nI_add, nI_clamp, ze_inI, nI_ltI, nI_eq, r1, n0, n0', n1, n1', n2, n2', n3, n3', n5, n5', e1, q1, q2, eq_self, ze_m1n, r2x, e5]
      clear n0 n0' n1 n1' n2 n2' n3 n3' n4 n4' n5 n5' n6 n6' p0 p1 p2 p0' p1' p2' e3 r1 r2 e1 hm hmp hS hP hN hS' hP' hN' q1 q2 e4 hwf hwu r2x e5
      obtain rfl | rfl | rfl | rfl : k = 5 ∨ k = 6 ∨ k = 7 ∨ k = 8 := by omega
      all_goals repeat' (first | refine And.intro ?_ ?_ | intro _)
      all_goals first
        | omega
        | contradiction
        | exact absurd trivial (by assumption)
        | (exact h1 (by simp [zneed, zpg, *]))
        | (exact h0 (by simp [zneed, zpg, *]))
theorem s4_changePartitions (hf : z_fb f) (hd : z_db d) (hb : z_ib b) (ha : z_ib a) (hRb : R d 0 = some b) (hRa : R d 1 = some a) (hE : zEn b a d v u sp sn I A) (hw : vP v ≤ 4) (hw' : vP u ≤ 4) (hm : zmo (vP v) (vP u) sp) (hL : (zs1 v sp ++ zs2 v u sp).length ≤ 105) (hc : cSc f (zs1 v sp) I A) (h : ∀ I' A' : Nat → Nat → Int32, zFr f 4 I A I' A' → cSc f (zs1 v sp ++ zs2 v u sp) I' A' → (∀ j, j < vP u → ¬ sp.2 j = none → A' (f + 4) j = nI (zl (zq13 j) (zs1 v sp ++ zs2 v u sp))) → Φ (.inl none) (I', R, A', lo, dd) 0) : zC L xs mX4_changePartitions [.ref f, .ref d] (I, R, A, lo, dd) Φ := by
  refine zC_en (vc_X4_changePartitions_0 hf hd hb ha hRb hRa ?_)
  have h54 := z_fb_54 hf
  have h45 := z_ib_45 hb
  have h45a := z_ib_45 ha
  have key : ∀ i, i ≤ vP v → ∀ zx zy, ∀ I' A' : Nat → Nat → Int32, zFr f 4 I A I' A' → cSc f (zs1 v sp ++ (List.range i).flatMap (zo12 v u sp.1)) I' A' → (∀ i', i' < i → ∀ j, sp.1 i' = some j → A' (f + 4) j = nI (zl (zq13 j) (zs1 v sp ++ (List.range i).flatMap (zo12 v u sp.1)))) → zW L xs mX4_changePartitions 13 [some (.ref f), some (.ref d), some (.ref b), some (.ref a), some (.int (nI i)), zx, zy] [] (I', R, A', lo, dd) Φ := by
    refine ze_up ?_ ?_
    · intro zx zy I' A' h1 h2 h3
      obtain ⟨⟨hS, hP, hN, -⟩, e2, e3, e4⟩ := zEn_fr hb ha hd hf (by decide) hE h1
      refine vc_X4_changePartitions_13 hf hd hb ha ?_
      simp (disch := omega) only [ze_lit, pk_mul, nI_add, nI_clamp, ze_inI, nI_ltI, nI_eq, hP]
      refine ⟨fun q => absurd q (Nat.lt_irrefl _), fun _ => h I' A' h1 h2 (fun j hj hz => ?_)⟩
      cases hi : sp.2 j with
      | none => exact absurd hi hz
      | some i => exact h3 i (hm.2 i j hi).1 j (hm.2 i j hi).2.2
    · intro i hi ih zx zy I' A' h1 h2 h3
      obtain ⟨⟨hS, hP, hN, p0, p1, p2, -⟩, ⟨hS', hP', hN', p0', p1', p2', -⟩, e3, e4⟩ := zEn_fr hb ha hd hf (by decide) hE h1
      have r1 := e3.1 i (by omega)
      have hlm := zfm_le (g := zo12 v u sp.1) (show i + 1 ≤ vP v by omega)
      rw [List.length_append, show zs2 v u sp = (List.range (vP v)).flatMap (zo12 v u sp.1) from rfl] at hL
      have hc' := h2.1
      have hll : (zs1 v sp ++ (List.range i).flatMap (zo12 v u sp.1)).length = (zs1 v sp).length + ((List.range i).flatMap (zo12 v u sp.1)).length := List.length_append
      rw [zfm_s] at ih hlm
      rw [List.length_append] at hlm
      rw [← List.append_assoc] at ih
      have hdm : ∀ e, e ∈ zs1 v sp ++ (List.range i).flatMap (zo12 v u sp.1) → ∀ j, sp.1 i = some j → zq13 j e = false := by
        intro e he j hj
        rw [List.mem_append] at he
        rcases he with he | he
        · obtain ⟨k, _, hk⟩ := zfm_mem he
          rw [(zm0 hk).1]
          rfl
        · obtain ⟨k, hk0, hk⟩ := zfm_mem he
          obtain ⟨j', k', hj', _, _, rfl⟩ := zm12 hk
          have : j' ≠ j := fun z => by
            have a1 := (hm.1 k j' hj').2.2
            have a2 := (hm.1 i j hj).2.2
            rw [z] at a1
            rw [a1] at a2
            cases a2
            omega
          simp [zq13, this]
      generalize hdn : zs1 v sp ++ (List.range i).flatMap (zo12 v u sp.1) = dn at h2 h3 ih hc' hll hdm
      refine vc_X4_changePartitions_13 hf hd hb ha ?_
      cases hj : sp.1 i with
      | none =>
        rw [hj] at r1
        replace r1 : A' (d + 1) i = -nI 1 := r1
        have hz : zo12 v u sp.1 i = [] := by simp [zo12, hj]
        rw [hz, List.append_nil] at ih
        simp (disch := omega) only [ze_lit, pk_mul, nI_add, nI_clamp, ze_inI, nI_ltI, nI_eq, hP, r1, hc']
        refine ⟨fun _ => ⟨by omega, fun _ => ih _ _ _ _ h1 h2 (fun i' hi' j hj' => h3 i' ?_ j hj'), fun z => absurd trivial z⟩, fun q => absurd hi q⟩
        by_cases e : i' = i
        · rw [e, hj] at hj'; cases hj'
        · omega
      | some j =>
        rw [hj] at r1
        replace r1 : A' (d + 1) i = nI j := r1
        have hjl := (hm.1 i j hj).2.1
        have hgo : ∀ (I'' A'' : Nat → Nat → Int32) (zx zy : Option Value), zFr f 4 I A I'' A'' → cSc f (dn ++ zo12 v u sp.1 i) I'' A'' → A'' (f + 4) j = nI (if zo12 v u sp.1 i = [] then 0 else (dn ++ zo12 v u sp.1 i).length) → (∀ j', j' ≠ j → A'' (f + 4) j' = A' (f + 4) j') → zW L xs mX4_changePartitions 13 [some (.ref f), some (.ref d), some (.ref b), some (.ref a), some (.int (nI (i + 1))), zx, zy] [] (I'', R, A'', lo, dd) Φ := by
          intro I'' A'' zx zy g1 g2 g3 g4
          refine ih _ _ _ _ g1 g2 (fun i' hi' j' hj' => ?_)
          by_cases e : i' = i
          · rw [e, hj] at hj'
            cases hj'
            rw [g3]
            split
            · next z =>
              rw [z, List.append_nil]
              have := zl_no (p := zq13 j) (l := []) (m := dn) (fun e he => hdm e he j hj)
              rw [List.nil_append] at this
              rw [this]
              rfl
            · next z =>
              rw [zl_all (fun e he => ?_) z]
              obtain ⟨j2, k, h5, h6, h7, rfl⟩ := zm12 he
              rw [hj] at h5
              cases h5
              simp [zq13]
              omega
          · have hne : j' ≠ j := fun z => by
              have a1 := (hm.1 i' j' hj').2.2
              have a2 := (hm.1 i j hj).2.2
              rw [z] at a1
              rw [a1] at a2
              cases a2
              exact e rfl
            rw [g4 j' hne, zl_no (fun e he => ?_)]
            · exact h3 i' (by omega) j' hj'
            · obtain ⟨j2, k, h5, h6, h7, rfl⟩ := zm12 he
              rw [hj] at h5
              cases h5
              simp [zq13]
              omega
        have hz : zo12 v u sp.1 i = (if vpt v 0 i = vpt u 0 j then [] else [(1, some i, some j)]) ++ (if vpt v 1 i = vpt u 1 j ∧ vpt v 2 i = vpt u 2 j then [] else [(2, some i, some j)]) := by simp [zo12, hj]
        -- nothing differs
        have l0 : vpt v 0 i = vpt u 0 j → vpt v 1 i = vpt u 1 j ∧ vpt v 2 i = vpt u 2 j → zW L xs mX4_changePartitions 13 [some (.ref f), some (.ref d), some (.ref b), some (.ref a), some (.int (nI (i + 1))), some (.int (nI j)), some (.int (nI dn.length))] [] (I', R, z_up A' (f + 4) j (nI 0), lo, dd) Φ := by
          intro z1 z2
          rw [if_pos z1, if_pos z2] at hz
          refine hgo _ _ _ _ (zFr_rd h1) (by rw [hz]; simpa using cSc_rd h2 (by decide)) (by rw [zup_s, hz]; rfl) (fun j' hj' => by rw [zup_n (fun z => hj' z.2)])
        have l1 : ¬ vpt v 0 i = vpt u 0 j → vpt v 1 i = vpt u 1 j ∧ vpt v 2 i = vpt u 2 j → zW L xs mX4_changePartitions 13 [some (.ref f), some (.ref d), some (.ref b), some (.ref a), some (.int (nI (i + 1))), some (.int (nI j)), some (.int (nI dn.length))] [] (z_up I' f 0 (nI (dn.length + 1)), R, z_up (z_up (z_up (z_up A' (f + 1) dn.length (nI 1)) (f + 2) dn.length (nI i)) (f + 3) dn.length (nI j)) (f + 4) j (nI (dn.length + 1)), lo, dd) Φ := by
          intro z1 z2
          rw [if_neg z1, if_pos z2, List.append_nil] at hz
          refine hgo _ _ _ _ (zFr_rd (zFr_put h1)) (by rw [hz]; exact cSc_rd (cSc_put h2 rfl rfl rfl) (by decide)) (by rw [zup_s, hz, if_neg (by simp), List.length_append]; rfl) (fun j' hj' => by rw [zup_n (fun z => hj' z.2), zup_n (by omega), zup_n (by omega), zup_n (by omega)])
        have l2 : vpt v 0 i = vpt u 0 j → ¬ (vpt v 1 i = vpt u 1 j ∧ vpt v 2 i = vpt u 2 j) → zW L xs mX4_changePartitions 13 [some (.ref f), some (.ref d), some (.ref b), some (.ref a), some (.int (nI (i + 1))), some (.int (nI j)), some (.int (nI dn.length))] [] (z_up I' f 0 (nI (dn.length + 1)), R, z_up (z_up (z_up (z_up A' (f + 1) dn.length (nI 2)) (f + 2) dn.length (nI i)) (f + 3) dn.length (nI j)) (f + 4) j (nI (dn.length + 1)), lo, dd) Φ := by
          intro z1 z2
          rw [if_pos z1, if_neg z2, List.nil_append] at hz
          refine hgo _ _ _ _ (zFr_rd (zFr_put h1)) (by rw [hz]; exact cSc_rd (cSc_put h2 rfl rfl rfl) (by decide)) (by rw [zup_s, hz, if_neg (by simp), List.length_append]; rfl) (fun j' hj' => by rw [zup_n (fun z => hj' z.2), zup_n (by omega), zup_n (by omega), zup_n (by omega)])
        have l3 : ¬ vpt v 0 i = vpt u 0 j → ¬ (vpt v 1 i = vpt u 1 j ∧ vpt v 2 i = vpt u 2 j) → zW L xs mX4_changePartitions 13 [some (.ref f), some (.ref d), some (.ref b), some (.ref a), some (.int (nI (i + 1))), some (.int (nI j)), some (.int (nI dn.length))] [] (z_up (z_up I' f 0 (nI (dn.length + 1))) f 0 (nI (dn.length + 1 + 1)), R, z_up (z_up (z_up (z_up (z_up (z_up (z_up A' (f + 1) dn.length (nI 1)) (f + 2) dn.length (nI i)) (f + 3) dn.length (nI j)) (f + 1) (dn.length + 1) (nI 2)) (f + 2) (dn.length + 1) (nI i)) (f + 3) (dn.length + 1) (nI j)) (f + 4) j (nI (dn.length + 1 + 1)), lo, dd) Φ := by
          intro z1 z2
          rw [if_neg z1, if_neg z2] at hz
          have hp1 := cSc_put (k := 1) (o := some i) (n := some j) h2 rfl rfl rfl
          have hp2 := cSc_put (k := 2) (o := some i) (n := some j) hp1 rfl rfl rfl
          rw [List.length_append, show [((1, some i, some j) : zOp)].length = 1 from rfl] at hp2
          refine hgo _ _ _ _ (zFr_rd (zFr_put (zFr_put h1))) (by rw [hz, ← List.append_assoc]; exact cSc_rd hp2 (by decide)) (by rw [zup_s, hz, if_neg (by simp), List.length_append]; rfl) (fun j' hj' => by rw [zup_n (fun z => hj' z.2), zup_n (by omega), zup_n (by omega), zup_n (by omega), zup_n (by omega), zup_n (by omega), zup_n (by omega)])
        have hlen1 : ¬ vpt v 0 i = vpt u 0 j → dn.length + 1 ≤ 105 := by
          intro z1
          rw [hz, if_neg z1, List.length_append] at hlm
          simp only [List.length_singleton] at hlm
          omega
        have hlen2 : ¬ (vpt v 1 i = vpt u 1 j ∧ vpt v 2 i = vpt u 2 j) → dn.length + 1 ≤ 105 := by
          intro z1
          rw [hz, if_neg z1, List.length_append] at hlm
          simp only [List.length_singleton] at hlm
          omega
        have hlen3 : ¬ vpt v 0 i = vpt u 0 j → ¬ (vpt v 1 i = vpt u 1 j ∧ vpt v 2 i = vpt u 2 j) → dn.length + 2 ≤ 105 := by
          intro z1 z2
          rw [hz, if_neg z1, if_neg z2, List.length_append] at hlm
          simp only [List.length_singleton] at hlm
          omega
        have hlen0 : dn.length ≤ 105 := by omega
        by_cases e0 : vpt v 0 i = vpt u 0 j
        · by_cases e1 : vpt v 1 i = vpt u 1 j
          · by_cases e2 : vpt v 2 i = vpt u 2 j
            · have l := l0 e0 ⟨e1, e2⟩
              clear l0 l1 l2 l3 hgo
              simp (disch := omega) only [ze_lit, pk_mul, nI_add, nI_clamp, ze_inI, nI_ltI, nI_eq, hP, r1, hc', zup_s, zup_n, ze_m1n, p0, p1, p2, p0', p1', p2']
              repeat' (first | refine And.intro ?_ ?_ | intro _)
              all_goals first
                | omega
                | contradiction
                | exact l
                | exact absurd trivial (by assumption)
            · have l := l2 e0 (fun z => e2 z.2)
              have hl := hlen2 (fun z => e2 z.2)
              clear l0 l1 l2 l3 hgo
              simp (disch := omega) only [ze_lit, pk_mul, nI_add, nI_clamp, ze_inI, nI_ltI, nI_eq, hP, r1, hc', zup_s, zup_n, ze_m1n, p0, p1, p2, p0', p1', p2']
              repeat' (first | refine And.intro ?_ ?_ | intro _)
              all_goals first
                | omega
                | contradiction
                | exact l
                | exact absurd trivial (by assumption)
          · have l := l2 e0 (fun z => e1 z.1)
            have hl := hlen2 (fun z => e1 z.1)
            clear l0 l1 l2 l3 hgo
            simp (disch := omega) only [ze_lit, pk_mul, nI_add, nI_clamp, ze_inI, nI_ltI, nI_eq, hP, r1, hc', zup_s, zup_n, ze_m1n, p0, p1, p2, p0', p1', p2']
            repeat' (first | refine And.intro ?_ ?_ | intro _)
            all_goals first
              | omega
              | contradiction
              | exact l
              | exact absurd trivial (by assumption)
        · have hl1 := hlen1 e0
          by_cases e1 : vpt v 1 i = vpt u 1 j
          · by_cases e2 : vpt v 2 i = vpt u 2 j
            · have l := l1 e0 ⟨e1, e2⟩
              clear l0 l1 l2 l3 hgo
              simp (disch := omega) only [ze_lit, pk_mul, nI_add, nI_clamp, ze_inI, nI_ltI, nI_eq, hP, r1, hc', zup_s, zup_n, ze_m1n, p0, p1, p2, p0', p1', p2']
              repeat' (first | refine And.intro ?_ ?_ | intro _)
              all_goals first
                | omega
                | contradiction
                | exact l
                | exact absurd trivial (by assumption)
            · have l := l3 e0 (fun z => e2 z.2)
              have hl := hlen3 e0 (fun z => e2 z.2)
              clear l0 l1 l2 l3 hgo
              simp (disch := omega) only [ze_lit, pk_mul, nI_add, nI_clamp, ze_inI, nI_ltI, nI_eq, hP, r1, hc', zup_s, zup_n, ze_m1n, p0, p1, p2, p0', p1', p2']
              repeat' (first | refine And.intro ?_ ?_ | intro _)
              all_goals first
                | omega
                | contradiction
                | exact l
                | exact absurd trivial (by assumption)
          · have l := l3 e0 (fun z => e1 z.1)
            have hl := hlen3 e0 (fun z => e1 z.1)
            clear l0 l1 l2 l3 hgo
            simp (disch := omega) only [ze_lit, pk_mul, nI_add, nI_clamp, ze_inI, nI_ltI, nI_eq, hP, r1, hc', zup_s, zup_n, ze_m1n, p0, p1, p2, p0', p1', p2']
            repeat' (first | refine And.intro ?_ ?_ | intro _)
            all_goals first
              | omega
              | contradiction
              | exact l
              | exact absurd trivial (by assumption)
  refine key 0 (Nat.zero_le _) none none I A (zFr_rf _ _ _ _) ?_ (fun i' hi' => absurd hi' (Nat.not_lt_zero _))
  simpa using hc
theorem s4_changeNodes (hf : z_fb f) (hd : z_db d) (hb : z_ib b) (ha : z_ib a) (hRb : R d 0 = some b) (hRa : R d 1 = some a) (hE : zEn b a d v u sp sn I A) (hwf : zwf v) (hwu : zwf u) (hmp : zmo (vP v) (vP u) sp) (hm : zmo (vN v) (vN u) sn.1) {l : List zOp} (hL : (l ++ zs5 v u sp sn.1).length ≤ 105) (hc : cSc f l I A) (hl0 : ∀ e, e ∈ l → ∀ j, ¬ sn.1.2 j = none → zq48 j e = false) (hr : ∀ j, j < vN u → sn.1.2 j = none → A (f + 5) j = nI (zl (zq48 j) l)) (h : ∀ I' A' : Nat → Nat → Int32, zFr f 5 I A I' A' → cSc f (l ++ zs5 v u sp sn.1) I' A' → (∀ j, j < vN u → A' (f + 5) j = nI (zl (zq48 j) (l ++ zs5 v u sp sn.1))) → Φ (.inl none) (I', R, A', lo, dd) 0) : zC L xs mX4_changeNodes [.ref f, .ref d] (I, R, A, lo, dd) Φ := by
  have w2 := hwf.2.1
  have u2 := hwu.2.1
  refine zC_en (vc_X4_changeNodes_0 hf hd ?_)
  have key : ∀ i, i ≤ vN v → ∀ zx zy zz, ∀ I' A' : Nat → Nat → Int32, zFr f 5 I A I' A' → cSc f (l ++ (List.range i).flatMap (zo58 v u sp.1 sn.1.1)) I' A' → (∀ j, j < vN u → (sn.1.2 j = none ∨ ∃ i', i' < i ∧ sn.1.1 i' = some j) → A' (f + 5) j = nI (zl (zq48 j) (l ++ (List.range i).flatMap (zo58 v u sp.1 sn.1.1)))) → zW L xs mX4_changeNodes 2 [some (.ref f), some (.ref d), some (.int (nI i)), zx, zy, zz] [] (I', R, A', lo, dd) Φ := by
    refine ze_up ?_ ?_
    · intro zx zy zz I' A' h1 h2 h3
      obtain ⟨⟨hS, hP, hN, -⟩, e2, e3, e4⟩ := zEn_fr hb ha hd hf (by decide) hE h1
      refine vc_X4_changeNodes_2 hf hd hb hRb ?_
      simp (disch := omega) only [ze_lit, pk_mul, nI_add, nI_clamp, ze_inI, nI_ltI, nI_eq, hN]
      refine ⟨fun q => absurd q (Nat.lt_irrefl _), fun _ => h I' A' h1 h2 (fun j hj => h3 j hj ?_)⟩
      cases hi : sn.1.2 j with
      | none => exact Or.inl rfl
      | some i => exact Or.inr ⟨i, (hm.2 i j hi).1, (hm.2 i j hi).2.2⟩
    · intro i hi ih zx zy zz I' A' h1 h2 h3
      obtain ⟨⟨hS, hP, hN, -⟩, e2, e3, e4⟩ := zEn_fr hb ha hd hf (by decide) hE h1
      have r1 := e4.1 i (by omega)
      have hlm := zfm_le (g := zo58 v u sp.1 sn.1.1) (show i + 1 ≤ vN v by omega)
      rw [List.length_append, show zs5 v u sp sn.1 = (List.range (vN v)).flatMap (zo58 v u sp.1 sn.1.1) from rfl] at hL
      have hc' := h2.1
      have hll : (l ++ (List.range i).flatMap (zo58 v u sp.1 sn.1.1)).length = l.length + ((List.range i).flatMap (zo58 v u sp.1 sn.1.1)).length := List.length_append
      rw [zfm_s] at ih hlm
      rw [List.length_append] at hlm
      rw [← List.append_assoc] at ih
      have hdm : ∀ e, e ∈ l ++ (List.range i).flatMap (zo58 v u sp.1 sn.1.1) → ∀ j, sn.1.1 i = some j → zq48 j e = false := by
        intro e he j hj
        rw [List.mem_append] at he
        rcases he with he | he
        · exact hl0 e he j (fun z => by have := (hm.1 i j hj).2.2; rw [z] at this; cases this)
        · obtain ⟨k, hk0, hk⟩ := zfm_mem he
          obtain ⟨j', k', hj', _, rfl⟩ := zm58 hk
          have : j' ≠ j := fun z => by
            have a1 := (hm.1 k j' hj').2.2
            have a2 := (hm.1 i j hj).2.2
            rw [z] at a1
            rw [a1] at a2
            cases a2
            omega
          simp [zq48, this]
      generalize hdn : l ++ (List.range i).flatMap (zo58 v u sp.1 sn.1.1) = dn at h2 h3 ih hc' hll hdm
      refine vc_X4_changeNodes_2 hf hd hb hRb ?_
      cases hj : sn.1.1 i with
      | none =>
        rw [hj] at r1
        replace r1 : A' (d + 3) i = -nI 1 := r1
        have hz : zo58 v u sp.1 sn.1.1 i = [] := by simp [zo58, hj]
        rw [hz, List.append_nil] at ih
        simp (disch := omega) only [ze_lit, pk_mul, nI_add, nI_clamp, ze_inI, nI_ltI, nI_eq, hN, r1, hc']
        refine ⟨fun _ => ⟨by omega, fun _ => ih _ _ _ _ _ h1 h2 (fun j hjl hj' => h3 j hjl ?_), fun z => absurd trivial z⟩, fun q => absurd hi q⟩
        rcases hj' with hj' | ⟨i', q1, q2⟩
        · exact Or.inl hj'
        · refine Or.inr ⟨i', ?_, q2⟩
          by_cases e : i' = i
          · rw [e, hj] at q2; cases q2
          · omega
      | some j =>
        rw [hj] at r1
        replace r1 : A' (d + 3) i = nI j := r1
        have hjl := (hm.1 i j hj).2.1
        have hz : zo58 v u sp.1 sn.1.1 i = zof v u sp.1 sn.1.1 i j 4 := by simp [zo58, hj]
        rw [hz] at hlm ih
        simp (disch := omega) only [ze_lit, pk_mul, nI_add, nI_clamp, ze_inI, nI_ltI, nI_eq, hN, r1, hc', ze_m1n]
        refine ⟨fun _ => ⟨by omega, fun z => z.elim, fun _ => ?_⟩, fun q => absurd hi q⟩
        have key2 : ∀ m, m ≤ 4 → ∀ I'' A'' : Nat → Nat → Int32, zFr f 5 I A I'' A'' → A'' (f + 5) = A' (f + 5) → cSc f (dn ++ zof v u sp.1 sn.1.1 i j m) I'' A'' → zW L xs mX4_changeNodes 34 [some (.ref f), some (.ref d), some (.int (nI i)), some (.int (nI j)), some (.int (nI dn.length)), some (.int (nI (5 + m)))] [] (I'', R, A'', lo, dd) Φ := by
          refine ze_up ?_ ?_
          · intro I'' A'' g1 g5 g2
            have hc2 := g2.1
            have hl2 : (dn ++ zof v u sp.1 sn.1.1 i j 4).length = dn.length + (zof v u sp.1 sn.1.1 i j 4).length := List.length_append
            have hgo : ∀ x : Nat, x = (if zof v u sp.1 sn.1.1 i j 4 = [] then 0 else (dn ++ zof v u sp.1 sn.1.1 i j 4).length) → zW L xs mX4_changeNodes 2 [some (.ref f), some (.ref d), some (.int (nI (i + 1))), some (.int (nI j)), some (.int (nI dn.length)), some (.int (nI (5 + 4)))] [] (I'', R, z_up A'' (f + 5) j (nI x), lo, dd) Φ := by
              intro x hx
              refine ih _ _ _ _ _ (zFr_rd g1) (cSc_rd g2 (by decide)) (fun j' hjl' hj' => ?_)
              by_cases e : j' = j
              · rw [e, zup_s, hx]
                split
                · next z =>
                  rw [z, List.append_nil]
                  have := zl_no (p := zq48 j) (l := []) (m := dn) (fun e he => hdm e he j hj)
                  rw [List.nil_append] at this
                  rw [this]
                  rfl
                · next z =>
                  rw [zl_all (fun e he => ?_) z]
                  obtain ⟨k, h5, rfl, h7⟩ := zmf he
                  simp [zq48]
                  omega
              · rw [zup_n (fun z => e z.2), g5, zl_no (fun e he => ?_)]
                · refine h3 j' hjl' ?_
                  rcases hj' with hj' | ⟨i', q1, q2⟩
                  · exact Or.inl hj'
                  · refine Or.inr ⟨i', ?_, q2⟩
                    by_cases e' : i' = i
                    · rw [e', hj] at q2; cases q2; exact absurd rfl e
                    · omega
                · obtain ⟨k, h5, rfl, h7⟩ := zmf he
                  simp [zq48]
                  omega
            refine vc_X4_changeNodes_34 hf hd ?_
            simp (disch := omega) only [ze_lit, pk_mul, nI_add, nI_clamp, ze_inI, nI_ltI, nI_eq, hc2]
            refine ⟨fun _ => ⟨fun q => ⟨by omega, ?_⟩, fun q => ⟨by omega, ?_⟩⟩, fun z => absurd (by omega) z⟩
            · exact hgo 0 (by rw [if_pos (List.length_eq_zero_iff.mp (by omega))])
            · exact hgo _ (by rw [if_neg (fun z => by rw [z, List.append_nil] at q; exact q rfl)])
          · intro m hm4 ih2 I'' A'' g1 g5 g2
            have hE2 := zEn_fr hb ha hd hf (by decide) hE g1
            have hc2 := g2.1
            have hl2 : (dn ++ zof v u sp.1 sn.1.1 i j m).length = dn.length + (zof v u sp.1 sn.1.1 i j m).length := List.length_append
            have hls : zof v u sp.1 sn.1.1 i j (m + 1) = zof v u sp.1 sn.1.1 i j m ++ zon v u sp.1 sn.1.1 i j (5 + m) := zfm_s _ _
            have hl3 : (zof v u sp.1 sn.1.1 i j (m + 1)).length ≤ (zof v u sp.1 sn.1.1 i j 4).length := zfm_le (g := fun k => zon v u sp.1 sn.1.1 i j (5 + k)) (by omega)
            rw [hls, List.length_append] at hl3
            rw [hls, ← List.append_assoc] at ih2
            refine vc_X4_changeNodes_34 hf hd ?_
            simp (disch := omega) only [ze_lit, pk_mul, nI_add, nI_clamp, ze_inI, nI_ltI, nI_eq, hc2]
            refine ⟨fun z => absurd z (by omega), fun _ => s1_needs hd hb ha hRb hRa hE2 hwf hwu hmp hm (by omega) hi hjl (fun z => zk_r (vc_X4_changeNodes_49 hf hd ?_)) (fun z => zk_r (vc_X4_changeNodes_49 hf hd ?_))⟩
            · have hq : zon v u sp.1 sn.1.1 i j (5 + m) = [(5 + m, some i, some j)] := if_pos z
              rw [hq, show [((5 + m, some i, some j) : zOp)].length = 1 from rfl] at hl3
              rw [hq] at ih2
              simp (disch := omega) only [ze_lit, pk_mul, nI_add, nI_clamp, ze_inI, nI_ltI, nI_eq, hc2]
              refine ⟨fun q => absurd q (by decide), fun _ => ⟨fun _ => ⟨by omega, by omega, by omega, ?_⟩, fun z => absurd (by omega) z⟩⟩
              refine ih2 _ _ (zFr_put g1) ?_ (cSc_put g2 rfl rfl rfl)
              rw [← g5]
              funext y
              rw [zup_n (by omega), zup_n (by omega), zup_n (by omega)]
            · have hq : zon v u sp.1 sn.1.1 i j (5 + m) = [] := if_neg (by rw [z]; decide)
              rw [hq, List.append_nil] at ih2
              simp (disch := omega) only [ze_lit, pk_mul, nI_add, nI_clamp, ze_inI, nI_ltI, nI_eq, hc2]
              exact ⟨fun _ => ih2 _ _ g1 g5 g2, fun q => absurd trivial q⟩
        exact key2 0 (Nat.zero_le _) I' A' h1 rfl (by simpa [zof] using h2)
  refine key 0 (Nat.zero_le _) none none none I A (zFr_rf _ _ _ _) ?_ (fun j hj hz => ?_)
  · simpa using hc
  · have := hr j hj (hz.resolve_right (fun ⟨i', q, _⟩ => absurd q (Nat.not_lt_zero _)))
    simpa using this
end
