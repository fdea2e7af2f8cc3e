/-! the class's trees: cut, moved -/
def zan (v : zV) (n : Nat) : Nat → Nat
  | 0 => n
  | d + 1 => match vpar v (zan v n d) with
    | none => zan v n d
    | some p => p
theorem zan_ok {v : zV} (hw : zwf v) {n : Nat} (hn : n < vN v) : ∀ j, j < vdep v n → zan v n j < vN v ∧ vdep v (zan v n j) = vdep v n - j := by
  intro j
  induction j with
  | zero => intro _; exact ⟨hn, rfl⟩
  | succ j ih =>
    intro hj
    obtain ⟨h1, h2⟩ := ih (by omega)
    unfold zan
    split
    · next q =>
      have := hw.2.2.2.2.1 _ h1 q
      omega
    · next p q =>
      have := hw.2.2.2.1 _ p h1 q
      exact ⟨by omega, by omega⟩
theorem ze_adds {a b c : Nat} (h : c ≤ a + b) : nI a + (nI b - nI c) = nI (a + b - c) := by
  have h1 : nI a + (nI b - nI c) + nI c = nI (a + b - c) + nI c := by
    rw [Int32.add_assoc, Int32.sub_add_cancel, nI_add, nI_add]
    congr 1
    omega
  have h2 : nI a + (nI b - nI c) + nI c - nI c = nI (a + b - c) + nI c - nI c := by rw [h1]
  rw [Int32.add_sub_cancel, Int32.add_sub_cancel] at h2
  exact h2
section
variable {L : Nat} {xs : Nat → Int32} {I : Nat → Nat → Int32} {R : Nat → Nat → Option Nat} {A : Nat → Nat → Int32} {lo : Int64} {dd : UInt64} {Φ : zPo} {b : Nat} {v : zV}
theorem s2_ancestor (hb : z_ib b) (hv : cIm b v I A) (hw : zwf v) {n l : Nat} (hn : n < vN v) (hl : 1 ≤ l ∧ l ≤ vdep v n) (h : Φ (.inl (some (.int (nI (zan v n (vdep v n - l)))))) (I, R, A, lo, dd) 0) : zC L xs mX2_ancestor [.ref b, .int (nI n), .int (nI l)] (I, R, A, lo, dd) Φ := by
  have hw' := hw
  obtain ⟨w1, w2, w3, w4, w5, w6, w7, w8, w9⟩ := hw'
  obtain ⟨hS, hP, hN, p0, p1, p2, n0, n1, n2, n3, n4, n5, n6⟩ := hv
  refine zC_en (vc_X2_ancestor_0 hb ?_)
  simp (disch := omega) only [ze_lit, pk_mul, nI_add, nI_clamp, ze_inI, nI_ltI, nI_eq, n6]
  refine ⟨by omega, ?_⟩
  have hd5 := w6 n hn
  have key : ∀ j, j ≤ vdep v n - l → zW L xs mX2_ancestor 10 [some (.ref b), some (.int (nI n)), some (.int (nI l)), some (.int (nI (zan v n j))), some (.int (nI (vdep v n - j)))] [] (I, R, A, lo, dd) Φ := by
    refine ze_up ?_ ?_
    · refine vc_X2_ancestor_10 hb ?_
      simp (disch := omega) only [ze_lit, pk_mul, nI_add, nI_clamp, ze_inI, nI_ltI, nI_eq]
      exact ⟨fun q => absurd q (by omega), fun _ => h⟩
    · intro j hj ih
      obtain ⟨a1, a2⟩ := zan_ok hw hn j (by omega)
      have e0 := n4 _ a1
      have e9 : nI (vdep v n - j) + -nI 1 = nI (vdep v n - (j + 1)) := by
        rw [show vdep v n - j = (vdep v n - (j + 1)) + 1 by omega]
        exact ze_dec _
      refine vc_X2_ancestor_10 hb ?_
      unfold zan at ih
      cases hx : vpar v (zan v n j) with
      | none =>
        have := w5 _ a1 hx
        omega
      | some p =>
        rw [hx] at e0 ih
        have hpl := zpar_lt hw a1 hx
        replace e0 : A (b + 8) (zan v n j) = nI p := e0
        simp (disch := omega) only [ze_lit, pk_mul, nI_add, nI_clamp, ze_inI, nI_ltI, nI_eq, e0, ze_m1n, e9]
        exact ⟨fun _ => ⟨by omega, fun z => z.elim, fun _ => ⟨by omega, ih⟩⟩, fun z => absurd (by omega) z⟩
  exact key 0 (Nat.zero_le _)
theorem s2_orderRange (hb : z_ib b) {c f t : Nat} (hc : c + (t - f) ≤ 24) (ht : t ≤ 24) (hf : f ≤ 24) (h : ∀ A' : Nat → Nat → Int32, (∀ k, k ≠ b + 11 → A' k = A k) → (∀ k, A' (b + 11) k = if c ≤ k ∧ k < c + (t - f) then nI (f + (k - c)) else A (b + 11) k) → Φ (.inl (some (.int (nI (c + (t - f)))))) (I, R, A', lo, dd) 0) : zC L xs mX2_orderRange [.ref b, .int (nI c), .int (nI f), .int (nI t)] (I, R, A, lo, dd) Φ := by
  refine zC_en (vc_X2_orderRange_0 hb ?_)
  have key : ∀ j, j ≤ t - f → ∀ A' : Nat → Nat → Int32, (∀ k, k ≠ b + 11 → A' k = A k) → (∀ k, A' (b + 11) k = if c ≤ k ∧ k < c + j then nI (f + (k - c)) else A (b + 11) k) → zW L xs mX2_orderRange 6 [some (.ref b), some (.int (nI c)), some (.int (nI f)), some (.int (nI t)), some (.int (nI (c + j))), some (.int (nI (f + j)))] [] (I, R, A', lo, dd) Φ := by
    refine ze_up ?_ ?_
    · intro A' h1 h2
      refine vc_X2_orderRange_6 hb ?_
      simp (disch := omega) only [ze_lit, pk_mul, nI_add, nI_clamp, ze_inI, nI_ltI, nI_eq]
      exact ⟨fun q => absurd q (by omega), fun _ => h A' h1 h2⟩
    · intro j hj ih A' h1 h2
      refine vc_X2_orderRange_6 hb ?_
      simp (disch := omega) only [ze_lit, pk_mul, nI_add, nI_clamp, ze_inI, nI_ltI, nI_eq]
      refine ⟨fun _ => ⟨fun _ => ⟨by omega, ih _ (fun k hk => ?_) (fun k => ?_)⟩, fun z => absurd (by omega) z⟩, fun q => absurd (by omega) q⟩
      · funext z
        rw [zup_n (fun q => hk q.1)]
        exact congrFun (h1 k hk) z
      · by_cases e : k = c + j
        · rw [e, zup_s, if_pos (by omega), Nat.add_sub_cancel_left]
        · rw [zup_n (fun q => e q.2), h2 k]
          by_cases q : c ≤ k ∧ k < c + j
          · rw [if_pos q, if_pos (by omega)]
          · rw [if_neg q, if_neg (by omega)]
  refine key 0 (Nat.zero_le _) A (fun _ _ => rfl) (fun k => ?_)
  rw [if_neg (by omega)]
theorem s2_cutTree (hb : z_ib b) (hv : cIm b v I A) (hw : zwf v) {n : Nat} (hn : n < vN v) (h : ∀ I' A' : Nat → Nat → Int32, (∀ c j, ¬ (c = b ∧ j = 5) → I' c j = I c j) → (∀ c, ¬ (b + 4 ≤ c ∧ c ≤ b + 13) → A' c = A c) → cIm b (zrm v n) I' A' → Φ (.inl (some (.int (nI (zte v n - n))))) (I', R, A', lo, dd) 0) : zC L xs mX2_cutTree [.ref b, .int (nI n)] (I, R, A, lo, dd) Φ := by
  obtain ⟨r1, r2, r3, r4⟩ := zwf_rm hw hn
  have hg := zte_gt v n
  have hl := zte_le hn
  have w1 := hw.1
  have w2 := hw.2.1
  have w3 := hw.2.2.1
  refine zC_en (vc_X2_cutTree_0 hb (s2_treeEnd hb hv hw hn (zk_r (vc_X2_cutTree_5 hb ?_))))
  have key : ∀ k, k ≤ vN v → ∀ A' : Nat → Nat → Int32, (∀ c, c ≠ b + 11 → A' c = A c) → (∀ j, j < (if k ≤ n then k else if k ≤ zte v n then n else k - (zte v n - n)) → A' (b + 11) j = nI (zor n (zte v n - n) j)) → zW L xs mX2_cutTree 11 [some (.ref b), some (.int (nI n)), some (.int (nI (zte v n))), some (.int (nI (if k ≤ n then k else if k ≤ zte v n then n else k - (zte v n - n)))), some (.int (nI k))] [] (I, R, A', lo, dd) Φ := by
    refine ze_up ?_ ?_
    · intro A' h1 h2
      have hN : I b 5 = nI (vN v) := hv.2.2.1
      have hv' : cIm b v I A' := by
        obtain ⟨hS, hP, hN, p0, p1, p2, n0, n1, n2, n3, n4, n5, n6⟩ := hv
        refine ⟨hS, hP, hN, ?_, ?_, ?_, ?_, ?_, ?_, ?_, ?_, ?_, ?_⟩ <;> rw [h1 _ (by omega)] <;> assumption
      have e : (if vN v ≤ n then vN v else if vN v ≤ zte v n then n else vN v - (zte v n - n)) = vN v - (zte v n - n) := by
        split
        · omega
        · split <;> omega
      rw [e] at h2 ⊢
      refine vc_X2_cutTree_11 hb ?_
      simp (disch := omega) only [ze_lit, pk_mul, nI_add, nI_clamp, ze_inI, nI_ltI, nI_eq, hN]
      refine ⟨fun q => absurd q (Nat.lt_irrefl _), fun _ => ?_⟩
      refine s2_reorder hb hv' w2 (fun n hn => Nat.lt_of_lt_of_le (w3 n hn) w1) hw.2.2.2.2.2.1 (by omega) r2 (fun k hk => ⟨h2 k hk, r3 k hk⟩) r4 (fun I'' A'' f1 f2 g1 g2 => zk_r (vc_X2_cutTree_54 hb ?_))
      rw [ze_sub (by omega)]
      exact h I'' A'' f1 (fun c hc => by rw [f2 c hc, h1 c (by omega)]) g1
    · intro k hk ih A' h1 h2
      have hN : I b 5 = nI (vN v) := hv.2.2.1
      have hq24 : (if k ≤ n then k else if k ≤ zte v n then n else k - (zte v n - n)) < 24 := by
        split
        · omega
        · split <;> omega
      generalize hq : (if k ≤ n then k else if k ≤ zte v n then n else k - (zte v n - n)) = q at h2 hq24 ⊢
      have hput : ∀ q', q' = q + 1 → q' = (if k + 1 ≤ n then k + 1 else if k + 1 ≤ zte v n then n else k + 1 - (zte v n - n)) → zor n (zte v n - n) q = k → zW L xs mX2_cutTree 11 [some (.ref b), some (.int (nI n)), some (.int (nI (zte v n))), some (.int (nI (q + 1))), some (.int (nI (k + 1)))] [] (I, R, z_up A' (b + 11) q (nI k), lo, dd) Φ := by
        intro q' e1 e2 e3
        rw [← e1, e2]
        refine ih _ (fun c hc => ?_) (fun j hj => ?_)
        · funext z
          rw [zup_n (fun q => hc q.1)]
          exact congrFun (h1 c hc) z
        · rw [← e2, e1] at hj
          by_cases e : j = q
          · rw [e, zup_s, e3]
          · rw [zup_n (fun z => e z.2)]
            exact h2 j (by omega)
      refine vc_X2_cutTree_11 hb ?_
      simp (disch := omega) only [ze_lit, pk_mul, nI_add, nI_clamp, ze_inI, nI_ltI, nI_eq, hN]
      refine ⟨fun _ => ⟨fun q1 => ⟨by omega, ?_⟩, fun q1 => ⟨fun q2 => ?_, fun q2 => ⟨by omega, ?_⟩⟩⟩, fun z => absurd hk z⟩
      · rw [if_pos (by omega)] at hq
        exact hput (k + 1) (by omega) (by rw [if_pos (by omega)]) (by rw [← hq]; exact if_pos q1)
      · have e1 : q = n := by
          rw [← hq]
          split
          · omega
          · rw [if_pos (by omega)]
        have e2 : n = (if k + 1 ≤ n then k + 1 else if k + 1 ≤ zte v n then n else k + 1 - (zte v n - n)) := by rw [if_neg (by omega), if_pos (by omega)]
        have h9 := ih A' h1 (fun j hj => h2 j (by rw [← e2] at hj; omega))
        rw [← e2] at h9
        rw [e1]
        exact h9
      · have e1 : q = k - (zte v n - n) := by
          rw [← hq]
          split
          · omega
          · split <;> omega
        refine hput (k + 1 - (zte v n - n)) (by omega) (by rw [if_neg (by omega), if_neg (by omega)]) ?_
        unfold zor
        rw [if_neg (by omega)]
        omega
  have := key 0 (Nat.zero_le _) A (fun _ _ => rfl) (fun j hj => absurd hj (by rw [if_pos (Nat.zero_le _)]; exact Nat.not_lt_zero _))
  rw [if_pos (Nat.zero_le _)] at this
  exact this
theorem s2_canHold (hb : z_ib b) (hv : cIm b v I A) (hw : zwf v) {n d : Nat} (hn : n < vN v) (hd : d < vN v) (h1 : vnd v 2 d = -1 ∧ vhom v d = vhom v n ∧ ¬ (n ≤ d ∧ d < zte v n) → Φ (.inl (some (.int 1))) (I, R, A, lo, dd) 0) (h0 : ¬ (vnd v 2 d = -1 ∧ vhom v d = vhom v n ∧ ¬ (n ≤ d ∧ d < zte v n)) → Φ (.inl (some (.int 0))) (I, R, A, lo, dd) 0) : zC L xs mX2_canHold [.ref b, .int (nI d), .int (nI n)] (I, R, A, lo, dd) Φ := by
  have hE : ∀ {Ψ : zPo}, Ψ (.inl (some (.int (nI (zte v n))))) (I, R, A, lo, dd) 0 → zC L xs mX2_treeEnd [.ref b, .int (nI n)] (I, R, A, lo, dd) Ψ := fun q => s2_treeEnd hb hv hw hn q
  obtain ⟨hS, hP, hN, p0, p1, p2, n0, n1, n2, n3, n4, n5, n6⟩ := hv
  obtain ⟨w1, w2, w3, w4, w5, w6, w7, w8, w9⟩ := hw
  have b1 := w3 n hn
  have b2 := w3 d hd
  have hl := zte_le hn
  refine zC_en (vc_X2_canHold_0 hb ?_)
  simp (disch := omega) only [ze_lit, pk_mul, nI_add, nI_clamp, ze_inI, nI_ltI, nI_eq, n2, n5]
  simp only [ze_m1r]
  refine ⟨fun q => ⟨by omega, fun q1 => ⟨by omega, by omega, fun q2 => h1 ⟨q1, q2, by omega⟩, fun q2 => h0 (fun z => q2 z.2.1)⟩, fun q1 => h0 (fun z => q1 z.1)⟩, fun q => hE (zk_r (vc_X2_canHold_11 hb ?_))⟩
  simp (disch := omega) only [ze_lit, pk_mul, nI_add, nI_clamp, ze_inI, nI_ltI, nI_eq, n2, n5]
  simp only [ze_m1r]
  refine ⟨fun q3 => ⟨by omega, fun q1 => ⟨by omega, by omega, fun q2 => h0 (fun z => z.2.2 (by omega)), fun q2 => h0 (fun z => q2 z.2.1)⟩, fun q1 => h0 (fun z => q1 z.1)⟩, fun q3 => ⟨by omega, fun q1 => ⟨by omega, by omega, fun q2 => h1 ⟨q1, q2, by omega⟩, fun q2 => h0 (fun z => q2 z.2.1)⟩, fun q1 => h0 (fun z => q1 z.1)⟩⟩
theorem zmx_le5 {v : zV} (hw : zwf v) {n m : Nat} (h : n + m ≤ vN v) : zmx (vdep v) n m ≤ 5 := by
  induction m with
  | zero => unfold zmx; omega
  | succ m ih =>
    have h1 := ih (by omega)
    have h2 := hw.2.2.2.2.2.1 (n + m) (by omega)
    unfold zmx
    omega
theorem s2_depthAfterMove (hb : z_ib b) (hv : cIm b v I A) (hw : zwf v) {n : Nat} (hn : n < vN v) {o : Option Nat} (ho : ∀ d, o = some d → d < vN v) (h : Φ (.inl (some (.int (nI (zmx (vdep v) n (zte v n - n) - vdep v n + (zdo v o + 1)))))) (I, R, A, lo, dd) 0) : zC L xs mX2_depthAfterMove [.ref b, .int (nI n), .int (zpI o)] (I, R, A, lo, dd) Φ := by
  have hg := zte_gt v n
  have hl := zte_le hn
  have hv' := hv
  obtain ⟨hS, hP, hN, p0, p1, p2, n0, n1, n2, n3, n4, n5, n6⟩ := hv'
  have w2 := hw.2.1
  have w6 := hw.2.2.2.2.2.1
  have hd5 := w6 n hn
  refine zC_en (vc_X2_depthAfterMove_0 hb (s2_treeEnd hb hv hw hn (zk_r (vc_X2_depthAfterMove_7 hb ?_))))
  have hge := zmx_ge (f := vdep v) (i := n) (m := zte v n - n) (k := 0) (by omega)
  rw [Nat.add_zero] at hge
  have hz := zmx_le5 hw (n := n) (m := zte v n - n) (by omega)
  have := s2_greatestDepth (L := L) (xs := xs) (R := R) (lo := lo) (dd := dd) (Φ := z_kont [] (fun r τ Ψ => zW L xs mX2_depthAfterMove 10 [some (.ref b), some (.int (nI n)), some (.int (zpI o))] (r.toList ++ []) τ Ψ) Φ) hb hv w2 w6 (i := n) (m := zte v n - n) (by omega)
  rw [show n + (zte v n - n) = zte v n by omega] at this
  refine this (zk_r (vc_X2_depthAfterMove_10 hb ?_))
  cases o with
  | none =>
    simp (disch := omega) only [ze_lit, pk_mul, nI_add, nI_clamp, ze_inI, nI_ltI, nI_eq, n6]
    refine ⟨by omega, fun _ => ?_, fun z => absurd rfl z⟩
    rw [ze_sub hge, nI_add, nI_add]
    exact h
  | some d =>
    have hd := ho d rfl
    have hdd := w6 d hd
    rw [show zpI (some d) = nI d from rfl]
    simp (disch := omega) only [ze_lit, pk_mul, nI_add, nI_clamp, ze_inI, nI_ltI, nI_eq, n6]
    refine ⟨by omega, fun z => ((ze_m1 (by omega)).mp z).elim, fun _ => ⟨by omega, ?_⟩⟩
    rw [ze_sub hge, nI_add, nI_add]
    exact h
theorem s2_moveTree (hb : z_ib b) (hv : cIm b v I A) (hw : zwf v) {n : Nat} (hn : n < vN v) {o : Option Nat} (hc : zcan v n o) (h : ∀ I' A' : Nat → Nat → Int32, (∀ c j, ¬ (c = b ∧ j = 5) → I' c j = I c j) → (∀ c, ¬ (b + 4 ≤ c ∧ c ≤ b + 13) → A' c = A c) → cIm b (zmv v n o) I' A' → Φ (.inl (some (.int (nI (if zbh v n o ≤ n then zbh v n o else zbh v n o - (zte v n - n)))))) (I', R, A', lo, dd) 0) : zC L xs mX2_moveTree [.ref b, .int (nI n), .int (zpI o)] (I, R, A, lo, dd) Φ := by
  have hg := zte_gt v n
  have hl := zte_le hn
  obtain ⟨b1, b2, b3, b4, b5, b6⟩ := zbh_ok hw hn hc
  obtain ⟨o1, o2, o3, o4, o5, o6, o7, o8⟩ := zom_ok hg hl b1 b2
  have hw' := hw
  obtain ⟨w1, w2, w3, w4, w5, w6, w7, w8, w9⟩ := hw'
  have hv' := hv
  obtain ⟨hS, hP, hN, p0, p1, p2, n0, n1, n2, n3, n4, n5, n6⟩ := hv'
  have hd5 := w6 n hn
  have hdn := zdep_pos hw hn
  have hdo : zdo v o ≤ 5 := by
    cases o with
    | none => exact Nat.zero_le _
    | some d => exact w6 d (hc.1 d rfl).1
  have h3h := w3 n hn
  refine zC_en (vc_X2_moveTree_0 hb (s2_treeEnd hb hv hw hn (zk_r (vc_X2_moveTree_5 hb ?_))))
  -- from the loop over depths on
  have hgo : zW L xs mX2_moveTree 50 [some (.ref b), some (.int (nI n)), some (.int (zpI o)), some (.int (nI (zte v n))), some (.int (nI (zbh v n o))), some (.int (nI (zdo v o + 1) - nI (vdep v n))), some (.int (nI n))] [] (I, R, A, lo, dd) Φ := by
    have d3 : ∀ x, (n ≤ x ∧ x < zte v n) → vdep v n ≤ vdep v x := fun x q => by
      by_cases e : n = x
      · rw [e]; exact Nat.le_refl _
      · exact Nat.le_of_lt (zte_in (v := v) (by omega) q.2).2
    have key : ∀ j, j ≤ zte v n - n → ∀ A' : Nat → Nat → Int32, (∀ c, c ≠ b + 10 → A' c = A c) → (∀ x, x < vN v → A' (b + 10) x = if n ≤ x ∧ x < n + j then nI (vdep v x + (zdo v o + 1) - vdep v n) else nI (vdep v x)) → zW L xs mX2_moveTree 50 [some (.ref b), some (.int (nI n)), some (.int (zpI o)), some (.int (nI (zte v n))), some (.int (nI (zbh v n o))), some (.int (nI (zdo v o + 1) - nI (vdep v n))), some (.int (nI (n + j)))] [] (I, R, A', lo, dd) Φ := by
      refine ze_up ?_ ?_
      · intro A' h1 h2
        rw [show n + (zte v n - n) = zte v n by omega] at h2 ⊢
        refine vc_X2_moveTree_50 hb ?_
        simp (disch := omega) only [ze_lit, pk_mul, nI_add, nI_clamp, ze_inI, nI_ltI, nI_eq]
        refine ⟨fun q => absurd q (Nat.lt_irrefl _), fun _ => ⟨by omega, ?_⟩⟩
        -- the image with the new depths and the new parent
        have hv1 : cIm b (zv1 v n o) I (z_up A' (b + 8) n (zpI o)) := by
          refine ⟨hS, hP, hN, fun p hp => ?_, fun p hp => ?_, fun p hp => ?_, fun k hk => ?_, fun k hk => ?_, fun k hk => ?_, fun k hk => ?_, fun k hk => ?_, fun k hk => ?_, fun k hk => ?_⟩
          · rw [zup_n (by omega), h1 _ (by omega)]; exact p0 p hp
          · rw [zup_n (by omega), h1 _ (by omega)]; exact p1 p hp
          · rw [zup_n (by omega), h1 _ (by omega)]; exact p2 p hp
          · rw [zup_n (by omega), h1 _ (by omega)]; exact n0 k hk
          · rw [zup_n (by omega), h1 _ (by omega)]; exact n1 k hk
          · rw [zup_n (by omega), h1 _ (by omega)]; exact n2 k hk
          · rw [zup_n (by omega), h1 _ (by omega)]; exact n3 k hk
          · show _ = zpI (if k = n then o else vpar v k)
            by_cases e : k = n
            · rw [e, zup_s, if_pos rfl]
            · rw [zup_n (fun z => e z.2), h1 _ (by omega), if_neg e]; exact n4 k hk
          · rw [zup_n (by omega), h1 _ (by omega)]; exact n5 k hk
          · rw [zup_n (by omega), h2 k hk]
            show _ = nI (if n ≤ k ∧ k < zte v n then vdep v k + (zdo v o + 1) - vdep v n else vdep v k)
            split <;> rfl
        have hA1 : ∀ c, c ≠ b + 10 → c ≠ b + 8 → z_up A' (b + 8) n (zpI o) c = A c := fun c c1 c2 => by
          funext z
          rw [zup_n (fun q => c2 q.1)]
          exact congrFun (h1 c c1) z
        generalize z_up A' (b + 8) n (zpI o) = A1 at hv1 hA1 ⊢
        clear h1 h2
        have hmin : (if zbh v n o < n then nI (zbh v n o) else nI n) = nI (if zbh v n o < n then zbh v n o else n) := by split <;> rfl
        -- at the end
        have hend : ∀ x6 : Nat, ∀ A4 : Nat → Nat → Int32, (∀ c, c ≠ b + 11 → A4 c = A1 c) → (∀ k, k < vN v → A4 (b + 11) k = nI (zom n (zte v n - n) (zbh v n o) k)) → zC L xs mX2_reorder [.ref b, .int (nI (vN v))] (I, R, A4, lo, dd) (z_kont [] (fun r τ Ψ => zW L xs mX2_moveTree 179 [some (.ref b), some (.int (nI n)), some (.int (zpI o)), some (.int (nI (zte v n))), some (.int (nI (zbh v n o))), some (.int (nI (zdo v o + 1) - nI (vdep v n))), some (.int (nI x6))] (r.toList ++ []) τ Ψ) Φ) := by
          intro x6 A4 f1 g1
          have hv4 : cIm b (zv1 v n o) I A4 := by
            obtain ⟨hS, hP, hN, p0, p1, p2, n0, n1, n2, n3, n4, n5, n6⟩ := hv1
            refine ⟨hS, hP, hN, ?_, ?_, ?_, ?_, ?_, ?_, ?_, ?_, ?_, ?_⟩ <;> rw [f1 _ (by omega)] <;> assumption
          have hdd : ∀ x, x < vN v → vdep (zv1 v n o) x ≤ 5 := by
            intro x hx
            show (if n ≤ x ∧ x < zte v n then vdep v x + (zdo v o + 1) - vdep v n else vdep v x) ≤ 5
            split
            · next q =>
              have h1 := zmx_ge (f := vdep v) (i := n) (m := zte v n - n) (k := x - n) (by omega)
              rw [show n + (x - n) = x by omega] at h1
              have h2 := hc.2
              omega
            · exact w6 x hx
          refine s2_reorder hb hv4 w2 (fun n hn => Nat.lt_of_lt_of_le (w3 n hn) w1) hdd w2 o2 (fun k hk => ⟨g1 k hk, o1 k hk⟩) (fun k p hk hp => ?_) (fun I' A' q1 q2 q3 q4 => zk_r (vc_X2_moveTree_179 hb ?_))
          · have hpl : p < vN v := by
              replace hp : (if zom n (zte v n - n) (zbh v n o) k = n then o else vpar v (zom n (zte v n - n) (zbh v n o) k)) = some p := hp
              split at hp
              · exact (hc.1 p hp).1
              · have := (w4 _ p (o1 k hk) hp).1
                have := o1 k hk
                omega
            exact o3 p hpl
          · have e9 := q4 _ o8
            rw [o7] at e9
            have e8 : (if zbh v n o ≤ n then zbh v n o else zbh v n o - (zte v n - n)) < 24 := by omega
            simp (disch := omega) only [ze_lit, pk_mul, nI_add, nI_clamp, ze_inI, nI_ltI, nI_eq, e9]
            exact ⟨by omega, h I' A' q1 (fun c hc => by rw [q2 c hc, f1 c (by omega), hA1 c (by omega) (by omega)]) q3⟩
        rw [hmin]
        refine s2_orderRange hb (c := 0) (f := 0) (t := if zbh v n o < n then zbh v n o else n) (by split <;> omega) (by split <;> omega) (by omega) (fun A2 f2 g2 => zk_r (vc_X2_moveTree_93 hb ?_))
        simp only [Nat.zero_add, Nat.sub_zero] at g2 ⊢
        by_cases q : zbh v n o ≤ n
        · have hm0 : (if zbh v n o < n then zbh v n o else n) = zbh v n o := by split <;> omega
          rw [hm0] at g2 ⊢
          refine ⟨fun _ => ?_, fun z => absurd (nI_lt (by omega) (by omega)) z⟩
          refine s2_orderRange hb (by omega) (by omega) (by omega) (fun A3 f3 g3 => zk_r (vc_X2_moveTree_109 hb ?_))
          refine s2_orderRange hb (by omega) (by omega) (by omega) (fun A4 f4 g4 => zk_r (vc_X2_moveTree_120 hb ?_))
          rw [hN]
          refine s2_orderRange hb (by omega) (by omega) (by omega) (fun A5 f5 g5 => zk_r (vc_X2_moveTree_133 hb ?_))
          rw [show zbh v n o + (zte v n - n) + (n - zbh v n o) + (vN v - zte v n) = vN v by omega] at *
          refine hend _ A5 (fun c hc => by rw [f5 c hc, f4 c hc, f3 c hc, f2 c hc]) (fun k hk => ?_)
          rw [g5 k, g4 k, g3 k, g2 k]
          unfold zom
          rw [if_pos q]
          by_cases k1 : k < zbh v n o
          · rw [if_neg (by omega), if_neg (by omega), if_neg (by omega), if_pos (by omega), if_pos k1]
          · by_cases k2 : k < zbh v n o + (zte v n - n)
            · rw [if_neg (by omega), if_neg (by omega), if_pos (by omega), if_neg k1, if_pos k2]
            · by_cases k3 : k < n + (zte v n - n)
              · rw [if_neg (by omega), if_pos (by omega), if_neg k1, if_neg k2, if_pos k3]
                congr 1
                omega
              · rw [if_pos (by omega), if_neg k1, if_neg k2, if_neg k3]
                congr 1
                omega
        · have hm0 : (if zbh v n o < n then zbh v n o else n) = n := by split <;> omega
          rw [hm0] at g2 ⊢
          refine ⟨fun z => absurd z (nI_nlt (by omega) (by omega)), fun _ => ?_⟩
          refine s2_orderRange hb (by omega) (by omega) (by omega) (fun A3 f3 g3 => zk_r (vc_X2_moveTree_147 hb ?_))
          refine s2_orderRange hb (by omega) (by omega) (by omega) (fun A4 f4 g4 => zk_r (vc_X2_moveTree_157 hb ?_))
          rw [hN]
          refine s2_orderRange hb (by omega) (by omega) (by omega) (fun A5 f5 g5 => zk_r (vc_X2_moveTree_171 hb ?_))
          rw [show n + (zbh v n o - zte v n) + (zte v n - n) + (vN v - zbh v n o) = vN v by omega] at *
          refine hend _ A5 (fun c hc => by rw [f5 c hc, f4 c hc, f3 c hc, f2 c hc]) (fun k hk => ?_)
          rw [g5 k, g4 k, g3 k, g2 k]
          unfold zom
          rw [if_neg q]
          by_cases k1 : k < n
          · rw [if_neg (by omega), if_neg (by omega), if_neg (by omega), if_pos (by omega), if_pos k1]
          · by_cases k2 : k < zbh v n o - (zte v n - n)
            · rw [if_neg (by omega), if_neg (by omega), if_pos (by omega), if_neg k1, if_pos k2]
              congr 1
              omega
            · by_cases k3 : k < zbh v n o
              · rw [if_neg (by omega), if_pos (by omega), if_neg k1, if_neg k2, if_pos k3]
                congr 1
                omega
              · rw [if_pos (by omega), if_neg k1, if_neg k2, if_neg k3]
                congr 1
                omega
      · intro j hj ih A' h1 h2
        have e1 := h2 (n + j) (by omega)
        rw [if_neg (by omega)] at e1
        have hdx := w6 (n + j) (by omega)
        have hd3 := d3 (n + j) ⟨by omega, by omega⟩
        refine vc_X2_moveTree_50 hb ?_
        simp (disch := omega) only [ze_lit, pk_mul, nI_add, nI_clamp, ze_inI, nI_ltI, nI_eq, e1]
        refine ⟨fun _ => ⟨by omega, by omega, ?_⟩, fun q => absurd (by omega) q⟩
        rw [ze_adds (by omega)]
        refine ih _ (fun c hc => ?_) (fun x hx => ?_)
        · funext z
          rw [zup_n (fun q => hc q.1)]
          exact congrFun (h1 c hc) z
        · by_cases e : x = n + j
          · rw [e, zup_s, if_pos (by omega)]
          · rw [zup_n (fun z => e z.2), h2 x hx]
            by_cases q : n ≤ x ∧ x < n + j
            · rw [if_pos q, if_pos (by omega)]
            · rw [if_neg q, if_neg (by omega)]
    refine key 0 (Nat.zero_le _) A (fun _ _ => rfl) (fun x hx => ?_)
    rw [if_neg (by omega)]
    exact n6 x hx
  cases o with
  | none =>
    refine ⟨fun _ => ?_, fun z => absurd rfl z⟩
    simp (disch := omega) only [ze_lit, pk_mul, nI_add, nI_clamp, ze_inI, nI_ltI, nI_eq, n5]
    refine ⟨by omega, s2_partitionEnd hb hv hw (by omega) (zk_r (vc_X2_moveTree_21 hb ⟨fun _ => ?_, fun z => absurd rfl z⟩))⟩
    simp (disch := omega) only [ze_lit, pk_mul, nI_add, nI_clamp, ze_inI, nI_ltI, nI_eq, n6]
    exact ⟨by omega, hgo⟩
  | some d =>
    have hd := (hc.1 d rfl).1
    have hdd := w6 d hd
    refine ⟨fun z => ((ze_m1 (by omega)).mp z).elim, fun _ => s2_treeEnd hb hv hw hd (zk_r (vc_X2_moveTree_29 hb ⟨fun z => ((ze_m1 (by omega)).mp z).elim, fun _ => ?_⟩))⟩
    show z_in (nI d) 24 ∧ (z_in (nI n) 24 ∧ zW L xs mX2_moveTree 50 [some (.ref b), some (.int (nI n)), some (.int (nI d)), some (.int (nI (zte v n))), some (.int (nI (zte v d))), some (.int (A (b + 10) (nI d).toNatClampNeg + 1 - A (b + 10) (nI n).toNatClampNeg)), some (.int (nI n))] [] (I, R, A, lo, dd) Φ)
    simp (disch := omega) only [ze_lit, pk_mul, nI_add, nI_clamp, ze_inI, nI_ltI, nI_eq, n6]
    exact ⟨by omega, by omega, hgo⟩
end
