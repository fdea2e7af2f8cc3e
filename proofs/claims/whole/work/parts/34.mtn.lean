/-! Identity: nodes -/
theorem ze_dec (n : Nat) : nI (n + 1) + -nI 1 = nI n := by
  show nI (n + 1) + -1 = nI n
  rw [nI_succ, Int32.add_assoc, show ((1 : Int32) + -1) = 0 from by decide, Int32.add_zero]
theorem zpI_eqn {o : Option Nat} {k : Nat} (h : ∀ j, o = some j → j < 2 ^ 31) (hk : k < 2 ^ 31) : (zpI o = nI k) ↔ o = some k := by
  rw [← zpI_inj (o := o) (q := some k) h (fun j e => by cases e; exact hk)]
  rfl
theorem zdep_pos {v : zV} (hw : zwf v) {n : Nat} (hn : n < vN v) : 1 ≤ vdep v n := by
  obtain ⟨w1, w2, w3, w4, w5, w6, w7, w8, w9⟩ := hw
  cases hq : vpar v n with
  | none => rw [w5 n hn hq]; exact Nat.le_refl _
  | some p => have := (w4 n p hn hq).2.2.1; omega
section
variable {L : Nat} {xs : Nat → Int32} {I : Nat → Nat → Int32} {R : Nat → Nat → Option Nat} {A : Nat → Nat → Int32} {lo : Int64} {dd : UInt64} {Φ : zPo} {b a d : Nat} {v u : zV}
theorem s1_haveSamePath (hd : z_db d) (hb : z_ib b) (ha : z_ib a) (hv : cIm b v I A) (hu : cIm a u I A) (hw : zwf v) (hwu : zwf u) (hRb : R d 0 = some b) (hRa : R d 1 = some a) {i j : Nat} (hi : i < vN v) (hj : j < vN u) (h1 : zph v u i j = true → Φ (.inl (some (.int 1))) (I, R, A, lo, dd) 0) (h0 : zph v u i j = false → Φ (.inl (some (.int 0))) (I, R, A, lo, dd) 0) : zC L xs mX1_haveSamePath [.ref d, .int (nI i), .int (nI j)] (I, R, A, lo, dd) Φ := by
  obtain ⟨hS, hP, hN, p0, p1, p2, n0, n1, n2, n3, n4, n5, n6⟩ := hv
  obtain ⟨hS', hP', hN', p0', p1', p2', n0', n1', n2', n3', n4', n5', n6'⟩ := hu
  have hw' := hw
  obtain ⟨w1, w2, w3, w4, w5, w6, w7, w8, w9⟩ := hw'
  have hwu' := hwu
  obtain ⟨u1, u2, u3, u4, u5, u6, u7, u8, u9⟩ := hwu'
  have key : ∀ d', ∀ x y, x < vN v → y < vN u → vdep v x = d' → (zpw v u d' x y = true → Φ (.inl (some (.int 1))) (I, R, A, lo, dd) 0) → (zpw v u d' x y = false → Φ (.inl (some (.int 0))) (I, R, A, lo, dd) 0) → zW L xs mX1_haveSamePath 39 [some (.ref d), some (.int (nI i)), some (.int (nI j)), some (.int (nI x)), some (.int (nI y)), some (.int (nI d'))] [] (I, R, A, lo, dd) Φ := by
    intro d'
    induction d' with
    | zero => intro x y hx hy e; have := zdep_pos hw hx; omega
    | succ d' ih =>
      intro x y hx hy e g1 g0
      have b1 := w6 x hx
      refine vc_X1_haveSamePath_39 hd hb ha hRb hRa ?_
      simp (disch := omega) only [ze_lit, pk_mul, nI_add, nI_clamp, ze_inI, nI_ltI, nI_eq, ze_m1n, n0, n0', n4, n4', ze_dec]
      refine ⟨fun _ => ⟨fun z => z.elim, fun _ => ⟨fun z => z.elim, fun _ => ⟨by omega, by omega, fun q => ⟨by omega, by omega, ?_⟩, fun q => g0 (by simp [zpw, q])⟩⟩⟩, fun z => absurd (by omega) z⟩
      cases hx' : vpar v x with
      | none =>
        have e1 := w5 x hx hx'
        obtain rfl : d' = 0 := by omega
        exact vc_X1_haveSamePath_39 hd hb ha hRb hRa ⟨fun z => absurd z (by decide), fun _ => g1 (by simp [zpw, q, hx'])⟩
      | some x' =>
        obtain ⟨c1, c2, c3, c4, c5⟩ := w4 x x' hx hx'
        cases hy' : vpar u y with
        | none =>
          have e2 := zdep_pos hw (show x' < vN v by omega)
          refine vc_X1_haveSamePath_39 hd hb ha hRb hRa ⟨fun _ => ⟨fun z => ((ze_m1 (by omega)).mp z).elim, fun _ => ⟨fun _ => g1 (by simp [zpw, q, hx', hy']), fun z => absurd rfl z⟩⟩, fun z => absurd (nI_lt (a := 0) (by omega) (by omega)) z⟩
        | some y' =>
          have e2 := zpar_lt hwu hy hy'
          refine ih x' y' (by omega) (by omega) (by omega) (fun z => g1 (by simp [zpw, q, hx', hy', z])) (fun z => g0 (by simp [zpw, q, hx', hy', z]))
  refine zC_en (vc_X1_haveSamePath_0 hd hb ha hRb hRa ?_)
  have b1 := w6 i hi
  have b2 := u6 j hj
  simp (disch := omega) only [ze_lit, pk_mul, nI_add, nI_clamp, ze_inI, nI_ltI, nI_eq, n6, n6']
  refine ⟨by omega, by omega, fun q => ⟨by omega, ?_⟩, fun q => h0 (by simp [zph, q])⟩
  exact key _ i j hi hj rfl (fun z => h1 (by unfold zph; rw [decide_eq_true q, z]; rfl)) (fun z => h0 (by unfold zph; rw [z, Bool.and_false]))
theorem s1_isSameNode (hd : z_db d) (hb : z_ib b) (ha : z_ib a) (hv : cIm b v I A) (hu : cIm a u I A) (hw : zwf v) (hwu : zwf u) (hRb : R d 0 = some b) (hRa : R d 1 = some a) {s : zM} (hs : cMp d s A) (hm : zmo (vP v) (vP u) s) {w i j : Nat} (hw5 : 1 ≤ w ∧ w ≤ 5) (hi : i < vN v) (hj : j < vN u) (h1 : zln v u s.1 w i j = true → Φ (.inl (some (.int 1))) (I, R, A, lo, dd) 0) (h0 : zln v u s.1 w i j = false → Φ (.inl (some (.int 0))) (I, R, A, lo, dd) 0) : zC L xs mX1_isSameNode [.ref d, .int (nI w), .int (nI i), .int (nI j)] (I, R, A, lo, dd) Φ := by
  have hP9 : ∀ {Ψ : zPo}, (zph v u i j = true → Ψ (.inl (some (.int 1))) (I, R, A, lo, dd) 0) → (zph v u i j = false → Ψ (.inl (some (.int 0))) (I, R, A, lo, dd) 0) → zC L xs mX1_haveSamePath [.ref d, .int (nI i), .int (nI j)] (I, R, A, lo, dd) Ψ := fun g1 g0 => s1_haveSamePath hd hb ha hv hu hw hwu hRb hRa hi hj g1 g0
  obtain ⟨hS, hP, hN, p0, p1, p2, n0, n1, n2, n3, n4, n5, n6⟩ := hv
  obtain ⟨hS', hP', hN', p0', p1', p2', n0', n1', n2', n3', n4', n5', n6'⟩ := hu
  obtain ⟨w1, w2, w3, w4, w5, w6, w7, w8, w9⟩ := hw
  obtain ⟨u1, u2, u3, u4, u5, u6, u7, u8, u9⟩ := hwu
  have b1 := w3 i hi
  have b2 := u3 j hj
  have r1 := hs.1
  have e1 : (zpI (s.1 (vhom v i)) = nI (vhom u j)) ↔ s.1 (vhom v i) = some (vhom u j) := zpI_eqn (fun k hk => by have := (hm.1 _ k hk).2.1; omega) (by omega)
  refine zC_en (vc_X1_isSameNode_0 hd hb ha hRb hRa ?_)
  simp (disch := omega) only [ze_lit, pk_mul, nI_add, nI_clamp, ze_inI, nI_ltI, nI_eq, r1, n0, n0', n1, n1', n2, n2', n5, n5', e1]
  simp only [ze_m1r]
  clear n0 n0' n1 n1' n2 n2' n3 n3' n4 n4' n5 n5' n6 n6' p0 p1 p2 p0' p1' p2' w3 w4 w5 w6 w7 w8 w9 u3 u4 u5 u6 u7 u8 u9 hs r1 e1 hm hS hP hN hS' hP' hN'
  obtain rfl | rfl | rfl | rfl | rfl : w = 1 ∨ w = 2 ∨ w = 3 ∨ w = 4 ∨ w = 5 := by omega
  all_goals repeat' (first | refine And.intro ?_ ?_ | intro _)
  all_goals first
    | omega
    | contradiction
    | (exact h1 (by simp [zln, *]))
    | (exact h0 (by simp [zln, *]))
    | (exact hP9 (fun z => zk_r (vc_X1_isSameNode_127 hd ⟨fun q => absurd q (by decide), fun _ => h1 (by simp [zln, *])⟩)) (fun z => zk_r (vc_X1_isSameNode_127 hd ⟨fun _ => h0 (by simp [zln, *]), fun q => absurd rfl q⟩)))
    | (exact hP9 (fun z => zk_r (vc_X1_isSameNode_169 hd ⟨Or.inr rfl, h1 (by simp [zln, *])⟩)) (fun z => zk_r (vc_X1_isSameNode_169 hd ⟨Or.inl rfl, h0 (by simp [zln, *])⟩)))
theorem cMp_fr {d : Nat} {s : zM} {A A' : Nat → Nat → Int32} (h : cMp d s A) (h1 : A' (d + 1) = A (d + 1)) (h2 : A' (d + 2) = A (d + 2)) : cMp d s A' := by
  unfold cMp
  rw [h1, h2]
  exact h
theorem s1_matchNodes (hd : z_db d) (hb : z_ib b) (ha : z_ib a) (hv : cIm b v I A) (hu : cIm a u I A) (hw : zwf v) (hwu : zwf u) (hRb : R d 0 = some b) (hRa : R d 1 = some a) {sp : zM} (hsp : cMp d sp A) (hmp : zmo (vP v) (vP u) sp) {w : Nat} (hw5 : 1 ≤ w ∧ w ≤ 5) {s : zMn} (hs : cMn d s A) (hm : zmk v u sp.1 s) (h : ∀ A' : Nat → Nat → Int32, (∀ c, c ≠ d + 3 → c ≠ d + 4 → c ≠ d + 5 → A' c = A c) → cMn d (znq v u sp.1 w s) A' → Φ (.inl none) (I, R, A', lo, dd) 0) : zC L xs mX1_matchNodes [.ref d, .int (nI w)] (I, R, A, lo, dd) Φ := by
  have h45 := z_ib_45 hb
  have h45a := z_ib_45 ha
  have h48 := z_db_48 hd
  have hNv := hw.2.1
  have hNu := hwu.2.1
  refine zC_en (vc_X1_matchNodes_0 hd ?_)
  have key : ∀ i, i ≤ vN v → ∀ zx, ∀ A' : Nat → Nat → Int32, (∀ c, c ≠ d + 3 → c ≠ d + 4 → c ≠ d + 5 → A' c = A c) → cMn d (zit (znr v u sp.1 w) i s) A' → zW L xs mX1_matchNodes 2 [some (.ref d), some (.int (nI w)), some (.int (nI i)), zx] [] (I, R, A', lo, dd) Φ := by
    refine ze_up ?_ ?_
    · intro zx A' h1 h2
      have hN : I b 5 = nI (vN v) := hv.2.2.1
      refine vc_X1_matchNodes_2 hd hb hRb ?_
      simp (disch := omega) only [ze_lit, pk_mul, nI_add, nI_clamp, ze_inI, nI_ltI, nI_eq, hN]
      exact ⟨fun q => absurd q (Nat.lt_irrefl _), fun _ => h A' h1 h2⟩
    · intro i hi ih zx A' h1 h2
      have hm2 : zmk v u sp.1 (zit (znr v u sp.1 w) i s) := zit_inv (fun k s hk q => zmk_nr hk hw5.2 q) i s (by omega) hm
      generalize hs2 : zit (znr v u sp.1 w) i s = s2 at h2 hm2
      have hN : I b 5 = nI (vN v) := hv.2.2.1
      refine vc_X1_matchNodes_2 hd hb hRb ?_
      simp (disch := omega) only [ze_lit, pk_mul, nI_add, nI_clamp, ze_inI, nI_ltI, nI_eq, hN]
      refine ⟨fun _ => ?_, fun q => absurd hi q⟩
      have key2 : ∀ j, j ≤ vN u → ∀ A' : Nat → Nat → Int32, (∀ c, c ≠ d + 3 → c ≠ d + 4 → c ≠ d + 5 → A' c = A c) → cMn d (zit (zmn v u sp.1 w i) j s2) A' → zW L xs mX1_matchNodes 15 [some (.ref d), some (.int (nI w)), some (.int (nI i)), some (.int (nI j))] [] (I, R, A', lo, dd) Φ := by
        refine ze_up ?_ ?_
        · intro A' h1 h2
          have hN' : I a 5 = nI (vN u) := hu.2.2.1
          refine vc_X1_matchNodes_15 hd ha hRa ?_
          simp (disch := omega) only [ze_lit, pk_mul, nI_add, nI_clamp, ze_inI, nI_ltI, nI_eq, hN']
          refine ⟨fun q => absurd q (Nat.lt_irrefl _), fun _ => ih _ A' h1 ?_⟩
          show cMn d (znr v u sp.1 w i (zit (znr v u sp.1 w) i s)) A'
          rw [hs2]
          exact h2
        · intro j hj ih2 A' h1 h2
          have hv' : cIm b v I A' := cIm_fr hv rfl (fun j hj => h1 _ (by omega) (by omega) (by omega))
          have hu' : cIm a u I A' := cIm_fr hu rfl (fun j hj => h1 _ (by omega) (by omega) (by omega))
          have hsp' : cMp d sp A' := cMp_fr hsp (h1 _ (by omega) (by omega) (by omega)) (h1 _ (by omega) (by omega) (by omega))
          have hN' : I a 5 = nI (vN u) := hu.2.2.1
          have hm3 : zmk v u sp.1 (zit (zmn v u sp.1 w i) j s2) := zit_inv (fun k s hk q => zmk_mn hi hk hw5.2 q) j s2 (by omega) hm2
          generalize hs3 : zit (zmn v u sp.1 w i) j s2 = s3 at h2 hm3
          have e1 : (zpI (s3.1.1 i) = -1) ↔ s3.1.1 i = none := zpI_none (fun k hk => by have := (hm3.1.1 i k hk).2.1; omega)
          have e2 : (zpI (s3.1.2 j) = -1) ↔ s3.1.2 j = none := zpI_none (fun k hk => by have := (hm3.1.2 k j hk).1; omega)
          obtain ⟨r1, r2, r3⟩ := h2
          have hstep : zit (zmn v u sp.1 w i) (j + 1) s2 = zmn v u sp.1 w i j s3 := by
            show zmn v u sp.1 w i j (zit (zmn v u sp.1 w i) j s2) = _
            rw [hs3]
          have hno : zmn v u sp.1 w i j s3 = s3 → zW L xs mX1_matchNodes 15 [some (.ref d), some (.int (nI w)), some (.int (nI i)), some (.int (nI (j + 1)))] [] (I, R, A', lo, dd) Φ := by
            intro e
            refine ih2 A' h1 ?_
            rw [hstep, e]
            exact ⟨r1, r2, r3⟩
          refine vc_X1_matchNodes_15 hd ha hRa ?_
          simp (disch := omega) only [ze_lit, pk_mul, nI_add, nI_clamp, ze_inI, nI_ltI, nI_eq, hN', r1, r2]
          simp only [ze_m1r, e1, e2]
          refine ⟨fun _ => ⟨by omega, fun q1 => ⟨by omega, fun q2 => ?_, fun q2 => hno (if_neg (fun z => q2 z.2.1))⟩, fun q1 => ih _ A' h1 ?_⟩, fun q => absurd hj q⟩
          · refine s1_isSameNode hd hb ha hv' hu' hw hwu hRb hRa hsp' hmp hw5 hi hj (fun z => zk_r (vc_X1_matchNodes_53 hd ?_)) (fun z => zk_r (vc_X1_matchNodes_53 hd ?_))
            · simp (disch := omega) only [ze_lit, pk_mul, nI_add, nI_clamp, ze_inI, nI_ltI, nI_eq]
              refine ⟨fun q => absurd q (by decide), fun _ => ⟨by omega, by omega, by omega, ih2 _ (fun c c1 c2 c3 => ?_) ?_⟩⟩
              · funext y
                rw [zup_n (fun q => c3 q.1), zup_n (fun q => c2 q.1), zup_n (fun q => c1 q.1)]
                exact congrFun (h1 c c1 c2 c3) y
              · rw [hstep, zmn, if_pos ⟨q1, q2, z⟩]
                refine ⟨fun k hk => ?_, fun k hk => ?_, fun k hk => ?_⟩
                · show _ = zpI (zse s3.1.1 i (some j) k)
                  rw [zup_n (fun q => by omega), zup_n (fun q => by omega)]
                  by_cases e : k = i
                  · rw [e, zup_s, zse_s]
                    rfl
                  · rw [zup_n (fun q => e q.2), zse_n e]
                    exact r1 k hk
                · show _ = zpI (zse s3.1.2 j (some i) k)
                  rw [zup_n (fun q => by omega)]
                  by_cases e : k = j
                  · rw [e, zup_s, zse_s]
                    rfl
                  · rw [zup_n (fun q => e q.2), zup_n (fun q => by omega), zse_n e]
                    exact r2 k hk
                · show _ = nI (zse s3.2 i w k)
                  by_cases e : k = i
                  · rw [e, zup_s, zse_s]
                  · rw [zup_n (fun q => e q.2), zup_n (fun q => by omega), zup_n (fun q => by omega), zse_n e]
                    exact r3 k hk
            · simp (disch := omega) only [ze_lit, pk_mul, nI_add, nI_clamp, ze_inI, nI_ltI, nI_eq]
              exact ⟨fun _ => hno (if_neg (fun y => by rw [z] at y; exact absurd y.2.2 (by decide))), fun q => absurd trivial q⟩
          · show cMn d (znr v u sp.1 w i (zit (znr v u sp.1 w) i s)) A'
            rw [hs2]
            have hz : ∀ k, zmn v u sp.1 w i k (zit (zmn v u sp.1 w i) j s2) = zit (zmn v u sp.1 w i) j s2 := fun k => by rw [hs3]; exact zmn_nop q1
            show cMn d (zit (zmn v u sp.1 w i) (vN u) s2) A'
            rw [zit_nop hz (vN u) (by omega), hs3]
            exact ⟨r1, r2, r3⟩
      exact key2 0 (Nat.zero_le _) A' h1 h2
  exact key 0 (Nat.zero_le _) none A (fun _ _ _ _ => rfl) hs
/-- Identity.match -/
theorem s1_match (hd : z_db d) (hb : z_ib b) (ha : z_ib a) (hv : cIm b v I A) (hu : cIm a u I A) (hw : zwf v) (hwu : zwf u) (h : ∀ A' : Nat → Nat → Int32, (∀ c, ¬ (d + 1 ≤ c ∧ c ≤ d + 5) → A' c = A c) → cMp d (zpa v u) A' → cMn d (zna v u) A' → Φ (.inl none) (I, z_up (z_up R d 0 (some b)) d 1 (some a), A', lo, dd) 0) : zC L xs mX1_match [.ref d, .ref b, .ref a] (I, R, A, lo, dd) Φ := by
  have h45 := z_ib_45 hb
  have h45a := z_ib_45 ha
  have h48 := z_db_48 hd
  generalize hR' : z_up (z_up R d 0 (some b)) d 1 (some a) = R' at h
  have hRb : R' d 0 = some b := by rw [← hR', zup_n (by omega), zup_s]
  have hRa : R' d 1 = some a := by rw [← hR', zup_s]
  refine zC_en (vc_X1_match_0 hd hb ha ?_)
  rw [hR']
  refine s1_forget (z_db_a hd 1 (by decide)) (z_db_l4 hd 1 (by decide)) (z_db_n hd 1 (by decide)) (by decide) (fun A1 f1 g1 => zk_r (vc_X1_match_18 hd hb ha ?_))
  refine s1_forget (z_db_a hd 2 (by decide)) (z_db_l4 hd 2 (by decide)) (z_db_n hd 2 (by decide)) (by decide) (fun A2 f2 g2 => zk_r (vc_X1_match_26 hd hb ha ?_))
  refine s1_forget (z_db_a hd 3 (by decide)) (z_db_l24 hd 3 (by decide)) (z_db_n hd 3 (by decide)) (by decide) (fun A3 f3 g3 => zk_r (vc_X1_match_34 hd hb ha ?_))
  refine s1_forget (z_db_a hd 4 (by decide)) (z_db_l24 hd 4 (by decide)) (z_db_n hd 4 (by decide)) (by decide) (fun A4 f4 g4 => zk_r (vc_X1_match_42 hd hb ha ?_))
  refine s1_forget (z_db_a hd 5 (by decide)) (z_db_l24 hd 5 (by decide)) (z_db_n hd 5 (by decide)) (by decide) (fun A5 f5 g5 => zk_r (vc_X1_match_50 hd hb ha ?_))
  have F : ∀ c, ¬ (d + 1 ≤ c ∧ c ≤ d + 5) → A5 c = A c := fun c hc => by rw [f5 c (by omega), f4 c (by omega), f3 c (by omega), f2 c (by omega), f1 c (by omega)]
  have p0 : cMp d zno A5 := ⟨fun i hi => by rw [f5 _ (by omega), f4 _ (by omega), f3 _ (by omega), f2 _ (by omega)]; exact g1 i hi, fun i hi => by rw [f5 _ (by omega), f4 _ (by omega), f3 _ (by omega)]; exact g2 i hi⟩
  have n0 : cMn d (zno, fun _ => 0) A5 := ⟨fun i hi => by rw [f5 _ (by omega), f4 _ (by omega)]; exact g3 i hi, fun i hi => by rw [f5 _ (by omega)]; exact g4 i hi, fun i hi => g5 i hi⟩
  clear f1 f2 f3 f4 f5 g1 g2 g3 g4 g5 A1 A2 A3 A4
  have stepP : ∀ (w : Nat) (s : zM) (A0 : Nat → Nat → Int32), 1 ≤ w ∧ w ≤ 3 → (∀ c, ¬ (d + 1 ≤ c ∧ c ≤ d + 5) → A0 c = A c) → cMp d s A0 → zmo (vP v) (vP u) s → cMn d (zno, fun _ => 0) A0 → (∀ A' : Nat → Nat → Int32, (∀ c, ¬ (d + 1 ≤ c ∧ c ≤ d + 5) → A' c = A c) → cMp d (zpm v u w s) A' → cMn d (zno, fun _ => 0) A' → zW L xs mX1_match 52 [some (.ref d), some (.ref b), some (.ref a), some (.int (nI (w + 1)))] [] (I, R', A', lo, dd) Φ) → zW L xs mX1_match 52 [some (.ref d), some (.ref b), some (.ref a), some (.int (nI w))] [] (I, R', A0, lo, dd) Φ := by
    intro w s A0 hw3 hF hs hm hn0 k
    refine vc_X1_match_52 hd hb ha ?_
    simp (disch := omega) only [ze_lit, pk_mul, nI_add, nI_clamp, ze_inI, nI_ltI, nI_eq]
    refine ⟨fun z => absurd z (by omega), fun _ => ?_⟩
    refine s1_matchPartitions hd hb ha (cIm_fr hv rfl (fun j hj => hF _ (by omega))) (cIm_fr hu rfl (fun j hj => hF _ (by omega))) hw.1 hwu.1 hRb hRa hw3 hs hm (fun A' f g => zk_r (vc_X1_match_62 hd hb ha ?_))
    simp (disch := omega) only [ze_lit, pk_mul, nI_add, nI_clamp, ze_inI, nI_ltI, nI_eq]
    refine k A' (fun c hc => by rw [f c (by omega) (by omega)]; exact hF c hc) g ?_
    unfold cMn
    rw [f _ (by omega) (by omega), f _ (by omega) (by omega), f _ (by omega) (by omega)]
    exact hn0
  refine stepP 1 zno A5 (by decide) F p0 (zmo_no _ _) n0 (fun A6 F6 p6 n6 => ?_)
  refine stepP 2 _ A6 (by decide) F6 p6 (zmo_pm (zmo_no _ _)) n6 (fun A7 F7 p7 n7 => ?_)
  refine stepP 3 _ A7 (by decide) F7 p7 (zmo_pm (zmo_pm (zmo_no _ _))) n7 (fun A8 F8 p8 n8 => ?_)
  clear stepP p6 n6 F6 p7 n7 F7 p0 n0 F A5 A6 A7
  have stepN : ∀ (w : Nat) (s : zMn) (A0 : Nat → Nat → Int32), 1 ≤ w ∧ w ≤ 5 → (∀ c, ¬ (d + 1 ≤ c ∧ c ≤ d + 5) → A0 c = A c) → cMp d (zpa v u) A0 → cMn d s A0 → zmk v u (zpa v u).1 s → (∀ A' : Nat → Nat → Int32, (∀ c, ¬ (d + 1 ≤ c ∧ c ≤ d + 5) → A' c = A c) → cMp d (zpa v u) A' → cMn d (znq v u (zpa v u).1 w s) A' → zW L xs mX1_match 70 [some (.ref d), some (.ref b), some (.ref a), some (.int (nI (w + 1)))] [] (I, R', A', lo, dd) Φ) → zW L xs mX1_match 70 [some (.ref d), some (.ref b), some (.ref a), some (.int (nI w))] [] (I, R', A0, lo, dd) Φ := by
    intro w s A0 hw3 hF hp hs hm k
    refine vc_X1_match_70 hd hb ha ?_
    simp (disch := omega) only [ze_lit, pk_mul, nI_add, nI_clamp, ze_inI, nI_ltI, nI_eq]
    refine ⟨fun z => absurd z (by omega), fun _ => ?_⟩
    refine s1_matchNodes hd hb ha (cIm_fr hv rfl (fun j hj => hF _ (by omega))) (cIm_fr hu rfl (fun j hj => hF _ (by omega))) hw hwu hRb hRa hp (zmo_pa v u) hw3 hs hm (fun A' f g => zk_r (vc_X1_match_80 hd hb ha ?_))
    simp (disch := omega) only [ze_lit, pk_mul, nI_add, nI_clamp, ze_inI, nI_ltI, nI_eq]
    refine k A' (fun c hc => by rw [f c (by omega) (by omega) (by omega)]; exact hF c hc) (cMp_fr hp (f _ (by omega) (by omega) (by omega)) (f _ (by omega) (by omega) (by omega))) g
  refine vc_X1_match_52 hd hb ha ⟨fun _ => ?_, fun z => absurd (by decide) z⟩
  refine stepN 1 (zno, fun _ => 0) A8 (by decide) F8 p8 n8 (zmk_no _ _ _) (fun A1 F1 p1 n1 => ?_)
  refine stepN 2 _ A1 (by decide) F1 p1 n1 (zmk_nq (by decide) (zmk_no _ _ _)) (fun A2 F2 p2 n2 => ?_)
  refine stepN 3 _ A2 (by decide) F2 p2 n2 (zmk_nq (by decide) (zmk_nq (by decide) (zmk_no _ _ _))) (fun A3 F3 p3 n3 => ?_)
  refine stepN 4 _ A3 (by decide) F3 p3 n3 (zmk_nq (by decide) (zmk_nq (by decide) (zmk_nq (by decide) (zmk_no _ _ _)))) (fun A4 F4 p4 n4 => ?_)
  refine stepN 5 _ A4 (by decide) F4 p4 n4 (zmk_nq (by decide) (zmk_nq (by decide) (zmk_nq (by decide) (zmk_nq (by decide) (zmk_no _ _ _))))) (fun A5 F5 p5 n5 => ?_)
  exact vc_X1_match_70 hd hb ha ⟨fun _ => h A5 F5 p5 n5, fun z => absurd (by decide) z⟩
end
