/-! the model: who is matched with whom -/
def mMp (s : zM) (A : Nat → Nat → Int32) : Prop := (∀ i, i < 4 → A 113 i = zpI (s.1 i)) ∧ (∀ j, j < 4 → A 114 j = zpI (s.2 j))
def mMn (s : zMn) (A : Nat → Nat → Int32) : Prop := (∀ i, i < 24 → A 115 i = zpI (s.1.1 i)) ∧ (∀ j, j < 24 → A 116 j = zpI (s.1.2 j)) ∧ (∀ i, i < 24 → A 117 i = nI (s.2 i))
theorem mIm_fr {i : Nat} {v : zV} {A A' : Nat → Nat → Int32} (h : mIm i v A) (hA : A' 108 = A 108) : mIm i v A' := by
  unfold mIm at h ⊢
  rw [hA]
  exact h
theorem mMp_fr {s : zM} {A A' : Nat → Nat → Int32} (h : mMp s A) (h1 : A' 113 = A 113) (h2 : A' 114 = A 114) : mMp s A' := by
  unfold mMp
  rw [h1, h2]
  exact h
section
variable {L : Nat} {xs : Nat → Int32} {I : Nat → Nat → Int32} {R : Nat → Nat → Option Nat} {A : Nat → Nat → Int32} {lo : Int64} {dd : UInt64} {Φ : zPo} {ia ib : Nat} {v u : zV}
theorem s6_isLikePath (ha : ia ≤ 1) (hb : ib ≤ 1) (hIa : I 107 14 = nI ia) (hIb : I 107 15 = nI ib) (hv : mIm ia v A) (hu : mIm ib u A) (hw : zwf v) (hwu : zwf u) {i j : Nat} (hi : i < vN v) (hj : j < vN u) (h1 : zph v u i j = true → Φ (.inl (some (.int 1))) (I, R, A, lo, dd) 0) (h0 : zph v u i j = false → Φ (.inl (some (.int 0))) (I, R, A, lo, dd) 0) : zC L xs mX6_isLikePath [.ref 107, .int (nI i), .int (nI j)] (I, R, A, lo, dd) Φ := by
  obtain ⟨m0, m1, m2, p0, p1, p2, n0, n1, n2, n3, n4, n5⟩ := hv
  obtain ⟨m0', m1', m2', p0', p1', p2', n0', n1', n2', n3', n4', n5'⟩ := hu
  have hw' := hw
  obtain ⟨w1, w2, w3, w4, w5, w6, w7, w8, w9⟩ := hw'
  have hwu' := hwu
  obtain ⟨u1, u2, u3, u4, u5, u6, u7, u8, u9⟩ := hwu'
  have key : ∀ x, ∀ y, x < vN v → y < vN u → (zph v u x y = true → Φ (.inl (some (.int 1))) (I, R, A, lo, dd) 0) → (zph v u x y = false → Φ (.inl (some (.int 0))) (I, R, A, lo, dd) 0) → zW L xs mX6_isLikePath 5 [some (.ref 107), some (.int (nI i)), some (.int (nI j)), some (.int (nI x)), some (.int (nI y))] [] (I, R, A, lo, dd) Φ := by
    intro x
    induction x using Nat.strongRecOn with
    | ind x ih =>
      intro y hx hy g1 g0
      refine vc_X6_isLikePath_5 ?_
      rw [hIa, hIb]
      simp (disch := omega) only [ze_lit, pk_mul, nI_add, nI_clamp, ze_inI, nI_ltI, nI_eq, ze_m1n, n0, n0', n4, n4']
      refine ⟨fun z => z.elim, fun _ => ⟨fun z => z.elim, fun _ => ⟨by omega, by omega, fun q => ⟨by omega, by omega, ?_⟩, fun q => ⟨fun z => z.elim, fun _ => g0 ?_⟩⟩⟩⟩
      · cases hx' : vpar v x with
        | none =>
          have e1 := w5 x hx hx'
          cases hy' : vpar u y with
          | none =>
            have e2 := u5 y hy hy'
            exact vc_X6_isLikePath_5 ⟨fun _ => ⟨fun _ => ⟨fun _ => g1 (by unfold zph; rw [e1, e2]; simp [zpw, q, hx', hy']), fun z => absurd rfl z⟩, fun z => absurd rfl z⟩, fun z => absurd rfl z⟩
          | some y' =>
            obtain ⟨d1, d2, d3, d4, d5⟩ := u4 y y' hy hy'
            have e2 := zdep_pos hwu (show y' < vN u by omega)
            exact vc_X6_isLikePath_5 ⟨fun _ => ⟨fun _ => ⟨fun z => ((ze_m1 (by omega)).mp z).elim, fun _ => g0 (by unfold zph; rw [e1, show decide (1 = vdep u y) = false from decide_eq_false (by omega)]; rfl)⟩, fun z => absurd rfl z⟩, fun z => absurd rfl z⟩
        | some x' =>
          obtain ⟨c1, c2, c3, c4, c5⟩ := w4 x x' hx hx'
          have e2 := zdep_pos hw (show x' < vN v by omega)
          cases hy' : vpar u y with
          | none =>
            have e3 := u5 y hy hy'
            refine vc_X6_isLikePath_5 ⟨fun z => ((ze_m1 (by omega)).mp z).elim, fun _ => ⟨fun _ => ⟨fun z => ((ze_m1 (by omega)).mp z).elim, fun _ => g0 (by unfold zph; rw [e3, show decide (vdep v x = 1) = false from decide_eq_false (by omega)]; rfl)⟩, fun z => absurd rfl z⟩⟩
          | some y' =>
            obtain ⟨d1, d2, d3, d4, d5⟩ := u4 y y' hy hy'
            have hz : zph v u x y = zph v u x' y' := by
              unfold zph
              rw [c3, d3]
              simp [zpw, q, hx', hy']
            refine ih x' c1 y' (by omega) (by omega) (fun z => g1 (hz.trans z)) (fun z => g0 (hz.trans z))
      · have e2 := zdep_pos hw hx
        unfold zph
        rw [show vdep v x = (vdep v x - 1) + 1 by omega]
        simp [zpw, q]
  exact zC_en (vc_X6_isLikePath_0 (key i j hi hj h1 h0))
theorem s6_isLike (ha : ia ≤ 1) (hb : ib ≤ 1) (hIa : I 107 14 = nI ia) (hIb : I 107 15 = nI ib) (hv : mIm ia v A) (hu : mIm ib u A) (hw : zwf v) (hwu : zwf u) {s : zM} (hs : mMp s A) (hm : zmo (vP v) (vP u) s) {w i j : Nat} (hw5 : 1 ≤ w ∧ w ≤ 5) (hi : i < vN v) (hj : j < vN u) (h1 : zln v u s.1 w i j = true → Φ (.inl (some (.int 1))) (I, R, A, lo, dd) 0) (h0 : zln v u s.1 w i j = false → Φ (.inl (some (.int 0))) (I, R, A, lo, dd) 0) : zC L xs mX6_isLike [.ref 107, .int (nI i), .int (nI j), .int (nI w)] (I, R, A, lo, dd) Φ := by
  have hP9 : ∀ {Ψ : zPo}, (zph v u i j = true → Ψ (.inl (some (.int 1))) (I, R, A, lo, dd) 0) → (zph v u i j = false → Ψ (.inl (some (.int 0))) (I, R, A, lo, dd) 0) → zC L xs mX6_isLikePath [.ref 107, .int (nI i), .int (nI j)] (I, R, A, lo, dd) Ψ := fun g1 g0 => s6_isLikePath ha hb hIa hIb hv hu hw hwu hi hj g1 g0
  obtain ⟨m0, m1, m2, p0, p1, p2, n0, n1, n2, n3, n4, n5⟩ := hv
  obtain ⟨m0', m1', m2', p0', p1', p2', n0', n1', n2', n3', n4', n5'⟩ := hu
  obtain ⟨w1, w2, w3, w4, w5, w6, w7, w8, w9⟩ := hw
  obtain ⟨u1, u2, u3, u4, u5, u6, u7, u8, u9⟩ := hwu
  have b1 := w3 i hi
  have b2 := u3 j hj
  have r1 := hs.1
  have e1 : (zpI (s.1 (vhom v i)) = nI (vhom u j)) ↔ s.1 (vhom v i) = some (vhom u j) := zpI_eqn (fun k hk => by have := (hm.1 _ k hk).2.1; omega) (by omega)
  refine zC_en (vc_X6_isLike_0 ?_)
  rw [hIa, hIb]
  simp (disch := omega) only [ze_lit, pk_mul, nI_add, nI_clamp, ze_inI, nI_ltI, nI_eq, r1, n0, n0', n1, n1', n2, n2', n5, n5', e1]
  simp only [ze_m1r]
  clear n0 n0' n1 n1' n2 n2' n3 n3' n4 n4' n5 n5' m0 m1 m2 m0' m1' m2' p0 p1 p2 p0' p1' p2' w3 w4 w5 w6 w7 w8 w9 u3 u4 u5 u6 u7 u8 u9 hs r1 e1 hm hIa hIb
  obtain rfl | rfl | rfl | rfl | rfl : w = 1 ∨ w = 2 ∨ w = 3 ∨ w = 4 ∨ w = 5 := by omega
  all_goals repeat' (first | refine And.intro ?_ ?_ | intro _)
  all_goals first
    | omega
    | contradiction
    | (exact h1 (by simp [zln, *]))
    | (exact h0 (by simp [zln, *]))
    | (exact hP9 (fun z => zk_r (vc_X6_isLike_167 ⟨fun q => absurd q (by decide), fun _ => h1 (by simp [zln, *])⟩)) (fun z => zk_r (vc_X6_isLike_167 ⟨fun _ => h0 (by simp [zln, *]), fun q => absurd rfl q⟩)))
    | (exact hP9 (fun z => zk_r (vc_X6_isLike_185 ⟨Or.inr rfl, h1 (by simp [zln, *])⟩)) (fun z => zk_r (vc_X6_isLike_185 ⟨Or.inl rfl, h0 (by simp [zln, *])⟩)))
theorem s6_matchesParts (ha : ia ≤ 1) (hb : ib ≤ 1) (hIa : I 107 14 = nI ia) (hIb : I 107 15 = nI ib) (hv : mIm ia v A) (hu : mIm ib u A) (hw : vP v ≤ 4) (hw' : vP u ≤ 4) (h : ∀ A' : Nat → Nat → Int32, (∀ c, c ≠ 113 → c ≠ 114 → A' c = A c) → mMp (zpa v u) A' → Φ (.inl none) (I, R, A', lo, dd) 0) : zC L xs mX6_matchesParts [.ref 107] (I, R, A, lo, dd) Φ := by
  refine zC_en (vc_X6_matchesParts_0 ?_)
  -- the passes
  have keyP : ∀ w, 1 ≤ w ∧ w ≤ 3 → ∀ s, zmo (vP v) (vP u) s → (∀ zx zy, ∀ A' : Nat → Nat → Int32, (∀ c, c ≠ 113 → c ≠ 114 → A' c = A c) → mMp (zpm v u w s) A' → zW L xs mX6_matchesParts 29 [some (.ref 107), some (.int (nI (w + 1))), zx, zy] [] (I, R, A', lo, dd) Φ) → ∀ zx zy, ∀ A' : Nat → Nat → Int32, (∀ c, c ≠ 113 → c ≠ 114 → A' c = A c) → mMp s A' → zW L xs mX6_matchesParts 29 [some (.ref 107), some (.int (nI w)), zx, zy] [] (I, R, A', lo, dd) Φ := by
    intro w hw3 s hm hk zx zy A' h1 h2
    refine vc_X6_matchesParts_29 ?_
    simp (disch := omega) only [ze_lit, pk_mul, nI_add, nI_clamp, ze_inI, nI_ltI, nI_eq]
    refine ⟨fun z => absurd z (by omega), fun _ => ?_⟩
    have key : ∀ i, i ≤ vP v → ∀ zx, ∀ A' : Nat → Nat → Int32, (∀ c, c ≠ 113 → c ≠ 114 → A' c = A c) → mMp (zit (zpr v u w) i s) A' → zW L xs mX6_matchesParts 36 [some (.ref 107), some (.int (nI w)), some (.int (nI i)), zx] [] (I, R, A', lo, dd) Φ := by
      refine ze_up ?_ ?_
      · intro zx A' h1 h2
        obtain ⟨m0, m1, m2, p0, p1, p2, n0, n1, n2, n3, n4, n5⟩ := mIm_fr hv (h1 108 (by decide) (by decide))
        refine vc_X6_matchesParts_36 ?_
        rw [hIa]
        simp (disch := omega) only [ze_lit, pk_mul, nI_add, nI_clamp, ze_inI, nI_ltI, nI_eq, m1]
        exact ⟨by omega, fun q => absurd q (Nat.lt_irrefl _), fun _ => hk _ _ A' h1 h2⟩
      · intro i hi ih zx A' h1 h2
        have hm2 : zmo (vP v) (vP u) (zit (zpr v u w) i s) := zit_inv (fun k s hk q => zmo_pr hk q) i s (by omega) hm
        generalize hs2 : zit (zpr v u w) i s = s2 at h2 hm2
        obtain ⟨m0, m1, m2, p0, p1, p2, n0, n1, n2, n3, n4, n5⟩ := mIm_fr hv (h1 108 (by decide) (by decide))
        refine vc_X6_matchesParts_36 ?_
        rw [hIa]
        simp (disch := omega) only [ze_lit, pk_mul, nI_add, nI_clamp, ze_inI, nI_ltI, nI_eq, m1]
        refine ⟨by omega, fun _ => ?_, fun q => absurd hi q⟩
        clear m0 m1 m2 p0 p1 p2 n0 n1 n2 n3 n4 n5
        have key2 : ∀ j, j ≤ vP u → ∀ A' : Nat → Nat → Int32, (∀ c, c ≠ 113 → c ≠ 114 → A' c = A c) → mMp (zit (zmp v u w i) j s2) A' → zW L xs mX6_matchesParts 50 [some (.ref 107), some (.int (nI w)), some (.int (nI i)), some (.int (nI j))] [] (I, R, A', lo, dd) Φ := by
          refine ze_up ?_ ?_
          · intro A' h1 h2
            obtain ⟨m0, m1, m2, p0, p1, p2, n0, n1, n2, n3, n4, n5⟩ := mIm_fr hu (h1 108 (by decide) (by decide))
            refine vc_X6_matchesParts_50 ?_
            rw [hIa, hIb]
            simp (disch := omega) only [ze_lit, pk_mul, nI_add, nI_clamp, ze_inI, nI_ltI, nI_eq, m1]
            refine ⟨by omega, fun q => absurd q (Nat.lt_irrefl _), fun _ => ih _ A' h1 ?_⟩
            show mMp (zpr v u w i (zit (zpr v u w) i s)) A'
            rw [hs2]
            exact h2
          · intro j hj ih2 A' h1 h2
            obtain ⟨m0, m1, m2, p0, p1, p2, n0, n1, n2, n3, n4, n5⟩ := mIm_fr hv (h1 108 (by decide) (by decide))
            obtain ⟨m0', m1', m2', p0', p1', p2', n0', n1', n2', n3', n4', n5'⟩ := mIm_fr hu (h1 108 (by decide) (by decide))
            have hm3 : zmo (vP v) (vP u) (zit (zmp v u w i) j s2) := zit_inv (fun k s hk q => zmo_mp hi hk q) j s2 (by omega) hm2
            generalize hs3 : zit (zmp v u w i) j s2 = s3 at h2 hm3
            have e1 : (zpI (s3.1 i) = -1) ↔ s3.1 i = none := zpI_none (fun k hk => by have := (hm3.1 i k hk).2.1; omega)
            have e2 : (zpI (s3.2 j) = -1) ↔ s3.2 j = none := zpI_none (fun k hk => by have := (hm3.2 k j hk).1; omega)
            refine vc_X6_matchesParts_50 ?_
            have r1 := h2.1
            have r2 := h2.2
            have hstep : zit (zmp v u w i) (j + 1) s2 = zmp v u w i j s3 := by
              show zmp v u w i j (zit (zmp v u w i) j s2) = _
              rw [hs3]
            have hno : zmp v u w i j s3 = s3 → zW L xs mX6_matchesParts 50 [some (.ref 107), some (.int (nI w)), some (.int (nI i)), some (.int (nI (j + 1)))] [] (I, R, A', lo, dd) Φ := by
              intro e
              refine ih2 A' h1 ?_
              rw [hstep, e]
              exact h2
            have hyes : s3.1 i = none → s3.2 j = none → zlp v u w i j = true → zW L xs mX6_matchesParts 50 [some (.ref 107), some (.int (nI w)), some (.int (nI i)), some (.int (nI (j + 1)))] [] (I, R, z_up (z_up A' 113 i (nI j)) 114 j (nI i), lo, dd) Φ := by
              intro z1 z2 z3
              refine ih2 _ (fun c c1 c2 => ?_) ?_
              · funext z
                rw [zup_n (fun q => c2 q.1), zup_n (fun q => c1 q.1)]
                exact congrFun (h1 c c1 c2) z
              · rw [hstep, zmp, if_pos ⟨z1, z2, z3⟩]
                refine ⟨fun k hk => ?_, fun k hk => ?_⟩
                · show _ = zpI (zse s3.1 i (some j) k)
                  rw [zup_n (fun q => by omega)]
                  by_cases e : k = i
                  · rw [e, zup_s, zse_s]
                    rfl
                  · rw [zup_n (fun q => e q.2), zse_n e]
                    exact r1 k hk
                · show _ = zpI (zse s3.2 j (some i) k)
                  by_cases e : k = j
                  · rw [e, zup_s, zse_s]
                    rfl
                  · rw [zup_n (fun q => e q.2), zup_n (fun q => by omega), zse_n e]
                    exact r2 k hk
            rw [hIa, hIb]
            simp (disch := omega) only [ze_lit, pk_mul, nI_add, nI_clamp, ze_inI, nI_ltI, nI_eq, m1', r1, r2, p0, p1, p0', p1']
            simp only [ze_m1r, e1, e2]
            refine ⟨by omega, fun _ => ⟨by omega, fun q1 => ⟨by omega, fun q2 => ?_, fun q2 => hno (if_neg (fun z => q2 z.2.1))⟩, fun q1 => ih _ A' h1 ?_⟩, fun q => absurd hj q⟩
            · clear n0 n0' n1 n1' n2 n2' n3 n3' n4 n4' n5 n5' m0 m1 m2 m0' m1' m2' p0 p1 p2 p0' p1' p2' r1 r2 e1 e2 ih ih2
              obtain rfl | rfl | rfl : w = 1 ∨ w = 2 ∨ w = 3 := by omega
              all_goals repeat' (first | refine And.intro ?_ ?_ | intro _)
              all_goals first
                | omega
                | contradiction
                | (exact hyes q1 q2 (by simp [zlp, *]))
                | (exact hno (if_neg (by simp [zlp, *])))
            · show mMp (zpr v u w i (zit (zpr v u w) i s)) A'
              rw [hs2]
              have hz : ∀ k, zmp v u w i k (zit (zmp v u w i) j s2) = zit (zmp v u w i) j s2 := fun k => by rw [hs3]; exact zmp_nop q1
              show mMp (zit (zmp v u w i) (vP u) s2) A'
              rw [zit_nop hz (vP u) (by omega), hs3]
              exact h2
        exact key2 0 (Nat.zero_le _) A' h1 h2
    exact key 0 (Nat.zero_le _) _ A' h1 h2
  have keyF : ∀ i, i ≤ 4 → ∀ A' : Nat → Nat → Int32, (∀ c, c ≠ 113 → c ≠ 114 → A' c = A c) → (∀ k, k < i → A' 113 k = -1 ∧ A' 114 k = -1) → zW L xs mX6_matchesParts 2 [some (.ref 107), some (.int (nI i)), none, none] [] (I, R, A', lo, dd) Φ := by
    refine ze_up ?_ ?_
    · intro A' h1 h2
      refine vc_X6_matchesParts_2 ⟨fun z => absurd z (by decide), fun _ => ?_⟩
      refine keyP 1 (by decide) zno (zmo_no _ _) (fun zx zy A' h1 h2 => ?_) _ _ A' h1 ⟨fun i hi => (h2 i hi).1, fun i hi => (h2 i hi).2⟩
      refine keyP 2 (by decide) _ (zmo_pm (zmo_no _ _)) (fun zx zy A' h1 h2 => ?_) _ _ A' h1 h2
      refine keyP 3 (by decide) _ (zmo_pm (zmo_pm (zmo_no _ _))) (fun zx zy A' h1 h2 => ?_) _ _ A' h1 h2
      exact vc_X6_matchesParts_29 ⟨fun _ => h A' h1 h2, fun z => absurd (by decide) z⟩
    · intro i hi ih A' h1 h2
      refine vc_X6_matchesParts_2 ?_
      simp (disch := omega) only [ze_lit, pk_mul, nI_add, nI_clamp, ze_inI, nI_ltI, nI_eq]
      refine ⟨fun _ => ⟨by omega, by omega, ih _ (fun c c1 c2 => ?_) (fun k hk => ?_)⟩, fun q => absurd hi q⟩
      · funext z
        rw [zup_n (fun q => c2 q.1), zup_n (fun q => c1 q.1)]
        exact congrFun (h1 c c1 c2) z
      · by_cases e : k = i
        · rw [e, zup_s, zup_n (fun q => by omega), zup_s]
          exact ⟨rfl, rfl⟩
        · rw [zup_n (fun q => by omega), zup_n (fun q => e q.2), zup_n (fun q => e q.2), zup_n (fun q => by omega)]
          exact h2 k (by omega)
  exact keyF 0 (Nat.zero_le _) A (fun _ _ _ => rfl) (fun k q => absurd q (Nat.not_lt_zero _))
theorem s6_matchesNodes (ha : ia ≤ 1) (hb : ib ≤ 1) (hIa : I 107 14 = nI ia) (hIb : I 107 15 = nI ib) (hv : mIm ia v A) (hu : mIm ib u A) (hw : zwf v) (hwu : zwf u) (hsp : mMp (zpa v u) A) (h : ∀ A' : Nat → Nat → Int32, (∀ c, c ≠ 115 → c ≠ 116 → c ≠ 117 → A' c = A c) → mMn (zna v u) A' → Φ (.inl none) (I, R, A', lo, dd) 0) : zC L xs mX6_matchesNodes [.ref 107] (I, R, A, lo, dd) Φ := by
  have hNv := hw.2.1
  have hNu := hwu.2.1
  refine zC_en (vc_X6_matchesNodes_0 ?_)
  have hna : ∀ s, s = zna v u → mMn s = mMn (znq v u (zpa v u).1 5 (znq v u (zpa v u).1 4 (znq v u (zpa v u).1 3 (znq v u (zpa v u).1 2 (znq v u (zpa v u).1 1 (zno, fun _ => 0)))))) := fun s e => by rw [e]; rfl
  have hmp := zmo_pa v u
  have h' : ∀ A' : Nat → Nat → Int32, (∀ c, c ≠ 115 → c ≠ 116 → c ≠ 117 → A' c = A c) → mMn (znq v u (zpa v u).1 5 (znq v u (zpa v u).1 4 (znq v u (zpa v u).1 3 (znq v u (zpa v u).1 2 (znq v u (zpa v u).1 1 (zno, fun _ => 0)))))) A' → Φ (.inl none) (I, R, A', lo, dd) 0 := fun A' f g => h A' f (by rw [hna _ rfl]; exact g)
  clear h hna
  generalize zpa v u = sp at hsp hmp h'
  have keyP : ∀ w, 1 ≤ w ∧ w ≤ 5 → ∀ s, zmk v u sp.1 s → (∀ zx zy, ∀ A' : Nat → Nat → Int32, (∀ c, c ≠ 115 → c ≠ 116 → c ≠ 117 → A' c = A c) → mMn (znq v u sp.1 w s) A' → zW L xs mX6_matchesNodes 37 [some (.ref 107), some (.int (nI (w + 1))), zx, zy] [] (I, R, A', lo, dd) Φ) → ∀ zx zy, ∀ A' : Nat → Nat → Int32, (∀ c, c ≠ 115 → c ≠ 116 → c ≠ 117 → A' c = A c) → mMn s A' → zW L xs mX6_matchesNodes 37 [some (.ref 107), some (.int (nI w)), zx, zy] [] (I, R, A', lo, dd) Φ := by
    intro w hw3 s hm hk zx zy A' h1 h2
    refine vc_X6_matchesNodes_37 ?_
    simp (disch := omega) only [ze_lit, pk_mul, nI_add, nI_clamp, ze_inI, nI_ltI, nI_eq]
    refine ⟨fun z => absurd z (by omega), fun _ => ?_⟩
    have key : ∀ i, i ≤ vN v → ∀ zx, ∀ A' : Nat → Nat → Int32, (∀ c, c ≠ 115 → c ≠ 116 → c ≠ 117 → A' c = A c) → mMn (zit (znr v u sp.1 w) i s) A' → zW L xs mX6_matchesNodes 44 [some (.ref 107), some (.int (nI w)), some (.int (nI i)), zx] [] (I, R, A', lo, dd) Φ := by
      refine ze_up ?_ ?_
      · intro zx A' h1 h2
        obtain ⟨m0, m1, m2, p0, p1, p2, n0, n1, n2, n3, n4, n5⟩ := mIm_fr hv (h1 108 (by decide) (by decide) (by decide))
        refine vc_X6_matchesNodes_44 ?_
        rw [hIa]
        simp (disch := omega) only [ze_lit, pk_mul, nI_add, nI_clamp, ze_inI, nI_ltI, nI_eq, m2]
        exact ⟨by omega, fun q => absurd q (Nat.lt_irrefl _), fun _ => hk _ _ A' h1 h2⟩
      · intro i hi ih zx A' h1 h2
        have hm2 : zmk v u sp.1 (zit (znr v u sp.1 w) i s) := zit_inv (fun k s hk q => zmk_nr hk hw3.2 q) i s (by omega) hm
        generalize hs2 : zit (znr v u sp.1 w) i s = s2 at h2 hm2
        obtain ⟨m0, m1, m2, p0, p1, p2, n0, n1, n2, n3, n4, n5⟩ := mIm_fr hv (h1 108 (by decide) (by decide) (by decide))
        refine vc_X6_matchesNodes_44 ?_
        rw [hIa]
        simp (disch := omega) only [ze_lit, pk_mul, nI_add, nI_clamp, ze_inI, nI_ltI, nI_eq, m2]
        refine ⟨by omega, fun _ => ?_, fun q => absurd hi q⟩
        clear m0 m1 m2 p0 p1 p2 n0 n1 n2 n3 n4 n5
        have key2 : ∀ j, j ≤ vN u → ∀ A' : Nat → Nat → Int32, (∀ c, c ≠ 115 → c ≠ 116 → c ≠ 117 → A' c = A c) → mMn (zit (zmn v u sp.1 w i) j s2) A' → zW L xs mX6_matchesNodes 58 [some (.ref 107), some (.int (nI w)), some (.int (nI i)), some (.int (nI j))] [] (I, R, A', lo, dd) Φ := by
          refine ze_up ?_ ?_
          · intro A' h1 h2
            obtain ⟨m0, m1, m2, p0, p1, p2, n0, n1, n2, n3, n4, n5⟩ := mIm_fr hu (h1 108 (by decide) (by decide) (by decide))
            refine vc_X6_matchesNodes_58 ?_
            rw [hIb]
            simp (disch := omega) only [ze_lit, pk_mul, nI_add, nI_clamp, ze_inI, nI_ltI, nI_eq, m2]
            refine ⟨by omega, fun q => absurd q (Nat.lt_irrefl _), fun _ => ih _ A' h1 ?_⟩
            show mMn (znr v u sp.1 w i (zit (znr v u sp.1 w) i s)) A'
            rw [hs2]
            exact h2
          · intro j hj ih2 A' h1 h2
            have hv' := mIm_fr hv (h1 108 (by decide) (by decide) (by decide))
            have hu' := mIm_fr hu (h1 108 (by decide) (by decide) (by decide))
            have hsp' := mMp_fr hsp (h1 113 (by decide) (by decide) (by decide)) (h1 114 (by decide) (by decide) (by decide))
            have m2' : A' 108 (159 * ib + 2) = nI (vN u) := hu'.2.2.1
            have hm3 : zmk v u sp.1 (zit (zmn v u sp.1 w i) j s2) := zit_inv (fun k s hk q => zmk_mn hi hk hw3.2 q) j s2 (by omega) hm2
            generalize hs3 : zit (zmn v u sp.1 w i) j s2 = s3 at h2 hm3
            have e1 : (zpI (s3.1.1 i) = -1) ↔ s3.1.1 i = none := zpI_none (fun k hk => by have := (hm3.1.1 i k hk).2.1; omega)
            have e2 : (zpI (s3.1.2 j) = -1) ↔ s3.1.2 j = none := zpI_none (fun k hk => by have := (hm3.1.2 k j hk).1; omega)
            obtain ⟨r1, r2, r3⟩ := h2
            have hstep : zit (zmn v u sp.1 w i) (j + 1) s2 = zmn v u sp.1 w i j s3 := by
              show zmn v u sp.1 w i j (zit (zmn v u sp.1 w i) j s2) = _
              rw [hs3]
            have hno : zmn v u sp.1 w i j s3 = s3 → zW L xs mX6_matchesNodes 58 [some (.ref 107), some (.int (nI w)), some (.int (nI i)), some (.int (nI (j + 1)))] [] (I, R, A', lo, dd) Φ := by
              intro e
              refine ih2 A' h1 ?_
              rw [hstep, e]
              exact ⟨r1, r2, r3⟩
            refine vc_X6_matchesNodes_58 ?_
            rw [hIb]
            simp (disch := omega) only [ze_lit, pk_mul, nI_add, nI_clamp, ze_inI, nI_ltI, nI_eq, m2', r1, r2]
            simp only [ze_m1r, e1, e2]
            refine ⟨by omega, fun _ => ⟨by omega, fun q1 => ⟨by omega, fun q2 => ?_, fun q2 => hno (if_neg (fun z => q2 z.2.1))⟩, fun q1 => ih _ A' h1 ?_⟩, fun q => absurd hj q⟩
            · refine s6_isLike ha hb hIa hIb hv' hu' hw hwu hsp' hmp hw3 hi hj (fun z => zk_r (vc_X6_matchesNodes_97 ?_)) (fun z => zk_r (vc_X6_matchesNodes_97 ?_))
              · simp (disch := omega) only [ze_lit, pk_mul, nI_add, nI_clamp, ze_inI, nI_ltI, nI_eq]
                refine ⟨fun q => absurd q (by decide), fun _ => ⟨by omega, by omega, by omega, ih2 _ (fun c c1 c2 c3 => ?_) ?_⟩⟩
                · funext y
                  rw [zup_n (fun q => c3 q.1), zup_n (fun q => c2 q.1), zup_n (fun q => c1 q.1)]
                  exact congrFun (h1 c c1 c2 c3) y
                · rw [hstep, zmn, if_pos ⟨q1, q2, z⟩]
                  refine ⟨fun k hk => ?_, fun k hk => ?_, fun k hk => ?_⟩
                  · show _ = zpI (zse s3.1.1 i (some j) k)
                    rw [zup_n (fun q => by omega), zup_n (fun q => by omega)]
                    by_cases e : k = i
                    · rw [e, zup_s, zse_s]
                      rfl
                    · rw [zup_n (fun q => e q.2), zse_n e]
                      exact r1 k hk
                  · show _ = zpI (zse s3.1.2 j (some i) k)
                    rw [zup_n (fun q => by omega)]
                    by_cases e : k = j
                    · rw [e, zup_s, zse_s]
                      rfl
                    · rw [zup_n (fun q => e q.2), zup_n (fun q => by omega), zse_n e]
                      exact r2 k hk
                  · show _ = nI (zse s3.2 i w k)
                    by_cases e : k = i
                    · rw [e, zup_s, zse_s]
                    · rw [zup_n (fun q => e q.2), zup_n (fun q => by omega), zup_n (fun q => by omega), zse_n e]
                      exact r3 k hk
              · simp (disch := omega) only [ze_lit, pk_mul, nI_add, nI_clamp, ze_inI, nI_ltI, nI_eq]
                exact ⟨fun _ => hno (if_neg (fun y => by rw [z] at y; exact absurd y.2.2 (by decide))), fun q => absurd trivial q⟩
            · show mMn (znr v u sp.1 w i (zit (znr v u sp.1 w) i s)) A'
              rw [hs2]
              have hz : ∀ k, zmn v u sp.1 w i k (zit (zmn v u sp.1 w i) j s2) = zit (zmn v u sp.1 w i) j s2 := fun k => by rw [hs3]; exact zmn_nop q1
              show mMn (zit (zmn v u sp.1 w i) (vN u) s2) A'
              rw [zit_nop hz (vN u) (by omega), hs3]
              exact ⟨r1, r2, r3⟩
        exact key2 0 (Nat.zero_le _) A' h1 h2
    exact key 0 (Nat.zero_le _) _ A' h1 h2
  have keyF : ∀ i, i ≤ 24 → ∀ A' : Nat → Nat → Int32, (∀ c, c ≠ 115 → c ≠ 116 → c ≠ 117 → A' c = A c) → (∀ k, k < i → A' 115 k = -1 ∧ A' 116 k = -1 ∧ A' 117 k = 0) → zW L xs mX6_matchesNodes 2 [some (.ref 107), some (.int (nI i)), none, none] [] (I, R, A', lo, dd) Φ := by
    refine ze_up ?_ ?_
    · intro A' h1 h2
      refine vc_X6_matchesNodes_2 ⟨fun z => absurd z (by decide), fun _ => ?_⟩
      have b0 := zmk_no v u sp.1
      have b1 : zmk v u sp.1 _ := zmk_nq (w := 1) (by decide) b0
      have b2 : zmk v u sp.1 _ := zmk_nq (w := 2) (by decide) b1
      have b3 : zmk v u sp.1 _ := zmk_nq (w := 3) (by decide) b2
      have b4 : zmk v u sp.1 _ := zmk_nq (w := 4) (by decide) b3
      refine keyP 1 (by decide) (zno, fun _ => 0) b0 (fun zx zy A' h1 h2 => ?_) _ _ A' h1 ⟨fun i hi => (h2 i hi).1, fun i hi => (h2 i hi).2.1, fun i hi => (h2 i hi).2.2⟩
      refine keyP 2 (by decide) _ b1 (fun zx zy A' h1 h2 => ?_) _ _ A' h1 h2
      refine keyP 3 (by decide) _ b2 (fun zx zy A' h1 h2 => ?_) _ _ A' h1 h2
      refine keyP 4 (by decide) _ b3 (fun zx zy A' h1 h2 => ?_) _ _ A' h1 h2
      refine keyP 5 (by decide) _ b4 (fun zx zy A' h1 h2 => ?_) _ _ A' h1 h2
      exact vc_X6_matchesNodes_37 ⟨fun _ => h' A' h1 h2, fun z => absurd (by decide) z⟩
    · intro i hi ih A' h1 h2
      refine vc_X6_matchesNodes_2 ?_
      simp (disch := omega) only [ze_lit, pk_mul, nI_add, nI_clamp, ze_inI, nI_ltI, nI_eq]
      refine ⟨fun _ => ⟨by omega, by omega, by omega, ih _ (fun c c1 c2 c3 => ?_) (fun k hk => ?_)⟩, fun q => absurd hi q⟩
      · funext z
        rw [zup_n (fun q => c3 q.1), zup_n (fun q => c2 q.1), zup_n (fun q => c1 q.1)]
        exact congrFun (h1 c c1 c2 c3) z
      · by_cases e : k = i
        · rw [e, zup_s, zup_n (fun q => by omega), zup_n (fun q => by omega), zup_s, zup_n (fun q => by omega), zup_s]
          exact ⟨rfl, rfl, rfl⟩
        · rw [zup_n (fun q => by omega), zup_n (fun q => by omega), zup_n (fun q => e q.2), zup_n (fun q => by omega), zup_n (fun q => e q.2), zup_n (fun q => by omega), zup_n (fun q => e q.2), zup_n (fun q => by omega), zup_n (fun q => by omega)]
          exact h2 k (by omega)
  exact keyF 0 (Nat.zero_le _) A (fun _ _ _ _ => rfl) (fun k q => absurd q (Nat.not_lt_zero _))
/-- from image ia to ib = 1 - ia -/
theorem s6_identifies (ha : ia ≤ 1) (hib : ib = 1 - ia) (hv : mIm ia v A) (hu : mIm ib u A) (hw : zwf v) (hwu : zwf u) (h : ∀ A' : Nat → Nat → Int32, (∀ c, ¬ (113 ≤ c ∧ c ≤ 117) → A' c = A c) → mMp (zpa v u) A' → mMn (zna v u) A' → Φ (.inl none) (z_up (z_up I 107 14 (nI ia)) 107 15 (nI ib), R, A', lo, dd) 0) : zC L xs mX6_identifies [.ref 107, .int (nI ia)] (I, R, A, lo, dd) Φ := by
  refine zC_en (vc_X6_identifies_0 ?_)
  rw [show (1 : Int32) - nI ia = nI ib by rw [hib]; exact ze_sub (a := 1) ha]
  generalize hI' : z_up (z_up I 107 14 (nI ia)) 107 15 (nI ib) = I' at h
  have hIa : I' 107 14 = nI ia := by rw [← hI', zup_n (by omega), zup_s]
  have hIb : I' 107 15 = nI ib := by rw [← hI', zup_s]
  refine s6_matchesParts ha (by omega) hIa hIb hv hu hw.1 hwu.1 (fun A1 f1 g1 => zk_r (vc_X6_identifies_16 ?_))
  refine s6_matchesNodes ha (by omega) hIa hIb (mIm_fr hv (f1 _ (by decide) (by decide))) (mIm_fr hu (f1 _ (by decide) (by decide))) hw hwu g1 (fun A2 f2 g2 => zk_r (vc_X6_identifies_20 ?_))
  exact h A2 (fun c hc => by rw [f2 c (by omega) (by omega) (by omega), f1 c (by omega) (by omega)]) (mMp_fr g1 (f2 _ (by decide) (by decide) (by decide)) (f2 _ (by decide) (by decide) (by decide))) g2
end
