/-! the model's scripts; counting in them -/
section
variable {L : Nat} {xs : Nat → Int32} {I : Nat → Nat → Int32} {R : Nat → Nat → Option Nat} {A : Nat → Nat → Int32} {lo : Int64} {dd : UInt64} {Φ : zPo} {ia ib : Nat} {v u : zV} {sp : zM} {sn : zMn}
theorem s6_scripts (ha : ia ≤ 1) (hib : ib = 1 - ia) (hv : mIm ia v A) (hu : mIm ib u A) (hwf : zwf v) (hwu : zwf u) (h : ∀ I' A' : Nat → Nat → Int32, (∀ c j, ¬ (c = 107 ∧ (j = 14 ∨ j = 15 ∨ j = 22)) → I' c j = I c j) → (∀ c, ¬ (113 ≤ c ∧ c ≤ 118) → A' c = A c) → mEn ia ib v u (zpa v u) (zna v u) I' A' → mSc (zops v u (zpa v u) (zna v u).1) I' A' → Φ (.inl none) (I', R, A', lo, dd) 0) : zC L xs mX6_scripts [.ref 107, .int (nI ia)] (I, R, A, lo, dd) Φ := by
  have w2 := hwf.2.1
  have u2 := hwu.2.1
  have w3 := hwf.2.2.1
  have w1 := hwf.1
  have u1 := hwu.1
  have hb : ib ≤ 1 := by omega
  refine zC_en (vc_X6_scripts_0 ?_)
  refine s6_identifies ha hib hv hu hwf hwu (fun A0 f1 g1 g1' => zk_r (vc_X6_scripts_5 ?_))
  have hmp := zmo_pa v u
  have hm := (zmk_na v u).1
  have hT := zops_le v u (zpa v u) (zna v u).1 hmp hm hwf.1 hwu.1 hwf.2.1 hwu.2.1
  have hTl : (zops v u (zpa v u) (zna v u).1).length = (zs1 v (zpa v u)).length + (zs2 v u (zpa v u)).length + (zs3 u (zpa v u)).length + (zs4 u (zna v u).1).length + (zs5 v u (zpa v u) (zna v u).1).length + (zs6 v (zpa v u) (zna v u).1).length + (zo10 v u).length := by unfold zops; simp only [List.length_append]
  have hF0 : ∀ I' A' : Nat → Nat → Int32, zGr (z_up (z_up (z_up I 107 14 (nI ia)) 107 15 (nI ib)) 107 22 0) A0 I' A' → (∀ c j, ¬ (c = 107 ∧ (j = 14 ∨ j = 15 ∨ j = 22)) → I' c j = I c j) ∧ (∀ c, ¬ (113 ≤ c ∧ c ≤ 118) → A' c = A c) := by
    intro I' A' hg
    refine ⟨fun c j hc => ?_, fun c hc => ?_⟩
    · rw [hg.1 c j (by omega), zup_n (by omega), zup_n (by omega), zup_n (by omega)]
    · rw [hg.2 c (by omega), f1 c (by omega)]
  have hE : mEn ia ib v u (zpa v u) (zna v u) (z_up (z_up (z_up I 107 14 (nI ia)) 107 15 (nI ib)) 107 22 0) A0 := ⟨by rw [zup_n (by omega), zup_n (by omega), zup_s], by rw [zup_n (by omega), zup_s], mIm_fr hv (f1 _ (by decide)), mIm_fr hu (f1 _ (by decide)), g1, g1'⟩
  have hk := fun I' A' hg hs => h I' A' (hF0 I' A' hg).1 (hF0 I' A' hg).2 (mEn_fr hE hg) hs
  have hI0 : z_up (z_up (z_up I 107 14 (nI ia)) 107 15 (nI ib)) 107 22 0 107 22 = 0 := zup_s
  clear hF0 h g1 g1' f1 hv hu
  generalize z_up (z_up (z_up I 107 14 (nI ia)) 107 15 (nI ib)) 107 22 0 = I0 at hE hk hI0 ⊢
  have hzz : zops v u (zpa v u) (zna v u).1 = (zs1 v (zpa v u) ++ zs2 v u (zpa v u) ++ zs3 u (zpa v u) ++ zs4 u (zna v u).1 ++ zs5 v u (zpa v u) (zna v u).1 ++ zs6 v (zpa v u) (zna v u).1) ++ zo10 v u := rfl
  generalize zops v u (zpa v u) (zna v u).1 = zo at hT hTl hk hzz
  generalize zpa v u = sp at *
  generalize zna v u = sn at *
  -- deletions and the disk
  have key3 : ∀ i, i ≤ vN v → ∀ zx, ∀ x : Int32, x + 1 = nI (vN v - i) → ∀ I' A' : Nat → Nat → Int32, zGr I0 A0 I' A' → mSc ((zs1 v sp ++ zs2 v u sp ++ zs3 u sp ++ zs4 u sn.1 ++ zs5 v u sp sn.1) ++ zd9 v sp.1 sn.1.1 i) I' A' → zW L xs mX6_scripts 135 [some (.ref 107), some (.int (nI ia)), some (.int x), zx] [] (I', R, A', lo, dd) Φ := by
    refine ze_up ?_ ?_
    · intro zx x hx I' A' h1 h2
      have hx' : x = -1 := by
        have : x + 1 - 1 = nI (vN v - vN v) - 1 := by rw [hx]
        rw [Int32.add_sub_cancel, Nat.sub_self] at this
        rw [this]
        decide
      subst hx'
      obtain ⟨hIa, hIb, ⟨m0, -⟩, ⟨m0', -⟩, e3, e4⟩ := mEn_fr hE h1
      have hll : ((zs1 v sp ++ zs2 v u sp ++ zs3 u sp ++ zs4 u sn.1 ++ zs5 v u sp sn.1) ++ zd9 v sp.1 sn.1.1 (vN v)).length = (zs1 v sp).length + (zs2 v u sp).length + (zs3 u sp).length + (zs4 u sn.1).length + (zs5 v u sp sn.1).length + (zs6 v sp sn.1).length := by simp only [List.length_append]; rfl
      have hzz' : zo = ((zs1 v sp ++ zs2 v u sp ++ zs3 u sp ++ zs4 u sn.1 ++ zs5 v u sp sn.1) ++ zd9 v sp.1 sn.1.1 (vN v)) ++ zo10 v u := hzz
      have hc' := h2.1
      generalize ((zs1 v sp ++ zs2 v u sp ++ zs3 u sp ++ zs4 u sn.1 ++ zs5 v u sp sn.1) ++ zd9 v sp.1 sn.1.1 (vN v)) = dn at h2 hll hc' hzz'
      refine vc_X6_scripts_135 ⟨fun _ => ?_, fun z => absurd (by decide) z⟩
      rw [hIa, hIb]
      simp (disch := omega) only [ze_lit, pk_mul, nI_add, nI_clamp, ze_inI, nI_ltI, nI_eq, m0, m0', hc']
      refine ⟨by omega, by omega, fun q => hk I' A' h1 (by rw [hzz', zo10, if_pos q, List.append_nil]; exact h2), fun q => ?_⟩
      have hz : zo10 v u = [(10, none, none)] := if_neg q
      rw [hz, show [((10, none, none) : zOp)].length = 1 from rfl] at hTl
      refine ⟨by omega, by omega, by omega, hk _ _ (zGr_put h1) (by rw [hzz', hz]; exact mSc_put h2 rfl rfl rfl)⟩
    · intro i hi ih zx x hx I' A' h1 h2
      have hx' : x = nI (vN v - 1 - i) := by
        have : x + 1 - 1 = nI (vN v - i) - nI 1 := by rw [hx]; rfl
        rw [Int32.add_sub_cancel, ze_sub (by omega)] at this
        rw [this, show vN v - i - 1 = vN v - 1 - i by omega]
      subst hx'
      clear hx
      obtain ⟨hIa, hIb, ⟨m0, m1, m2, p0, p1, p2, n0, n1, n2, n3, n4, n5⟩, -, e3, e4⟩ := mEn_fr hE h1
      have r1 := e4.1
      have r2 := e3.1
      have hkk := w3 (vN v - 1 - i) (by omega)
      have e1 : (zpI (sn.1.1 (vN v - 1 - i)) = -1) ↔ sn.1.1 (vN v - 1 - i) = none := zpI_none (fun k hk => by have := (hm.1 _ k hk).2.1; omega)
      have e2 : (zpI (sp.1 (vhom v (vN v - 1 - i))) = -1) ↔ sp.1 (vhom v (vN v - 1 - i)) = none := zpI_none (fun k hk => by have := (hmp.1 _ k hk).2.1; omega)
      have hlm := zfm_le (g := fun k => zo9 v sp.1 sn.1.1 (vN v - 1 - k)) (show i + 1 ≤ vN v by omega)
      rw [show (List.range (vN v)).flatMap (fun k => zo9 v sp.1 sn.1.1 (vN v - 1 - k)) = zs6 v sp sn.1 from rfl] at hlm
      have hc' := h2.1
      have hll : ((zs1 v sp ++ zs2 v u sp ++ zs3 u sp ++ zs4 u sn.1 ++ zs5 v u sp sn.1) ++ zd9 v sp.1 sn.1.1 i).length = (zs1 v sp).length + (zs2 v u sp).length + (zs3 u sp).length + (zs4 u sn.1).length + (zs5 v u sp sn.1).length + ((List.range i).flatMap (fun k => zo9 v sp.1 sn.1.1 (vN v - 1 - k))).length := by simp only [List.length_append]; rfl
      have hsn : zd9 v sp.1 sn.1.1 (i + 1) = zd9 v sp.1 sn.1.1 i ++ zo9 v sp.1 sn.1.1 (vN v - 1 - i) := zfm_s _ _
      rw [zfm_s] at hlm
      rw [List.length_append] at hlm
      rw [hsn, ← List.append_assoc] at ih
      generalize hdn : (zs1 v sp ++ zs2 v u sp ++ zs3 u sp ++ zs4 u sn.1 ++ zs5 v u sp sn.1) ++ zd9 v sp.1 sn.1.1 i = dn at h2 ih hc' hll
      have hnx : ∀ zx, ∀ I' A' : Nat → Nat → Int32, zGr I0 A0 I' A' → mSc (dn ++ zo9 v sp.1 sn.1.1 (vN v - 1 - i)) I' A' → zW L xs mX6_scripts 135 [some (.ref 107), some (.int (nI ia)), some (.int (nI (vN v - 1 - i) + -nI 1)), zx] [] (I', R, A', lo, dd) Φ := by
        intro zx
        refine ih zx _ ?_
        show nI (vN v - 1 - i) + -1 + 1 = _
        rw [Int32.add_assoc, show ((-1 : Int32) + 1) = 0 from by decide, Int32.add_zero, show vN v - 1 - i = vN v - (i + 1) by omega]
      refine vc_X6_scripts_135 ?_
      rw [hIa, hIb]
      simp (disch := omega) only [ze_lit, pk_mul, nI_add, nI_clamp, ze_inI, nI_ltI, nI_eq, r1, r2, hc', n5]
      refine ⟨fun z => absurd z (by omega), fun _ => ⟨by omega, fun q => ⟨by omega, by omega, fun q2 => hnx _ _ _ h1 ?_, fun q2 => ?_⟩, fun q => hnx _ _ _ h1 ?_⟩⟩
      · rw [show zo9 v sp.1 sn.1.1 (vN v - 1 - i) = [] from if_neg (fun z => z.2 (e2.mp q2)), List.append_nil]
        exact h2
      · have hz9 : zo9 v sp.1 sn.1.1 (vN v - 1 - i) = [(9, some (vN v - 1 - i), none)] := if_pos ⟨e1.mp q, fun z => q2 (e2.mpr z)⟩
        rw [hz9, show [((9, some (vN v - 1 - i), none) : zOp)].length = 1 from rfl] at hlm
        rw [hz9] at hnx
        exact ⟨by omega, by omega, by omega, hnx _ _ _ (zGr_put h1) (mSc_put h2 rfl rfl rfl)⟩
      · rw [show zo9 v sp.1 sn.1.1 (vN v - 1 - i) = [] from if_neg (fun z => q (e1.mpr z.1)), List.append_nil]
        exact h2
  -- changes of nodes
  have key2 : ∀ i, i ≤ vN v → ∀ zx, ∀ I' A' : Nat → Nat → Int32, zGr I0 A0 I' A' → mSc ((zs1 v sp ++ zs2 v u sp ++ zs3 u sp ++ zs4 u sn.1) ++ (List.range i).flatMap (zo58 v u sp.1 sn.1.1)) I' A' → zW L xs mX6_scripts 58 [some (.ref 107), some (.int (nI ia)), some (.int (nI i)), zx] [] (I', R, A', lo, dd) Φ := by
    refine ze_up ?_ ?_
    · intro zx I' A' h1 h2
      obtain ⟨hIa, hIb, ⟨m0, m1, m2, -⟩, -, e3, e4⟩ := mEn_fr hE h1
      refine vc_X6_scripts_58 ?_
      rw [hIa]
      simp (disch := omega) only [ze_lit, pk_mul, nI_add, nI_clamp, ze_inI, nI_ltI, nI_eq, m2]
      refine ⟨by omega, fun q => absurd q (Nat.lt_irrefl _), fun _ => ⟨by omega, key3 0 (Nat.zero_le _) _ _ (Int32.sub_add_cancel _ _) I' A' h1 ?_⟩⟩
      simpa [zs5, zd9] using h2
    · intro i hi ih zx I' A' h1 h2
      have hlm := zfm_le (g := zo58 v u sp.1 sn.1.1) (show i + 1 ≤ vN v by omega)
      rw [show (List.range (vN v)).flatMap (zo58 v u sp.1 sn.1.1) = zs5 v u sp sn.1 from rfl] at hlm
      have hll : ((zs1 v sp ++ zs2 v u sp ++ zs3 u sp ++ zs4 u sn.1) ++ (List.range i).flatMap (zo58 v u sp.1 sn.1.1)).length = (zs1 v sp).length + (zs2 v u sp).length + (zs3 u sp).length + (zs4 u sn.1).length + ((List.range i).flatMap (zo58 v u sp.1 sn.1.1)).length := by simp only [List.length_append]
      obtain ⟨hIa, hIb, ⟨m0, m1, m2, -⟩, -, e3, e4⟩ := mEn_fr hE h1
      rw [zfm_s] at ih hlm
      rw [List.length_append] at hlm
      rw [← List.append_assoc] at ih
      generalize hdn : (zs1 v sp ++ zs2 v u sp ++ zs3 u sp ++ zs4 u sn.1) ++ (List.range i).flatMap (zo58 v u sp.1 sn.1.1) = dn at h2 ih hll
      refine vc_X6_scripts_58 ?_
      rw [hIa]
      simp (disch := omega) only [ze_lit, pk_mul, nI_add, nI_clamp, ze_inI, nI_ltI, nI_eq, m2]
      refine ⟨by omega, fun _ => ?_, fun q => absurd hi q⟩
      cases hj : sn.1.1 i with
      | none =>
        have r1 := e4.1 i (by omega)
        rw [hj] at r1
        replace r1 : A' 115 i = -nI 1 := r1
        have hz : zo58 v u sp.1 sn.1.1 i = [] := by simp [zo58, hj]
        rw [hz, List.append_nil] at ih
        refine vc_X6_scripts_72 ?_
        simp (disch := omega) only [ze_lit, pk_mul, nI_add, nI_clamp, ze_inI, nI_ltI, nI_eq, r1]
        exact ⟨fun z => absurd z (by omega), fun _ => ⟨by omega, fun _ => ih _ _ _ h1 h2, fun z => absurd trivial z⟩⟩
      | some j =>
        have hjl := (hm.1 i j hj).2.1
        have hz : zo58 v u sp.1 sn.1.1 i = zof v u sp.1 sn.1.1 i j 4 := by simp [zo58, hj]
        rw [hz] at hlm ih
        have key4 : ∀ m, m ≤ 4 → ∀ I'' A'' : Nat → Nat → Int32, zGr I0 A0 I'' A'' → mSc (dn ++ zof v u sp.1 sn.1.1 i j m) I'' A'' → zW L xs mX6_scripts 72 [some (.ref 107), some (.int (nI ia)), some (.int (nI i)), some (.int (nI (5 + m)))] [] (I'', R, A'', lo, dd) Φ := by
          refine ze_up ?_ ?_
          · intro I'' A'' g1 g2
            refine vc_X6_scripts_72 ?_
            simp (disch := omega) only [ze_lit, pk_mul, nI_add, nI_clamp, ze_inI, nI_ltI, nI_eq]
            exact ⟨fun _ => ih _ _ _ g1 g2, fun z => absurd (by omega) z⟩
          · intro m hm4 ih2 I'' A'' g1 g2
            have hE2 := mEn_fr hE g1
            have r1 := hE2.2.2.2.2.2.1 i (by omega)
            rw [hj] at r1
            replace r1 : A'' 115 i = nI j := r1
            have hc2 := g2.1
            have hl2 : (dn ++ zof v u sp.1 sn.1.1 i j m).length = dn.length + (zof v u sp.1 sn.1.1 i j m).length := List.length_append
            have hls : zof v u sp.1 sn.1.1 i j (m + 1) = zof v u sp.1 sn.1.1 i j m ++ zon v u sp.1 sn.1.1 i j (5 + m) := zfm_s _ _
            have hl3 : (zof v u sp.1 sn.1.1 i j (m + 1)).length ≤ (zof v u sp.1 sn.1.1 i j 4).length := zfm_le (g := fun k => zon v u sp.1 sn.1.1 i j (5 + k)) (by omega)
            rw [hls, List.length_append] at hl3
            rw [hls, ← List.append_assoc] at ih2
            refine vc_X6_scripts_72 ?_
            simp (disch := omega) only [ze_lit, pk_mul, nI_add, nI_clamp, ze_inI, nI_ltI, nI_eq, r1, ze_m1n]
            refine ⟨fun z => absurd z (by omega), fun _ => ⟨by omega, fun z => z.elim, fun _ => ⟨by omega, s6_needs ha hb hE2 hwf hwu hmp hm (by omega) hi hjl (fun z => zk_r (vc_X6_scripts_101 ?_)) (fun z => zk_r (vc_X6_scripts_101 ?_))⟩⟩⟩
            · have hq : zon v u sp.1 sn.1.1 i j (5 + m) = [(5 + m, some i, some j)] := if_pos z
              rw [hq, show [((5 + m, some i, some j) : zOp)].length = 1 from rfl] at hl3
              rw [hq] at ih2
              simp (disch := omega) only [ze_lit, pk_mul, nI_add, nI_clamp, ze_inI, nI_ltI, nI_eq, hc2, r1]
              exact ⟨by omega, fun q => absurd q (by decide), fun _ => ⟨by omega, by omega, by omega, ih2 _ _ (zGr_put g1) (mSc_put g2 rfl rfl rfl)⟩⟩
            · have hq : zon v u sp.1 sn.1.1 i j (5 + m) = [] := if_neg (by rw [z]; decide)
              rw [hq, List.append_nil] at ih2
              simp (disch := omega) only [ze_lit, pk_mul, nI_add, nI_clamp, ze_inI, nI_ltI, nI_eq, hc2, r1]
              exact ⟨by omega, fun _ => ih2 _ _ g1 g2, fun q => absurd trivial q⟩
        exact key4 0 (Nat.zero_le _) I' A' h1 (by simpa [zof] using h2)
  -- creations
  have key1 : ∀ i, i ≤ vN u → ∀ zx, ∀ I' A' : Nat → Nat → Int32, zGr I0 A0 I' A' → mSc ((zs1 v sp ++ zs2 v u sp ++ zs3 u sp) ++ (List.range i).flatMap (zo4 sn.1.2)) I' A' → zW L xs mX6_scripts 16 [some (.ref 107), some (.int (nI ia)), some (.int (nI i)), zx] [] (I', R, A', lo, dd) Φ := by
    refine ze_up ?_ ?_
    · intro zx I' A' h1 h2
      obtain ⟨hIa, hIb, -, ⟨m0, m1, m2, -⟩, e3, e4⟩ := mEn_fr hE h1
      refine vc_X6_scripts_16 ?_
      rw [hIb]
      simp (disch := omega) only [ze_lit, pk_mul, nI_add, nI_clamp, ze_inI, nI_ltI, nI_eq, m2]
      exact ⟨by omega, fun q => absurd q (Nat.lt_irrefl _), fun _ => key2 0 (Nat.zero_le _) _ I' A' h1 (by simpa [zs4] using h2)⟩
    · intro i hi ih zx I' A' h1 h2
      obtain ⟨hIa, hIb, -, ⟨m0, m1, m2, -⟩, e3, e4⟩ := mEn_fr hE h1
      have r1 := e4.2.1
      have e1 : (zpI (sn.1.2 i) = -1) ↔ sn.1.2 i = none := zpI_none (fun k hk => by have := (hm.2 k i hk).1; omega)
      have hlm := zfm_le (g := zo4 sn.1.2) (show i + 1 ≤ vN u by omega)
      rw [show (List.range (vN u)).flatMap (zo4 sn.1.2) = zs4 u sn.1 from rfl] at hlm
      have hc' := h2.1
      have hll : ((zs1 v sp ++ zs2 v u sp ++ zs3 u sp) ++ (List.range i).flatMap (zo4 sn.1.2)).length = (zs1 v sp).length + (zs2 v u sp).length + (zs3 u sp).length + ((List.range i).flatMap (zo4 sn.1.2)).length := by simp only [List.length_append]
      rw [zfm_s] at ih hlm
      rw [List.length_append] at hlm
      rw [← List.append_assoc] at ih
      generalize hdn : (zs1 v sp ++ zs2 v u sp ++ zs3 u sp) ++ (List.range i).flatMap (zo4 sn.1.2) = dn at h2 ih hc' hll
      refine vc_X6_scripts_16 ?_
      rw [hIb]
      simp (disch := omega) only [ze_lit, pk_mul, nI_add, nI_clamp, ze_inI, nI_ltI, nI_eq, m2, r1, hc']
      simp only [ze_m1r, e1]
      refine ⟨by omega, fun _ => ⟨by omega, fun q => ?_, fun q => ih _ _ _ h1 (by rw [show zo4 sn.1.2 i = [] from if_neg q, List.append_nil]; exact h2)⟩, fun q => absurd hi q⟩
      have hq : zo4 sn.1.2 i = [(4, none, some i)] := if_pos q
      rw [hq, show [((4, none, some i) : zOp)].length = 1 from rfl] at hlm
      rw [hq] at ih
      exact ⟨by omega, by omega, by omega, ih _ _ _ (zGr_put h1) (mSc_put h2 rfl rfl rfl)⟩
  refine s6_scriptsParts ha hb hE hwf hwu hmp (by omega) hI0 (fun I1 A1 f1 g1 => zk_r (vc_X6_scripts_14 ?_))
  exact key1 0 (Nat.zero_le _) _ I1 A1 f1 (by simpa using g1)
theorem s6_opsTo {l : List zOp} (hc : mSc l I A) (hl : l.length ≤ 105) (hk : ∀ e, e ∈ l → e.1 ≤ 10) {n k : Nat} (hn : n ≤ l.length) (hk10 : k ≤ 10) (h : Φ (.inl (some (.int (nI (zcnt (fun i => decide ((zat l i).1 = k)) n))))) (I, R, A, lo, dd) 0) : zC L xs mX6_opsTo [.ref 107, .int (nI n), .int (nI k)] (I, R, A, lo, dd) Φ := by
  refine zC_en (vc_X6_opsTo_0 ?_)
  refine ze_up (P := fun i => zW L xs mX6_opsTo 5 [some (.ref 107), some (.int (nI n)), some (.int (nI k)), some (.int (nI (zcnt (fun i => decide ((zat l i).1 = k)) i))), some (.int (nI i))] [] (I, R, A, lo, dd) Φ) (n := n) ?_ ?_ 0 (Nat.zero_le _)
  · refine vc_X6_opsTo_5 ?_
    simp (disch := omega) only [ze_lit, pk_mul, nI_add, nI_clamp, ze_inI, nI_ltI, nI_eq]
    exact ⟨fun q => absurd q (Nat.lt_irrefl _), fun _ => h⟩
  · intro i hi ih
    have hz := hk _ (zat_mem (show i < l.length by omega))
    have hv := (hc.2 i (by omega)).1
    refine vc_X6_opsTo_5 ?_
    simp (disch := omega) only [ze_lit, pk_mul, nI_add, nI_clamp, ze_inI, nI_ltI, nI_eq, hv]
    unfold zcnt at ih
    exact ⟨fun _ => ⟨by omega, fun q => by rw [if_pos (decide_eq_true q)] at ih; exact ih, fun q => by rw [if_neg (by simpa using q)] at ih; exact ih⟩, fun q => absurd hi q⟩
def zqf (lo hi o : Nat) (e : zOp) : Bool := decide (lo ≤ e.1 ∧ e.1 ≤ hi ∧ e.2.1 = some o)
theorem s6_opsFrom {l : List zOp} (hc : mSc l I A) (hl : l.length ≤ 105) (hk : ∀ e, e ∈ l → e.1 ≤ 10) (hko : ∀ e, e ∈ l → ∀ k, e.2.1 = some k → k < 24) {n lw hi o : Nat} (hn : n ≤ l.length) (hlw : lw ≤ 10) (hhi : hi ≤ 10) (ho : o < 24) (h : Φ (.inl (some (.int (nI (zcnt (fun i => zqf lw hi o (zat l (n + i))) (l.length - n)))))) (I, R, A, lo, dd) 0) : zC L xs mX6_opsFrom [.ref 107, .int (nI n), .int (nI lw), .int (nI hi), .int (nI o)] (I, R, A, lo, dd) Φ := by
  refine zC_en (vc_X6_opsFrom_0 ?_)
  refine ze_up (P := fun i => zW L xs mX6_opsFrom 6 [some (.ref 107), some (.int (nI n)), some (.int (nI lw)), some (.int (nI hi)), some (.int (nI o)), some (.int (nI (zcnt (fun i => zqf lw hi o (zat l (n + i))) i))), some (.int (nI (n + i)))] [] (I, R, A, lo, dd) Φ) (n := l.length - n) ?_ ?_ 0 (Nat.zero_le _)
  · refine vc_X6_opsFrom_6 ?_
    rw [hc.1]
    simp (disch := omega) only [ze_lit, pk_mul, nI_add, nI_clamp, ze_inI, nI_ltI, nI_eq]
    exact ⟨fun q => absurd q (by omega), fun _ => h⟩
  · intro i hii ih
    have hz := hk _ (zat_mem (show n + i < l.length by omega))
    obtain ⟨hv1, hv2, hv3⟩ := hc.2 (n + i) (by omega)
    have e1 : (zpI (zat l (n + i)).2.1 = nI o) ↔ (zat l (n + i)).2.1 = some o := zpI_eqn (fun k hk => by have := hko _ (zat_mem (show n + i < l.length by omega)) k hk; omega) (by omega)
    refine vc_X6_opsFrom_6 ?_
    rw [hc.1]
    simp (disch := omega) only [ze_lit, pk_mul, nI_add, nI_clamp, ze_inI, nI_ltI, nI_eq, hv1, hv2, e1]
    unfold zcnt at ih
    have hno : ¬ (lw ≤ (zat l (n + i)).1 ∧ (zat l (n + i)).1 ≤ hi ∧ (zat l (n + i)).2.1 = some o) → zW L xs mX6_opsFrom 6 [some (.ref 107), some (.int (nI n)), some (.int (nI lw)), some (.int (nI hi)), some (.int (nI o)), some (.int (nI (zcnt (fun i => zqf lw hi o (zat l (n + i))) i + 0))), some (.int (nI (n + i + 1)))] [] (I, R, A, lo, dd) Φ := fun q => by
      rw [if_neg (by unfold zqf; simpa using q)] at ih
      exact ih
    exact ⟨fun _ => ⟨by omega, fun q => hno (by omega), fun q => ⟨fun q2 => hno (by omega), fun q2 => ⟨by omega, fun q3 => by rw [if_pos (by unfold zqf; exact decide_eq_true ⟨by omega, by omega, q3⟩)] at ih; exact ih, fun q3 => hno (fun z => q3 z.2.2)⟩⟩⟩, fun q => absurd (by omega) q⟩
theorem s6_scriptCost (ha : ia ≤ 1) (hib : ib = 1 - ia) (hv : mIm ia v A) (hu : mIm ib u A) (hwf : zwf v) (hwu : zwf u) {co : Nat → Int32} (hco : ∀ k, k < 11 → A 109 k = co k) (h : ∀ I' A' : Nat → Nat → Int32, (∀ c j, ¬ (c = 107 ∧ (j = 14 ∨ j = 15 ∨ j = 22)) → I' c j = I c j) → (∀ c, ¬ (113 ≤ c ∧ c ≤ 118) → A' c = A c) → Φ (.inl (some (.int (zcs co (zops v u (zpa v u) (zna v u).1) (zops v u (zpa v u) (zna v u).1).length)))) (I', R, A', lo, dd) 0) : zC L xs mX6_scriptCost [.ref 107, .int (nI ia)] (I, R, A, lo, dd) Φ := by
  refine zC_en (vc_X6_scriptCost_0 ?_)
  refine s6_scripts ha hib hv hu hwf hwu (fun I1 A1 f1 f2 hE hc => zk_r (vc_X6_scriptCost_5 ?_))
  have hT := zops_le v u (zpa v u) (zna v u).1 (zmo_pa v u) (zmk_na v u).1 hwf.1 hwu.1 hwf.2.1 hwu.2.1
  have hk : ∀ e, e ∈ zops v u (zpa v u) (zna v u).1 → e.1 ≤ 10 := fun e he => zops_kind he
  have h' := h I1 A1 f1 f2
  generalize zops v u (zpa v u) (zna v u).1 = l at hc hT hk h'
  refine ze_up (P := fun i => zW L xs mX6_scriptCost 9 [some (.ref 107), some (.int (nI ia)), some (.int (zcs co l i)), some (.int (nI i))] [] (I1, R, A1, lo, dd) Φ) (n := l.length) ?_ ?_ 0 (Nat.zero_le _)
  · refine vc_X6_scriptCost_9 ?_
    rw [hc.1]
    simp (disch := omega) only [ze_lit, pk_mul, nI_add, nI_clamp, ze_inI, nI_ltI, nI_eq]
    exact ⟨fun q => absurd q (Nat.lt_irrefl _), fun _ => h'⟩
  · intro i hi ih
    have hz := hk _ (zat_mem hi)
    have hv := (hc.2 i hi).1
    have hw : A1 109 (zat l i).1 = co (zat l i).1 := by rw [f2 109 (by decide)]; exact hco (zat l i).1 (by omega)
    refine vc_X6_scriptCost_9 ?_
    rw [hc.1]
    simp (disch := omega) only [ze_lit, pk_mul, nI_add, nI_clamp, ze_inI, nI_ltI, nI_eq, hv, hw]
    exact ⟨fun _ => ⟨by omega, by omega, ih⟩, fun q => absurd hi q⟩
theorem s6_isPlain (ha : ia ≤ 1) (hb : ib ≤ 1) (hE : mEn ia ib v u sp sn I A) (hwf : zwf v) (hwu : zwf u) (hmp : zmo (vP v) (vP u) sp) (hm : zmo (vN v) (vN u) sn.1) {i : Nat} (hi : i < vN v) (h1 : zun v u sp sn.1 i = true → Φ (.inl (some (.int 1))) (I, R, A, lo, dd) 0) (h0 : zun v u sp sn.1 i = false → Φ (.inl (some (.int 0))) (I, R, A, lo, dd) 0) : zC L xs mX6_isPlain [.ref 107, .int (nI i)] (I, R, A, lo, dd) Φ := by
  have w2 := hwf.2.1
  have r1 := hE.2.2.2.2.2.1 i (by omega)
  refine zC_en (vc_X6_isPlain_0 ?_)
  cases hij : sn.1.1 i with
  | none =>
    rw [hij] at r1
    replace r1 : A 115 i = -nI 1 := r1
    simp (disch := omega) only [ze_lit, pk_mul, nI_add, nI_clamp, ze_inI, nI_ltI, nI_eq, r1]
    refine ⟨by omega, fun _ => vc_X6_isPlain_18 ?_, fun z => absurd trivial z⟩
    simp (disch := omega) only [ze_lit, pk_mul, nI_add, nI_clamp, ze_inI, nI_ltI, nI_eq]
    exact ⟨fun z => absurd z (by omega), fun _ => ⟨fun _ => ⟨Or.inl trivial, h0 (by simp [zun, hij])⟩, fun z => absurd trivial z⟩⟩
  | some j =>
    rw [hij] at r1
    replace r1 : A 115 i = nI j := r1
    have hj := (hm.1 i j hij).2.1
    have u2 := hwu.2.1
    simp (disch := omega) only [ze_lit, pk_mul, nI_add, nI_clamp, ze_inI, nI_ltI, nI_eq, r1, ze_m1n]
    refine ⟨by omega, fun z => z.elim, fun _ => ?_⟩
    have fin : ∀ k, 5 ≤ k ∧ k ≤ 9 → zun v u sp sn.1 i = false → zW L xs mX6_isPlain 18 [some (.ref 107), some (.int (nI i)), some (.int 0), some (.int (nI k))] [] (I, R, A, lo, dd) Φ := by
      intro k hk q
      refine vc_X6_isPlain_18 ?_
      simp (disch := omega) only [ze_lit, pk_mul, nI_add, nI_clamp, ze_inI, nI_ltI, nI_eq]
      exact ⟨fun _ => ⟨Or.inl trivial, h0 q⟩, fun _ => ⟨fun _ => ⟨Or.inl trivial, h0 q⟩, fun z => absurd trivial z⟩⟩
    have step : ∀ k, 5 ≤ k ∧ k ≤ 8 → (zneed v u sp.1 sn.1.1 k i j = false → zW L xs mX6_isPlain 18 [some (.ref 107), some (.int (nI i)), some (.int 1), some (.int (nI (k + 1)))] [] (I, R, A, lo, dd) Φ) → (zneed v u sp.1 sn.1.1 k i j = true → zun v u sp sn.1 i = false) → zW L xs mX6_isPlain 18 [some (.ref 107), some (.int (nI i)), some (.int 1), some (.int (nI k))] [] (I, R, A, lo, dd) Φ := by
      intro k hk g1 g2
      refine vc_X6_isPlain_18 ?_
      simp (disch := omega) only [ze_lit, pk_mul, nI_add, nI_clamp, ze_inI, nI_ltI, nI_eq, r1]
      refine ⟨fun z => absurd z (by omega), fun _ => ⟨fun z => absurd z (by omega), fun _ => ⟨by omega, s6_needs ha hb hE hwf hwu hmp hm hk hi hj (fun z => zk_r (vc_X6_isPlain_40 ?_)) (fun z => zk_r (vc_X6_isPlain_40 ?_))⟩⟩⟩
      · rw [nI_1]
        exact ⟨fun q => absurd q (by decide), fun _ => fin _ (by omega) (g2 z)⟩
      · rw [nI_1]
        exact ⟨fun _ => g1 z, fun q => absurd rfl q⟩
    refine step 5 (by decide) (fun z5 => ?_) (fun z => by simp [zun, hij, z])
    refine step 6 (by decide) (fun z6 => ?_) (fun z => by simp [zun, hij, z])
    refine step 7 (by decide) (fun z7 => ?_) (fun z => by simp [zun, hij, z])
    refine step 8 (by decide) (fun z8 => ?_) (fun z => by simp [zun, hij, z])
    exact vc_X6_isPlain_18 ⟨fun _ => ⟨Or.inr rfl, h1 (by simp [zun, hij, z5, z6, z7, z8])⟩, fun z => absurd (by decide) z⟩
end
