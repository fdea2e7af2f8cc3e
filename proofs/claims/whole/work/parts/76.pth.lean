/-! formatPath, formatted -/
def sPw (s : zAb) (l : List Nat) : zAb := (sT s, sC s, sE s, sV s, sO s, l)
def zpth (v : zV) (n : Nat) : Nat → List Nat
  | 0 => znb (vpt v 0 (vhom v n))
  | m + 1 => (zpth v n m ++ [47]) ++ znb (vnd v 0 (zan v n (vdep v n - (m + 1))))
theorem zpth_le (v : zV) (n : Nat) : ∀ m, (zpth v n m).length ≤ 6 + 7 * m := by
  intro m
  induction m with
  | zero => exact zdl_le _ _
  | succ m ih =>
    have h1 : (znb (vnd v 0 (zan v n (vdep v n - (m + 1))))).length ≤ 6 := zdl_le _ _
    show ((zpth v n m ++ [47]) ++ znb (vnd v 0 (zan v n (vdep v n - (m + 1))))).length ≤ _
    rw [List.length_append, List.length_append]
    simp only [List.length_singleton]
    omega
theorem znm_n {x : Int32} (h : znm x) : x = nI x.toNatClampNeg ∧ zok x.toNatClampNeg ∧ x.toNatClampNeg < 2 ^ 31 := by
  obtain ⟨c, rfl, hc⟩ := h
  have : c < 2 ^ 31 := by have := hc.2.1; omega
  rw [nI_clamp this]
  exact ⟨rfl, hc, this⟩
theorem zan_s {v : zV} (hw : zwf v) {n i : Nat} (hn : n < vN v) (hi : i + 1 < vdep v n) : vpar v (zan v n i) = some (zan v n (i + 1)) := by
  obtain ⟨h1, h2⟩ := zan_ok hw hn i (by omega)
  cases hp : vpar v (zan v n i) with
  | none =>
    have := hw.2.2.2.2.1 _ h1 hp
    omega
  | some p =>
    have : zan v n (i + 1) = p := by
      show (match vpar v (zan v n i) with
        | none => zan v n i
        | some p => p) = p
      rw [hp]
    rw [this]
def zF_formatPath (s : zAb) (x y : Int32) : zOc := zFn s x y (fun k n => (0, nI (zpth (sV s k) n (vdep (sV s k) n)).length, sPw s (zpth (sV s k) n (vdep (sV s k) n))))
def zF_formatted (s : zAb) (x : Int32) : zOc := match zix x (sP s).length with
  | none => (1, 0, s)
  | some k => (0, nI ((sP s).getD k 0), s)
theorem zS5_pa {o w sp : Nat} {s : zAb} {l : List Nat} {I I' : Nat → Nat → Int32} {R : Nat → Nat → Option Nat} {A A' : Nat → Nat → Int32} (h : zS5 o w sp s I R A) (g : zOne 0 9 46 I A I' A') (hl : cPa l I' A') : zS5 o w sp (sPw s l) I' R A' := by
  obtain ⟨ho, hw, hsp, hne, ⟨r5, r6, r7⟩, hT, ⟨e2, e3⟩, hv, hu, hP, hc, hf⟩ := h
  have bo := zib_le ho
  have bw := zib_le hw
  exact ⟨ho, hw, hsp, hne, ⟨r5, r6, r7⟩, cTt_fr hT (g.1 _ _ (by omega)) (g.2 _ (by omega)), ⟨(g.1 _ _ (by omega)).trans e2, (g.1 _ _ (by omega)).trans e3⟩, cIm_fr hv (by funext j; exact g.1 _ _ (by omega)) (fun j hj => g.2 _ (by omega)), cIm_fr hu (by funext j; exact g.1 _ _ (by omega)) (fun j hj => g.2 _ (by omega)), hl, cCo_fr hc (g.2 _ (by omega)), hf.elim (fun z => Or.inl ((g.1 _ _ (by omega)).trans z)) (fun z => Or.inr (zFre_fr z (g.1 _ _ (by omega)) (by funext j; exact g.1 _ _ (by omega)) rfl (fun c c1 _ => g.2 c (by omega))))⟩
theorem zG5_one {I I' : Nat → Nat → Int32} {R : Nat → Nat → Option Nat} {A A' : Nat → Nat → Int32} {k j a : Nat} (hk : k < 107) (ha : a < 107) (g : zOne k j a I A I' A') : zG5 I R A I' R A' := fun c hc => ⟨by funext i; exact g.1 _ _ (by omega), rfl, g.2 c (by omega)⟩
theorem zM6_pa {s : zAb} {l : List Nat} {I I' A A' : Nat → Nat → Int32} (h : zM6 s I A) (g : zOne 107 12 111 I A I' A') (hl : mPa l I' A') : zM6 (sPw s l) I' A' := by
  obtain ⟨⟨t1, t2, t3⟩, ⟨e6, e7⟩, hv, hu, -, hc⟩ := h
  exact ⟨⟨(g.1 _ _ (by omega)).trans t1, t2, fun i hi => by rw [g.2 110 (by omega)]; exact t3 i hi⟩, ⟨(g.1 _ _ (by omega)).trans e6, (g.1 _ _ (by omega)).trans e7⟩, mIm_fr hv (g.2 _ (by omega)), mIm_fr hu (g.2 _ (by omega)), hl, fun k hk => by rw [g.2 109 (by omega)]; exact hc k hk⟩
theorem zG6_one {I I' A A' : Nat → Nat → Int32} {j a : Nat} (ha : 107 ≤ a) (g : zOne 107 j a I A I' A') : zG6 I A I' A' := fun c hc => ⟨by funext i; exact g.1 _ _ (by omega), g.2 c (by omega)⟩
section
variable {L : Nat} {xs : Nat → Int32} {I : Nat → Nat → Int32} {R : Nat → Nat → Option Nat} {A : Nat → Nat → Int32} {lo : Int64} {dd : UInt64} {Φ : zPo} {s : zAb} {o w sp : Nat} {x y z : Int32}
theorem z5_formatted (hok : zOK s) (hs : zS5 o w sp s I R A) (hk : zK0 [(0, 1)] (zF_formatted s x) I R A lo dd Φ) : zC L xs mX5_formatted [.ref 0, .int x] (I, R, A, lo, dd) Φ := by
  have g := zG5_rf I R A
  have hP := hs.2.2.2.2.2.2.2.2.2.1
  have h41 := hok.2
  refine zC_en (vc_X5_formatted_0 ?_)
  rw [hP.1]
  refine zh_nd (by omega) (fun n hn e => ?_) (fun hno => zK0_t hk (k := 0) (x := 0) (s' := s) ?_ rfl hs g)
  · subst e
    rw [nI_clamp (by omega), hP.2 n hn]
    refine ⟨nI_in (by omega) (by decide), zK0_r hk ?_ hs g⟩
    unfold zF_formatted
    rw [zix_s hn (by omega)]
  · unfold zF_formatted
    rw [zix_n hno]
theorem z6_formatted (hok : zOK s) (hm : zM6 s I A) (hk : zK6 (zF_formatted s x) I R A lo dd Φ) : zC L xs mX6_formatted [.ref 107, .int x] (I, R, A, lo, dd) Φ := by
  have m0 : ∀ x, zM6 s (z_up I 107 0 x) A := fun x => zM6_up hm (by omega)
  have hP := hm.2.2.2.2.1
  have h41 := hok.2
  refine zC_en (vc_X6_formatted_0 ?_)
  rw [hP.1]
  refine zh_mn (by omega) (fun n hn e => zh_ok ?_) (fun hno => zh_ng (by decide) (zK6_e hk (k := 1) (v := 0) (s' := s) ?_ (m0 _) zG6_up (zup_s.trans rfl) (fun _ => rfl)))
  · subst e
    rw [nI_clamp (by omega), hP.2 n hn]
    refine ⟨nI_in (by omega) (by decide), zK6_e hk (k := 0) (v := nI ((sP s).getD n 0)) (s' := s) ?_ (m0 _) zG6_up (zup_s.trans rfl) (fun _ => rfl)⟩
    unfold zF_formatted
    rw [zix_s hn (by omega)]
  · unfold zF_formatted
    rw [zix_n hno]
theorem z5_formatPath (hok : zOK s) (hs : zS5 o w sp s I R A) (hk : zK0 [(0, 1)] (zF_formatPath s x y) I R A lo dd Φ) : zC L xs mX5_formatPath [.ref 0, .int x, .int y] (I, R, A, lo, dd) Φ := by
  have hs' := hs
  obtain ⟨ho, hw, hsp, hne, ⟨r5, r6, r7⟩, -⟩ := hs'
  have g := zG5_rf I R A
  refine zi_formatPath hok hs (fun k b n hb ex hn ey => ?_) (fun hF => zK0_t hk (hF _) rfl hs g)
  obtain ⟨hk1, hib, hv⟩ := zS5_im hs hb
  have hwf := hok.1 k hk1
  have w1 := hwf.1
  have w2 := hwf.2.1
  have w3 := hwf.2.2.1 n hn
  have w6 := hwf.2.2.2.2.2.1 n hn
  have hb4 := zib_le hib
  subst ex
  subst ey
  have hF : zF_formatPath s (nI k) (nI n) = (0, nI (zpth (sV s k) n (vdep (sV s k) n)).length, sPw s (zpth (sV s k) n (vdep (sV s k) n))) := by
    unfold zF_formatPath
    rw [zFn_s hok hk1 hn]
  have key : ∀ j m, m + j = vdep (sV s k) n → ∀ I1 A1 : Nat → Nat → Int32, zOne 0 9 46 I A I1 A1 → cPa (zpth (sV s k) n m) I1 A1 → zW L xs mX5_formatPath 30 [some (.ref 0), some (.int (nI k)), some (.int (nI n)), some (.ref b), some (.int (nI (m + 1)))] [] (I1, R, A1, lo, dd) Φ := by
    intro j
    induction j with
    | zero =>
      intro m hm I1 A1 g1 hp
      have e10 : A1 (b + 10) n = nI (vdep (sV s k) n) := by
        rw [g1.2 _ (by omega)]
        exact hv.2.2.2.2.2.2.2.2.2.2.2.2 n hn
      refine vc_X5_formatPath_30 hib ?_
      rw [nI_clamp (by omega), e10]
      refine ⟨nI_in (by omega) (by decide), fun _ => ?_, fun q => absurd (nI_lt (by omega) (by omega)) q⟩
      rw [hp.1]
      have : m = vdep (sV s k) n := by omega
      subst this
      exact zK0_r hk hF (zS5_pa hs g1 hp) (zG5_one (by decide) (by decide) g1)
    | succ j ih =>
      intro m hm I1 A1 g1 hp
      have e10 : A1 (b + 10) n = nI (vdep (sV s k) n) := by
        rw [g1.2 _ (by omega)]
        exact hv.2.2.2.2.2.2.2.2.2.2.2.2 n hn
      have hle := zpth_le (sV s k) n m
      obtain ⟨ha1, ha2⟩ := zan_ok hwf hn (vdep (sV s k) n - (m + 1)) (by omega)
      refine vc_X5_formatPath_30 hib ?_
      rw [nI_clamp (by omega), e10]
      refine ⟨nI_in (by omega) (by decide), fun q => absurd ((nI_ltI (by omega) (by omega)).mp q) (by omega), fun _ => ⟨fun _ => ?_, fun q => absurd (by rw [hp.1]; exact nI_lt (b := 41) (by omega) (by decide)) q⟩⟩
      rw [hp.1, nI_clamp (by omega), nI_1]
      have hp2 := cPa_put (e := 47) (x := 47) hp rfl
      have g2 : zOne 0 9 46 I A (z_up I1 0 9 (nI ((zpth (sV s k) n m).length + 1))) (z_up A1 46 (zpth (sV s k) n m).length 47) := zOne_put g1
      generalize z_up I1 0 9 (nI ((zpth (sV s k) n m).length + 1)) = I2 at *
      generalize z_up A1 46 (zpth (sV s k) n m).length 47 = A2 at *
      have hv2 : cIm b (sV s k) I2 A2 := cIm_fr hv (by funext j; exact g2.1 _ _ (by omega)) (fun j hj => g2.2 _ (by omega))
      refine ⟨nI_in (by omega) (by decide), s2_ancestor hib hv2 hwf hn (by omega) (zk_r (vc_X5_formatPath_59 hib ?_))⟩
      have hnm := znm_n (hwf.2.2.2.2.2.2.2.1 _ ha1)
      rw [nI_clamp (by omega), hv2.2.2.2.2.2.2.1 _ ha1, hnm.1]
      refine ⟨nI_in (by omega) (by decide), s5_putName hnm.2.2 hp2 (by rw [List.length_append, List.length_singleton]; omega) (fun I3 A3 g3 hp3 => zk_r (vc_X5_formatPath_63 hib ?_))⟩
      rw [nI_1]
      exact ih (m + 1) (by omega) I3 A3 (zOne_tr g2 g3) hp3
  rw [nI_clamp (by omega), hv.2.2.2.2.2.2.2.2.2.2.2.1 n hn, nI_clamp (by omega), hv.2.2.2.1 _ w3]
  have hnm := znm_n (hwf.2.2.2.2.2.2.2.2 _ w3)
  rw [hnm.1]
  refine ⟨nI_in (by omega) (by decide), nI_in (by omega) (by decide), s5_putName (l := []) hnm.2.2 ⟨zup_s.trans rfl, fun k hk => absurd hk (Nat.not_lt_zero k)⟩ (by decide) (fun I1 A1 g1 hp => zk_r (vc_X5_formatPath_27 hib ?_))⟩
  exact key (vdep (sV s k) n) 0 (by omega) I1 A1 ⟨fun c j hj => by rw [g1.1 c j hj, zup_n hj], g1.2⟩ hp
theorem z6_formatPath (hok : zOK s) (hm : zM6 s I A) (hk : zK6 (zF_formatPath s x y) I R A lo dd Φ) : zC L xs mX6_formatPath [.ref 107, .int x, .int y] (I, R, A, lo, dd) Φ := by
  have m0 : ∀ x, zM6 s (z_up I 107 0 x) A := fun x => zM6_up hm (by omega)
  refine zC_en (vc_X6_formatPath_0 (zh_6n hok hm (fun k n hk1 ex hn ey => zh_ok ?_) (fun hF => zh_ng (by decide) (zK6_e hk (hF _) (m0 _) zG6_up (zup_s.trans rfl) (fun _ => rfl)))))
  subst ex
  subst ey
  have hwf := hok.1 k hk1
  have w1 := hwf.1
  have w2 := hwf.2.1
  have w3 := hwf.2.2.1 n hn
  have w6 := hwf.2.2.2.2.2.1 n hn
  have hv := zM6_im hm hk1
  have hF : zF_formatPath s (nI k) (nI n) = (0, nI (zpth (sV s k) n (vdep (sV s k) n)).length, sPw s (zpth (sV s k) n (vdep (sV s k) n))) := by
    unfold zF_formatPath
    rw [zFn_s hok hk1 hn]
  have key : ∀ j m, m + j = vdep (sV s k) n → ∀ (I1 A1 : Nat → Nat → Int32) zx4 zx5, zOne 107 12 111 (z_up I 107 0 0) A I1 A1 → mPa (zpth (sV s k) n m) I1 A1 → zW L xs mX6_formatPath 58 [some (.ref 107), some (.int (nI k)), some (.int (nI n)), some (.int (nI j + -1)), zx4, zx5] [] (I1, R, A1, lo, dd) Φ := by
    intro j
    induction j with
    | zero =>
      intro m hm1 I1 A1 zx4 zx5 g1 hp
      refine vc_X6_formatPath_58 ⟨fun _ => ?_, fun q => absurd (by decide) q⟩
      have : m = vdep (sV s k) n := by omega
      subst this
      rw [hp.1]
      exact zK6_e hk hF (zM6_pa (m0 _) g1 hp) (zG6_tr zG6_up (zG6_one (by decide) g1)) (by rw [g1.1 _ _ (by omega), zup_s]; rfl) (fun _ => rfl)
    | succ j ih =>
      intro m hm1 I1 A1 zx4 zx5 g1 hp
      have hle := zpth_le (sV s k) n m
      have hj : nI (j + 1) + -1 = nI j := by rw [← Int32.sub_eq_add_neg]; exact nI_pred j
      rw [hj]
      refine vc_X6_formatPath_58 ⟨fun q => absurd q (nI_pos (by omega)), fun _ => ?_⟩
      have hv1 : mIm k (sV s k) A1 := mIm_fr hv (g1.2 _ (by omega))
      have lp : ∀ i, i ≤ j → zW L xs mX6_formatPath 68 [some (.ref 107), some (.int (nI k)), some (.int (nI n)), some (.int (nI j)), some (.int (nI (zan (sV s k) n i))), some (.int (nI i))] [] (I1, R, A1, lo, dd) Φ := by
        refine ze_up ?_ ?_
        · obtain ⟨ha1, ha2⟩ := zan_ok hwf hn j (by omega)
          refine vc_X6_formatPath_68 ⟨fun q => absurd ((nI_ltI (by omega) (by omega)).mp q) (by omega), fun _ => ?_⟩
          have hix : ((159 * nI k) + 15 + (6 * nI (zan (sV s k) n j)) + 0 : Int32) = nI (159 * k + 15 + 6 * zan (sV s k) n j + 0) := by simp (disch := omega) only [ze_lit, pk_mul, nI_add, nI_clamp, ze_inI, nI_ltI, nI_eq]
          rw [hp.1, hix, nI_clamp (by omega), nI_clamp (by omega), zup_n (by omega), hv1.2.2.2.2.2.2.1 _ ha1, nI_1]
          have hnm := znm_n (hwf.2.2.2.2.2.2.2.1 _ ha1)
          have hp2 := mPa_put (e := 47) (x := 47) hp rfl
          have g2 : zOne 107 12 111 (z_up I 107 0 0) A (z_up I1 107 12 (nI ((zpth (sV s k) n m).length + 1))) (z_up A1 111 (zpth (sV s k) n m).length 47) := zOne_put g1
          rw [hnm.1]
          refine ⟨nI_in (by omega) (by decide), nI_in (by omega) (by decide), s6_forms hnm.2.1 hp2 (by rw [List.length_append, List.length_singleton]; omega) (fun I3 A3 g3 hp3 => zk_r (vc_X6_formatPath_123 ?_))⟩
          refine ih (m + 1) (by omega) I3 A3 _ _ (zOne_tr g2 g3) ?_
          have hd : vdep (sV s k) n - (m + 1) = j := by omega
          show mPa ((zpth (sV s k) n m ++ [47]) ++ znb (vnd (sV s k) 0 (zan (sV s k) n (vdep (sV s k) n - (m + 1))))) I3 A3
          rw [hd]
          exact hp3
        · intro i hi ih2
          obtain ⟨ha1, ha2⟩ := zan_ok hwf hn i (by omega)
          have hpar := zan_s hwf hn (i := i) (by omega)
          refine vc_X6_formatPath_68 ⟨fun _ => ?_, fun q => absurd (nI_lt hi (by omega)) q⟩
          have hix : ((159 * nI k) + 15 + (6 * nI (zan (sV s k) n i)) + 4 : Int32) = nI (159 * k + 15 + 6 * zan (sV s k) n i + 4) := by simp (disch := omega) only [ze_lit, pk_mul, nI_add, nI_clamp, ze_inI, nI_ltI, nI_eq]
          rw [hix, nI_clamp (by omega), hv1.2.2.2.2.2.2.2.2.2.2.1 _ ha1, hpar, nI_1]
          exact ⟨nI_in (by omega) (by decide), ih2⟩
      exact lp 0 (Nat.zero_le _)
  have hix : ((159 * nI k) + 15 + (6 * nI n) + 5 : Int32) = nI (159 * k + 15 + 6 * n + 5) := by simp (disch := omega) only [ze_lit, pk_mul, nI_add, nI_clamp, ze_inI, nI_ltI, nI_eq]
  rw [hix, nI_clamp (by omega), hv.2.2.2.2.2.2.2.2.2.2.2 n hn]
  have hiy : ((159 * nI k) + 3 + (3 * nI (vhom (sV s k) n)) + 0 : Int32) = nI (159 * k + 3 + 3 * vhom (sV s k) n + 0) := by simp (disch := omega) only [ze_lit, pk_mul, nI_add, nI_clamp, ze_inI, nI_ltI, nI_eq]
  rw [hiy, nI_clamp (by omega), hv.2.2.2.1 _ w3]
  have hnm := znm_n (hwf.2.2.2.2.2.2.2.2 _ w3)
  rw [hnm.1]
  refine ⟨nI_in (by omega) (by decide), nI_in (by omega) (by decide), s6_forms (l := []) hnm.2.1 ⟨zup_s.trans rfl, fun k hk => absurd hk (Nat.not_lt_zero k)⟩ (by decide) (fun I1 A1 g1 hp => zk_r (vc_X6_formatPath_49 ?_))⟩
  refine s6_depthOf (by omega) (mIm_fr hv (g1.2 _ (by omega))) hwf hn (zk_r (vc_X6_formatPath_55 ?_))
  rw [Int32.sub_eq_add_neg]
  exact key (vdep (sV s k) n) 0 (by omega) I1 A1 _ _ ⟨fun c j hj => by rw [g1.1 c j hj, zup_n hj], g1.2⟩ hp
end
