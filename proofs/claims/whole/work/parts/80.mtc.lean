/-! refresh; matchedPartition, matchedNode, passOf, matches -/
theorem zS5_go {o w sp : Nat} {s : zAb} {I : Nat → Nat → Int32} {R : Nat → Nat → Option Nat} {A : Nat → Nat → Int32} (h : zS5 o w sp s I R A) : z_ib o ∧ z_ib w ∧ R 0 5 = some o ∧ R 0 6 = some w ∧ cIm o (sV s 0) I A ∧ cIm w (sV s 1) I A ∧ cCo (sO s) A := by
  obtain ⟨ho, hw, hsp, hne, ⟨r5, r6, r7⟩, hT, hE, hv, hu, hP, hc, hf⟩ := h
  exact ⟨ho, hw, r5, r6, hv, hu, hc⟩
section
variable {L : Nat} {xs : Nat → Int32} {I : Nat → Nat → Int32} {R : Nat → Nat → Option Nat} {A : Nat → Nat → Int32} {lo : Int64} {dd : UInt64} {Φ : zPo} {s : zAb} {o w sp : Nat} {x y z : Int32}
theorem z5_refresh (hok : zOK s) (hs : zS5 o w sp s I R A) (h : ∀ (I' : Nat → Nat → Int32) (R' : Nat → Nat → Option Nat) (A' : Nat → Nat → Int32), zS5 o w sp s I' R' A' → zFre o w (sV s 0) (sV s 1) I' R' A' → zG5 I R A I' R' A' → Φ (.inl none) (I', R', A', lo, dd) 0) : zC L xs mX5_refresh [.ref 0] (I, R, A, lo, dd) Φ := by
  have hs' := hs
  obtain ⟨ho, hw, hsp, hne, ⟨r5, r6, r7⟩, hT, ⟨e2, e3⟩, hv, hu, hP, hc, hf⟩ := hs'
  have bo := zib_le ho
  have bw := zib_le hw
  have wf0 := hok.1 0 (by decide)
  have wf1 := hok.1 1 (by decide)
  refine zC_en (vc_X5_refresh_0 ho hw r5 r6 ⟨fun q => ?_, fun q => ?_⟩)
  · rcases hf with z | z
    · rw [z] at q
      exact absurd q (by decide)
    · exact h I R A hs z (zG5_rf _ _ _)
  · refine s1_match (d := 48) (Or.inl rfl) ho hw hv hu wf0 wf1 (fun A1 f1 p1 n1 => zk_r (vc_X5_refresh_22 ?_))
    have hv1 : cIm o (sV s 0) I A1 := cIm_fr hv rfl (fun j hj => f1 _ (by omega))
    have hu1 : cIm w (sV s 1) I A1 := cIm_fr hu rfl (fun j hj => f1 _ (by omega))
    have ra : z_up (z_up R 48 0 (some o)) 48 1 (some w) 48 0 = some o := by rw [zup_n (by omega), zup_s]
    refine s4_explain (f := 54) (d := 48) (Or.inl rfl) (Or.inl rfl) ho hw ra zup_s ⟨hv1, hu1, p1, n1⟩ wf0 wf1 (zmo_pa _ _) (zmk_na _ _).1 (fun I2 A2 f2 g2 sr => zk_r (vc_X5_refresh_33 ?_))
    have fI : ∀ c j, c ≠ 54 → ¬ (c = 0 ∧ j = 13) → z_up I2 0 13 0 c j = I c j := fun c j c1 c2 => by rw [zup_n c2, f2 c c1]
    have fA : ∀ c, ¬ (49 ≤ c ∧ c ≤ 59 ∧ c ≠ 54) → A2 c = A c := fun c hc => by rw [g2 c (by omega), f1 c (by omega)]
    have fR : ∀ c, c ≠ 48 → z_up (z_up R 48 0 (some o)) 48 1 (some w) c = R c := fun c hc => by funext j; rw [zup_n (by omega), zup_n (by omega)]
    have hfre : zFre o w (sV s 0) (sV s 1) (z_up I2 0 13 0) (z_up (z_up R 48 0 (some o)) 48 1 (some w)) A2 := ⟨zup_s, ra, zup_s, cMp_fr p1 (g2 _ (by omega)) (g2 _ (by omega)), cMn_fr n1 (g2 _ (by omega)) (g2 _ (by omega)) (g2 _ (by omega)), cSc_fr sr.1 (by funext j; rw [zup_n (by omega)]) rfl rfl rfl, sr.2.1, sr.2.2⟩
    refine h _ _ A2 ⟨ho, hw, hsp, hne, by rw [fR 0 (by decide)]; exact ⟨r5, r6, r7⟩, cTt_fr hT (fI _ _ (by omega) (by omega)) (fA _ (by omega)), ⟨(fI _ _ (by omega) (by omega)).trans e2, (fI _ _ (by omega) (by omega)).trans e3⟩, cIm_fr hv (by funext j; exact fI _ _ (by omega) (by omega)) (fun j hj => fA _ (by omega)), cIm_fr hu (by funext j; exact fI _ _ (by omega) (by omega)) (fun j hj => fA _ (by omega)), cPa_fr hP (fI _ _ (by omega) (by omega)) (fA _ (by omega)), cCo_fr hc (fA _ (by omega)), Or.inr hfre⟩ hfre (fun c hc => ⟨by funext j; exact fI _ _ (by omega) (by omega), fR _ (by omega), fA _ (by omega)⟩)
theorem z6_idf (hok : zOK s) (hm : zM6 s I A) (h : ∀ I' A' : Nat → Nat → Int32, I' 107 0 = I 107 0 → zM6 s I' A' → zG6 I A I' A' → mEn 0 1 (sV s 0) (sV s 1) (zpa (sV s 0) (sV s 1)) (zna (sV s 0) (sV s 1)) I' A' → Φ (.inl none) (I', R, A', lo, dd) 0) : zC L xs mX6_identifies [.ref 107, .int 0] (I, R, A, lo, dd) Φ := by
  have hv := hm.2.2.1
  have hu := hm.2.2.2.1
  refine s6_identifies (ia := 0) (ib := 1) (by decide) rfl hv hu (hok.1 0 (by decide)) (hok.1 1 (by decide)) (fun A' f1 p1 n1 => ?_)
  refine h _ A' (by rw [zup_n (by omega), zup_n (by omega)]) (zM6_fr hm (fun j hj => by rw [zup_n (by omega), zup_n (by omega)]) (fun c c1 c2 => f1 c (by omega))) (fun c hc => ⟨by funext j; rw [zup_n (by omega), zup_n (by omega)], f1 c (by omega)⟩) ⟨by rw [zup_n (by omega), zup_s], zup_s, mIm_fr hv (f1 _ (by omega)), mIm_fr hu (f1 _ (by omega)), p1, n1⟩
def zF_matchedPartition (s : zAb) (x : Int32) : zOc := match zix x (vP (sV s 0)) with
  | none => (1, 0, s)
  | some p => (0, zpI ((zpa (sV s 0) (sV s 1)).1 p), s)
def zF_matchedNode (s : zAb) (x : Int32) : zOc := match zix x (vN (sV s 0)) with
  | none => (1, 0, s)
  | some p => (0, zpI ((zna (sV s 0) (sV s 1)).1.1 p), s)
def zF_passOf (s : zAb) (x : Int32) : zOc := match zix x (vN (sV s 0)) with
  | none => (1, 0, s)
  | some p => (0, nI ((zna (sV s 0) (sV s 1)).2 p), s)
def zF_matches (s : zAb) (x : Int32) : zOc := match zix x 6 with
  | none => (1, 0, s)
  | some k => if k = 0 then (1, 0, s) else (0, nI (zcnt (fun i => decide ((zna (sV s 0) (sV s 1)).2 i = k)) (vN (sV s 0))), s)
theorem z5_matchedPartition (hok : zOK s) (hs : zS5 o w sp s I R A) (hk : zK0 [(0, 1)] (zF_matchedPartition s x) I R A lo dd Φ) : zC L xs mX5_matchedPartition [.ref 0, .int x] (I, R, A, lo, dd) Φ := by
  obtain ⟨ho, hw, r5, r6, hv, hu, hc⟩ := zS5_go hs
  have w1 := (hok.1 0 (by decide)).1
  refine zC_en (vc_X5_matchedPartition_0 ho r5 ?_)
  rw [hv.2.1]
  refine zh_nd (by omega) (fun n hn e => z5_refresh hok hs (fun I' R' A' hs' hf hg => zk_r (vc_X5_matchedPartition_12 ?_))) (fun hno => zK0_t hk (k := 0) (x := 0) (s' := s) (by unfold zF_matchedPartition; rw [zix_n hno]) rfl hs (zG5_rf _ _ _))
  subst e
  rw [nI_clamp (by omega), hf.2.2.2.1.1 n (by omega)]
  exact ⟨nI_in (by omega) (by decide), zK0_r hk (by unfold zF_matchedPartition; rw [zix_s hn (by omega)]) hs' hg⟩
theorem z6_matchedPartition (hok : zOK s) (hm : zM6 s I A) (hk : zK6 (zF_matchedPartition s x) I R A lo dd Φ) : zC L xs mX6_matchedPartition [.ref 107, .int x] (I, R, A, lo, dd) Φ := by
  have m0 : ∀ x, zM6 s (z_up I 107 0 x) A := fun x => zM6_up hm (by omega)
  have w1 := (hok.1 0 (by decide)).1
  refine zC_en (vc_X6_matchedPartition_0 (zh_6q (k := 0) (by decide) hm.2.2.1 w1 (fun n hn e => zh_ok ?_) (fun hno => zh_ng (by decide) (zK6_e hk (k := 1) (v := 0) (s' := s) (by unfold zF_matchedPartition; rw [zix_n hno]) (m0 _) zG6_up (zup_s.trans rfl) (fun _ => rfl)))))
  subst e
  refine z6_idf hok (m0 _) (fun I' A' e0 hm' hg hE => zk_r (vc_X6_matchedPartition_32 ?_))
  rw [nI_clamp (by omega), hE.2.2.2.2.1.1 n (by omega)]
  exact ⟨nI_in (by omega) (by decide), zK6_e hk (k := 0) (s' := s) (by unfold zF_matchedPartition; rw [zix_s hn (by omega)]) hm' (zG6_tr zG6_up hg) (by rw [e0, zup_s]; rfl) (fun _ => rfl)⟩
theorem z5_matchedNode (hok : zOK s) (hs : zS5 o w sp s I R A) (hk : zK0 [(0, 1)] (zF_matchedNode s x) I R A lo dd Φ) : zC L xs mX5_matchedNode [.ref 0, .int x] (I, R, A, lo, dd) Φ := by
  obtain ⟨ho, hw, r5, r6, hv, hu, hc⟩ := zS5_go hs
  have w2 := (hok.1 0 (by decide)).2.1
  refine zC_en (vc_X5_matchedNode_0 ho r5 ?_)
  rw [hv.2.2.1]
  refine zh_nd (by omega) (fun n hn e => z5_refresh hok hs (fun I' R' A' hs' hf hg => zk_r (vc_X5_matchedNode_12 ?_))) (fun hno => zK0_t hk (k := 0) (x := 0) (s' := s) (by unfold zF_matchedNode; rw [zix_n hno]) rfl hs (zG5_rf _ _ _))
  subst e
  rw [nI_clamp (by omega), hf.2.2.2.2.1.1 n (by omega)]
  exact ⟨nI_in (by omega) (by decide), zK0_r hk (by unfold zF_matchedNode; rw [zix_s hn (by omega)]) hs' hg⟩
theorem z6_matchedNode (hok : zOK s) (hm : zM6 s I A) (hk : zK6 (zF_matchedNode s x) I R A lo dd Φ) : zC L xs mX6_matchedNode [.ref 107, .int x] (I, R, A, lo, dd) Φ := by
  have m0 : ∀ x, zM6 s (z_up I 107 0 x) A := fun x => zM6_up hm (by omega)
  have w2 := (hok.1 0 (by decide)).2.1
  refine zC_en (vc_X6_matchedNode_0 (zh_6i (k := 0) (by decide) hm.2.2.1 w2 (fun n hn e => zh_ok ?_) (fun hno => zh_ng (by decide) (zK6_e hk (k := 1) (v := 0) (s' := s) (by unfold zF_matchedNode; rw [zix_n hno]) (m0 _) zG6_up (zup_s.trans rfl) (fun _ => rfl)))))
  subst e
  refine z6_idf hok (m0 _) (fun I' A' e0 hm' hg hE => zk_r (vc_X6_matchedNode_32 ?_))
  rw [nI_clamp (by omega), hE.2.2.2.2.2.1 n (by omega)]
  exact ⟨nI_in (by omega) (by decide), zK6_e hk (k := 0) (s' := s) (by unfold zF_matchedNode; rw [zix_s hn (by omega)]) hm' (zG6_tr zG6_up hg) (by rw [e0, zup_s]; rfl) (fun _ => rfl)⟩
theorem z5_passOf (hok : zOK s) (hs : zS5 o w sp s I R A) (hk : zK0 [(0, 1)] (zF_passOf s x) I R A lo dd Φ) : zC L xs mX5_passOf [.ref 0, .int x] (I, R, A, lo, dd) Φ := by
  obtain ⟨ho, hw, r5, r6, hv, hu, hc⟩ := zS5_go hs
  have w2 := (hok.1 0 (by decide)).2.1
  refine zC_en (vc_X5_passOf_0 ho r5 ?_)
  rw [hv.2.2.1]
  refine zh_nd (by omega) (fun n hn e => z5_refresh hok hs (fun I' R' A' hs' hf hg => zk_r (vc_X5_passOf_12 ?_))) (fun hno => zK0_t hk (k := 0) (x := 0) (s' := s) (by unfold zF_passOf; rw [zix_n hno]) rfl hs (zG5_rf _ _ _))
  subst e
  rw [nI_clamp (by omega), hf.2.2.2.2.1.2.2 n (by omega)]
  exact ⟨nI_in (by omega) (by decide), zK0_r hk (by unfold zF_passOf; rw [zix_s hn (by omega)]) hs' hg⟩
theorem z6_passOf (hok : zOK s) (hm : zM6 s I A) (hk : zK6 (zF_passOf s x) I R A lo dd Φ) : zC L xs mX6_passOf [.ref 107, .int x] (I, R, A, lo, dd) Φ := by
  have m0 : ∀ x, zM6 s (z_up I 107 0 x) A := fun x => zM6_up hm (by omega)
  have w2 := (hok.1 0 (by decide)).2.1
  refine zC_en (vc_X6_passOf_0 (zh_6i (k := 0) (by decide) hm.2.2.1 w2 (fun n hn e => zh_ok ?_) (fun hno => zh_ng (by decide) (zK6_e hk (k := 1) (v := 0) (s' := s) (by unfold zF_passOf; rw [zix_n hno]) (m0 _) zG6_up (zup_s.trans rfl) (fun _ => rfl)))))
  subst e
  refine z6_idf hok (m0 _) (fun I' A' e0 hm' hg hE => zk_r (vc_X6_passOf_32 ?_))
  rw [nI_clamp (by omega), hE.2.2.2.2.2.2.2 n (by omega)]
  exact ⟨nI_in (by omega) (by decide), zK6_e hk (k := 0) (s' := s) (by unfold zF_passOf; rw [zix_s hn (by omega)]) hm' (zG6_tr zG6_up hg) (by rw [e0, zup_s]; rfl) (fun _ => rfl)⟩
theorem zh_15 {Q T : Prop} (h : ∀ n, 1 ≤ n → n ≤ 5 → x = nI n → Q) (hT : (∀ n, 1 ≤ n → n ≤ 5 → x ≠ nI n) → T) : (x < 1 → T) ∧ (¬ x < 1 → ((5 : Int32) < x → T) ∧ (¬ (5 : Int32) < x → Q)) := by
  refine ⟨fun q => hT (fun n h1 h5 e => ?_), fun q => ⟨fun q2 => hT (fun n h1 h5 e => ?_), fun q2 => ?_⟩⟩
  · rw [e] at q
    exact absurd ((nI_ltI (b := 1) (by omega) (by decide)).mp q) (by omega)
  · rw [e] at q2
    exact absurd ((nI_ltI (a := 5) (by decide) (by omega)).mp q2) (by omega)
  · have h0 : ¬ x < 0 := fun z => q (Int32.lt_trans z (by decide))
    obtain ⟨e, hk⟩ := zn_of h0
    refine h _ (Nat.le_of_not_lt (fun z => q ?_)) (Nat.le_of_not_lt (fun z => q2 ?_)) e
    · rw [e]; exact nI_lt (b := 1) z (by decide)
    · rw [e]; exact nI_lt (a := 5) z hk
theorem zF_matches_n (h : ∀ n, 1 ≤ n → n ≤ 5 → x ≠ nI n) : zF_matches s x = (1, 0, s) := by
  unfold zF_matches
  cases hz : zix x 6 with
  | none => rfl
  | some k =>
    have hk : k < 6 ∧ x = nI k := by
      unfold zix at hz
      by_cases q : ¬ x < 0 ∧ x.toNatClampNeg < 6
      · rw [if_pos q] at hz
        cases hz
        exact ⟨q.2, (zn_of q.1).1⟩
      · rw [if_neg q] at hz; cases hz
    have : k = 0 := by
      by_cases q : k = 0
      · exact q
      · exact absurd hk.2 (h k (by omega) (by omega))
    dsimp only
    rw [if_pos this]
theorem zF_matches_s {k : Nat} (h1 : 1 ≤ k) (h5 : k ≤ 5) : zF_matches s (nI k) = (0, nI (zcnt (fun i => decide ((zna (sV s 0) (sV s 1)).2 i = k)) (vN (sV s 0))), s) := by
  unfold zF_matches
  rw [zix_s (by omega) (by decide)]
  exact if_neg (by omega)
theorem z5_matches (hok : zOK s) (hs : zS5 o w sp s I R A) (hk : zK0 [(1, 1)] (zF_matches s x) I R A lo dd Φ) : zC L xs mX5_matches [.ref 0, .int x] (I, R, A, lo, dd) Φ := by
  refine zC_en (vc_X5_matches_0 (zh_15 (fun n h1 h5 e => z5_refresh hok hs (fun I' R' A' hs' hf hg => zk_r (vc_X5_matches_25 ?_))) (fun hno => zK0_t hk (zF_matches_n hno) rfl hs (zG5_rf _ _ _))))
  subst e
  obtain ⟨ho, hw, r5, r6, hv, hu, hc⟩ := zS5_go hs'
  exact s1_matchedInPass (d := 48) (Or.inl rfl) ho hf.2.1 hv (hok.1 0 (by decide)) hf.2.2.2.2.1 (zmk_na _ _).2.2 h5 (zk_r (vc_X5_matches_33 (zK0_r hk (zF_matches_s h1 h5) hs' hg)))
theorem z6_matches (hok : zOK s) (hm : zM6 s I A) (hk : zK6 (zF_matches s x) I R A lo dd Φ) : zC L xs mX6_matches [.ref 107, .int x] (I, R, A, lo, dd) Φ := by
  have m0 : ∀ x, zM6 s (z_up I 107 0 x) A := fun x => zM6_up hm (by omega)
  have w2 := (hok.1 0 (by decide)).2.1
  refine zC_en (vc_X6_matches_0 (zh_15 (fun n h1 h5 e => zh_ok ?_) (fun hno => zh_ng (by decide) (zK6_e hk (zF_matches_n hno) (m0 _) zG6_up (zup_s.trans rfl) (fun _ => rfl)))))
  subst e
  refine z6_idf hok (m0 _) (fun I' A' e0 hm' hg hE => zk_r (vc_X6_matches_32 ?_))
  have hv := hm'.2.2.1
  have h5 := (zmk_na (sV s 0) (sV s 1)).2.2
  have hN : A' 108 (159 * 0 + 2) = nI (vN (sV s 0)) := hv.2.2.1
  have key : ∀ i, i ≤ vN (sV s 0) → zW L xs mX6_matches 36 [some (.ref 107), some (.int (nI n)), some (.int (nI (zcnt (fun i => decide ((zna (sV s 0) (sV s 1)).2 i = n)) i))), some (.int (nI i))] [] (I', R, A', lo, dd) Φ := by
    refine ze_up ?_ ?_
    · refine vc_X6_matches_36 ?_
      simp (disch := omega) only [ze_lit, pk_mul, nI_add, nI_clamp, ze_inI, nI_ltI, nI_eq, hN]
      exact ⟨by decide, fun q => absurd q (Nat.lt_irrefl _), fun _ => zK6_e hk (zF_matches_s h1 (by assumption)) hm' (zG6_tr zG6_up hg) (by rw [e0, zup_s]; rfl) (fun _ => rfl)⟩
    · intro i hi ih
      have e3 := hE.2.2.2.2.2.2.2 i (by omega)
      have h5i := h5 i
      refine vc_X6_matches_36 ?_
      simp (disch := omega) only [ze_lit, pk_mul, nI_add, nI_clamp, ze_inI, nI_ltI, nI_eq, hN, e3]
      refine ⟨by decide, fun _ => ⟨by omega, fun q => ?_, fun q => ?_⟩, fun q => absurd hi q⟩
      · have : zcnt (fun i => decide ((zna (sV s 0) (sV s 1)).2 i = n)) (i + 1) = zcnt (fun i => decide ((zna (sV s 0) (sV s 1)).2 i = n)) i + 1 := by
          conv => lhs; unfold zcnt
          rw [decide_eq_true q]; rfl
        rw [this] at ih
        exact ih
      · have : zcnt (fun i => decide ((zna (sV s 0) (sV s 1)).2 i = n)) (i + 1) = zcnt (fun i => decide ((zna (sV s 0) (sV s 1)).2 i = n)) i + 0 := by
          conv => lhs; unfold zcnt
          rw [decide_eq_false q]; rfl
        rw [this] at ih
        exact ih
  exact key 0 (Nat.zero_le _)
end
