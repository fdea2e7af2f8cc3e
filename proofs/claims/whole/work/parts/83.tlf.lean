/-! append, truncate, load; the costs of files -/
def sTw (s : zAb) (t : zT) : zAb := (t, sC s, sE s, sV s, sO s, sP s)
def sLe (s : zAb) (ec ep : Int32) : zAb := (((sT s).1, 0), ec, ep, sV s, sO s, sP s)
def zF_append (s : zAb) (a b c d e : Int32) : zOc := if (sT s).2 + 20 ≤ 800 then (0, nI ((sT s).2 + 20), sTw s (zap5 (sT s) a b c d e)) else (1, 0, s)
def zF_truncate (s : zAb) (x : Int32) : zOc := match zix x ((sT s).2 + 1) with
  | none => (1, 0, s)
  | some k => (0, nI k, sTw s ((sT s).1, k))
noncomputable def zF_load (s : zAb) (x : Int32) : zOc := zFi s x (fun k => match zrimg (sT s) with
  | .inl q => (2, 0, sLe s (nI q.1) (nI q.2))
  | .inr v => (0, nI (vN v), sVw (sLe s 0 (-1)) k v))
theorem zOK_append {s : zAb} {a b c d e : Int32} (h : zOK s) : zOK (zF_append s a b c d e).2.2 := by
  unfold zF_append
  by_cases q : (sT s).2 + 20 ≤ 800
  · rw [if_pos q]; exact h
  · rw [if_neg q]; exact h
theorem zOK_truncate {s : zAb} {x : Int32} (h : zOK s) : zOK (zF_truncate s x).2.2 := by
  unfold zF_truncate
  cases zix x ((sT s).2 + 1) with
  | none => exact h
  | some k => exact h
theorem zOK_load {s : zAb} {x : Int32} (h : zOK s) : zOK (zF_load s x).2.2 := by
  unfold zF_load zFi
  cases zix x 2 with
  | none => exact h
  | some k =>
    dsimp only
    cases hz : zrimg (sT s) with
    | inl q => exact h
    | inr v => exact zOK_ch (s := sLe s 0 (-1)) h (zrimg_ok hz)
theorem zS5_tx {o w sp : Nat} {s : zAb} {t : zT} {I I' : Nat → Nat → Int32} {R : Nat → Nat → Option Nat} {A A' : Nat → Nat → Int32} (h : zS5 o w sp s I R A) (f1 : ∀ c j, ¬ (c = 0 ∧ j = 1) → I' c j = I c j) (f2 : ∀ c, c ≠ 1 → A' c = A c) (ht : cTt t I' A') : zS5 o w sp (sTw s t) I' R A' := by
  obtain ⟨ho, hw, hsp, hne, ⟨r5, r6, r7⟩, hT, ⟨e2, e3⟩, hv, hu, hP, hc, hf⟩ := h
  have bo := zib_le ho
  have bw := zib_le hw
  exact ⟨ho, hw, hsp, hne, ⟨r5, r6, r7⟩, ht, ⟨(f1 _ _ (by omega)).trans e2, (f1 _ _ (by omega)).trans e3⟩, cIm_fr hv (by funext j; exact f1 _ _ (by omega)) (fun j hj => f2 _ (by omega)), cIm_fr hu (by funext j; exact f1 _ _ (by omega)) (fun j hj => f2 _ (by omega)), cPa_fr hP (f1 _ _ (by omega)) (f2 _ (by omega)), cCo_fr hc (f2 _ (by omega)), hf.elim (fun z => Or.inl ((f1 _ _ (by omega)).trans z)) (fun z => Or.inr (zFre_fr z (f1 _ _ (by omega)) (by funext j; exact f1 _ _ (by omega)) rfl (fun c c1 _ => f2 c (by omega))))⟩
theorem zG5_tx {I I' : Nat → Nat → Int32} {R : Nat → Nat → Option Nat} {A A' : Nat → Nat → Int32} (f1 : ∀ c j, ¬ (c = 0 ∧ j = 1) → I' c j = I c j) (f2 : ∀ c, c ≠ 1 → A' c = A c) : zG5 I R A I' R A' := fun c hc => ⟨by funext j; exact f1 _ _ (by omega), rfl, f2 c (by omega)⟩
theorem zM6_tx {s : zAb} {t : zT} {I I' A A' : Nat → Nat → Int32} (h : zM6 s I A) (f1 : ∀ c j, ¬ (c = 107 ∧ (j = 0 ∨ j = 4)) → I' c j = I c j) (f2 : ∀ c, c ≠ 110 → A' c = A c) (ht : mTx t I' A') : zM6 (sTw s t) I' A' := by
  obtain ⟨-, ⟨e6, e7⟩, hv, hu, ⟨p1, p2⟩, hc⟩ := h
  exact ⟨ht, ⟨(f1 _ _ (by omega)).trans e6, (f1 _ _ (by omega)).trans e7⟩, mIm_fr hv (f2 _ (by omega)), mIm_fr hu (f2 _ (by omega)), ⟨(f1 _ _ (by omega)).trans p1, fun k hk => by rw [f2 111 (by omega)]; exact p2 k hk⟩, fun k hk => by rw [f2 109 (by omega)]; exact hc k hk⟩
theorem zG6_tx {I I' A A' : Nat → Nat → Int32} (f1 : ∀ c j, ¬ (c = 107 ∧ (j = 0 ∨ j = 4)) → I' c j = I c j) (f2 : ∀ c, c ≠ 110 → A' c = A c) : zG6 I A I' A' := fun c hc => ⟨by funext j; exact f1 _ _ (by omega), f2 c (by omega)⟩
section
variable {L : Nat} {xs : Nat → Int32} {I : Nat → Nat → Int32} {R : Nat → Nat → Option Nat} {A : Nat → Nat → Int32} {lo : Int64} {dd : UInt64} {Φ : zPo} {s : zAb} {o w sp : Nat} {x y z x1 x2 x3 x4 x5 : Int32}
theorem z5_append (hs : zS5 o w sp s I R A) (hk : zK0 [(2, 1)] (zF_append s x1 x2 x3 x4 x5) I R A lo dd Φ) : zC L xs mX5_append [.ref 0, .int x1, .int x2, .int x3, .int x4, .int x5] (I, R, A, lo, dd) Φ :=
  s5_append hs.2.2.2.2.2.1 (fun h8 I' A' f1 f2 ht => zK0_r hk (if_pos h8) (zS5_tx hs f1 f2 ht) (zG5_tx f1 f2)) (fun h8 => zK0_t hk (k := 0) (x := 0) (s' := s) (if_neg h8) rfl hs (zG5_rf _ _ _))
theorem z6_append (hm : zM6 s I A) (hk : zK6 (zF_append s x1 x2 x3 x4 x5) I R A lo dd Φ) : zC L xs mX6_append [.ref 107, .int x1, .int x2, .int x3, .int x4, .int x5] (I, R, A, lo, dd) Φ :=
  s6_append hm.1 (fun h8 I' A' f1 e0 f2 ht => zK6_e hk (if_pos h8) (zM6_tx hm f1 f2 ht) (zG6_tx f1 f2) e0 (fun _ => rfl)) (fun h8 I' f1 e0 => zK6_e hk (k := 1) (v := 0) (s' := s) (if_neg h8) (zM6_fr hm (fun j hj => f1 _ _ (by omega)) (fun _ _ _ => rfl)) (fun c hc => ⟨by funext j; exact f1 _ _ (by omega), rfl⟩) e0 (fun _ => rfl))
theorem z5_truncate (hs : zS5 o w sp s I R A) (hk : zK0 [(0, 1)] (zF_truncate s x) I R A lo dd Φ) : zC L xs mX5_truncate [.ref 0, .int x] (I, R, A, lo, dd) Φ := by
  have hT := hs.2.2.2.2.2.1
  have h8 := hT.2.1
  refine s5_truncate hT (fun k I' e hle f1 ht => zK0_r hk ?_ (zS5_tx hs f1 (fun _ _ => rfl) ht) (zG5_tx f1 (fun _ _ => rfl))) (fun hno => zK0_t hk (k := 0) (x := 0) (s' := s) ?_ rfl hs (zG5_rf _ _ _))
  · unfold zF_truncate
    rw [e, zix_s (by omega) (by omega)]
  · unfold zF_truncate
    rw [zix_n (fun n hn e => hno n e (by omega) (by omega))]
theorem z6_truncate (hm : zM6 s I A) (hk : zK6 (zF_truncate s x) I R A lo dd Φ) : zC L xs mX6_truncate [.ref 107, .int x] (I, R, A, lo, dd) Φ := by
  have h8 := hm.1.2.1
  refine s6_truncate hm.1 (fun k I' e hle f1 e0 ht => zK6_e hk ?_ (zM6_tx hm f1 (fun _ _ => rfl) ht) (zG6_tx f1 (fun _ _ => rfl)) e0 (fun _ => rfl)) (fun hno I' f1 e0 => zK6_e hk (k := 1) (v := 0) (s' := s) ?_ (zM6_fr hm (fun j hj => f1 _ _ (by omega)) (fun _ _ _ => rfl)) (fun c hc => ⟨by funext j; exact f1 _ _ (by omega), rfl⟩) e0 (fun _ => rfl))
  · unfold zF_truncate
    rw [e, zix_s (by omega) (by omega)]
  · unfold zF_truncate
    rw [zix_n (fun n hn e => hno n e (by omega) (by omega))]
theorem z5_load (hs : zS5 o w sp s I R A) (hk : zK0 [(0, 1), (1, 2)] (zF_load s x) I R A lo dd Φ) : zC L xs mX5_load [.ref 0, .int x] (I, R, A, lo, dd) Φ := by
  have hs' := hs
  obtain ⟨ho, hw, hsp, ⟨n1, n2, n3⟩, ⟨r5, r6, r7⟩, hT, ⟨e2, e3⟩, hv, hu, hP, hc, hf⟩ := hs'
  have bo := zib_le ho
  have bw := zib_le hw
  have bs := zib_le hsp
  have f12 := zib_far ho hsp n2
  have f13 := zib_far hw hsp n3
  refine s5_load ho hw hsp r5 r6 r7 hT (fun k I' R' A' v' hk1 ex hz fI i1 i2 i3 i13 fR g7 gk fA hv' => ?_) (fun k I' R' A' c p hk1 ex hz fI i1 i2 i3 fR fA => ?_) (fun hno => zK0_t hk (zFi_n hno) rfl hs (zG5_rf _ _ _))
  · have hF : zF_load s x = (0, nI (vN v'), sVw (sLe s 0 (-1)) k v') := by
      unfold zF_load
      rw [ex, zFi_s hk1, hz]
    have hT' : cTt ((sT s).1, 0) I' A' := ⟨i1, Nat.zero_le _, fun i hi => absurd hi (Nat.not_lt_zero i)⟩
    have hP' : cPa (sP s) I' A' := cPa_fr hP (fI _ _ (by omega) (by omega) (by omega)) (fA _ (by omega))
    have hc' : cCo (sO s) A' := cCo_fr hc (fA _ (by omega))
    have hG : zG5 I R A I' R' A' := fun c hc => ⟨by funext j; exact fI _ _ (by omega) (by omega) (by omega), by funext j; exact fR _ _ (by omega) (by omega), fA c (by omega)⟩
    rcases Nat.le_one_iff_eq_zero_or_eq_one.mp hk1 with rfl | rfl
    · refine zK0_r hk hF (o := sp) (w := w) (sp := o) ⟨hsp, hw, ho, ⟨fun z => n3 z.symm, fun z => n2 z.symm, fun z => n1 z.symm⟩, ⟨gk, by rw [fR 0 6 (by omega) (by omega)]; exact r6, g7⟩, hT', ⟨i2, i3⟩, ?_, ?_, hP', hc', Or.inl i13⟩ hG
      · show cIm sp (zse (sV s) 0 v' 0) I' A'
        rw [zse_s]; exact hv'
      · show cIm w (zse (sV s) 0 v' 1) I' A'
        rw [zse_n (by omega)]
        exact cIm_fr hu (by funext j; exact fI _ _ (by omega) (by omega) (by omega)) (fun j hj => fA _ (by omega))
    · refine zK0_r hk hF (o := o) (w := sp) (sp := w) ⟨ho, hsp, hw, ⟨n2, n1, fun z => n3 z.symm⟩, ⟨by rw [fR 0 5 (by omega) (by omega)]; exact r5, gk, g7⟩, hT', ⟨i2, i3⟩, ?_, ?_, hP', hc', Or.inl i13⟩ hG
      · show cIm o (zse (sV s) 1 v' 0) I' A'
        rw [zse_n (by omega)]
        exact cIm_fr hv (by funext j; exact fI _ _ (by omega) (by omega) (by omega)) (fun j hj => fA _ (by omega))
      · show cIm sp (zse (sV s) 1 v' 1) I' A'
        rw [zse_s]; exact hv'
  · have hF : zF_load s x = (1 + 1, 0, sLe s (nI c) (nI p)) := by
      unfold zF_load
      rw [ex, zFi_s hk1, hz]
    refine zK0_t hk hF rfl ⟨ho, hw, hsp, ⟨n1, n2, n3⟩, by rw [fR 0 (by decide)]; exact ⟨r5, r6, r7⟩, ⟨i1, Nat.zero_le _, fun i hi => absurd hi (Nat.not_lt_zero i)⟩, ⟨i2, i3⟩, cIm_fr hv (by funext j; exact fI _ _ (by omega) (by omega) (by omega)) (fun j hj => fA _ (by omega)), cIm_fr hu (by funext j; exact fI _ _ (by omega) (by omega) (by omega)) (fun j hj => fA _ (by omega)), cPa_fr hP (fI _ _ (by omega) (by omega) (by omega)) (fA _ (by omega)), cCo_fr hc (fA _ (by omega)), hf.elim (fun z => Or.inl ((fI _ _ (by omega) (by omega) (by omega)).trans z)) (fun z => Or.inr (zFre_fr z (fI _ _ (by omega) (by omega) (by omega)) (by funext j; exact fI _ _ (by omega) (by omega) (by omega)) (fR _ (by omega)) (fun c c1 c2 => fA c (by omega))))⟩ (fun c hc => ⟨by funext j; exact fI _ _ (by omega) (by omega) (by omega), fR c (by omega), fA c (by omega)⟩)
theorem z6_load (hok : zOK s) (hm : zM6 s I A) (hk : zK6 (zF_load s x) I R A lo dd Φ) : zC L xs mX6_load [.ref 107, .int x] (I, R, A, lo, dd) Φ := by
  have hm' := hm
  obtain ⟨hT, ⟨e6, e7⟩, hv, hu, ⟨p1, p2⟩, hc⟩ := hm'
  refine s6_load hT (fun k I' A' v' hk1 ex hz fI i0 i4 i6 i7 fA fj hv' => ?_) (fun k I' A' c p hk1 ex hz fI i0 i4 i6 i7 fA fj => ?_) (fun hno => zK6_e hk (zFi_n hno) (zM6_up hm (by omega)) zG6_up (zup_s.trans rfl) (fun _ => rfl))
  · have hF : zF_load s x = (0, nI (vN v'), sVw (sLe s 0 (-1)) k v') := by
      unfold zF_load
      rw [ex, zFi_s hk1, hz]
    have h1 : zM6 (sLe s 0 (-1)) I' A := ⟨⟨i4, Nat.zero_le _, fun i hi => absurd hi (Nat.not_lt_zero i)⟩, ⟨i6, i7⟩, hv, hu, ⟨(fI _ _ (by omega)).trans p1, p2⟩, hc⟩
    exact zK6_e hk hF (zM6_ch (s := sLe s 0 (-1)) hok h1 hk1 (fun _ _ => rfl) (fun c c1 c2 => fA c (by omega)) fj hv') (fun c hc => ⟨by funext j; exact fI _ _ (by omega), fA c (by omega)⟩) i0 (fun _ => rfl)
  · have hF : zF_load s x = (2, 0, sLe s (nI c) (nI p)) := by
      unfold zF_load
      rw [ex, zFi_s hk1, hz]
    have a0 := hok.1 0 (by decide)
    have a1 := hok.1 1 (by decide)
    refine zK6_e hk hF ⟨⟨i4, Nat.zero_le _, fun i hi => absurd hi (Nat.not_lt_zero i)⟩, ⟨i6, i7⟩, mIm_st hv a0.1 a0.2.1 (fun j _ _ => fj j (by omega)), mIm_st hu a1.1 a1.2.1 (fun j _ _ => fj j (by omega)), ⟨(fI _ _ (by omega)).trans p1, fun k hk => by rw [fA 111 (by omega)]; exact p2 k hk⟩, fun k hk => by rw [fA 109 (by omega)]; exact hc k hk⟩ (fun c hc => ⟨by funext j; exact fI _ _ (by omega), fA c (by omega)⟩) i0 (fun _ => rfl)
theorem z5_leastFileCost (hok : zOK s) (hs : zS5 o w sp s I R A) (h : ∀ (I' : Nat → Nat → Int32) (R' : Nat → Nat → Option Nat) (A' : Nat → Nat → Int32) (K : zM) (U V : Nat → Int), zS5 o w sp s I' R' A' → zG5 I R A I' R' A' → zHq (zsd (sV s 0) (sV s 1) (zpa (sV s 0) (sV s 1))) (zsd (sV s 0) (sV s 1) (zpa (sV s 0) (sV s 1))) (zex (sV s 0) (sV s 1) (zpa (sV s 0) (sV s 1)) (zna (sV s 0) (sV s 1)) (sO s)) K U V → Φ (.inl (some (.int (iI (zap (sV s 0) (sV s 1) (zpa (sV s 0) (sV s 1)) (sO s) + zsm (fun j => zwo (fun i => zex (sV s 0) (sV s 1) (zpa (sV s 0) (sV s 1)) (zna (sV s 0) (sV s 1)) (sO s) i j) (K.2 j)) (zsd (sV s 0) (sV s 1) (zpa (sV s 0) (sV s 1)) + 1)))))) (I', R', A', lo, dd) 0) : zC L xs mX5_leastFileCost [.ref 0] (I, R, A, lo, dd) Φ := by
  refine zC_en (vc_X5_leastFileCost_0 (z5_refresh hok hs (fun I1 R1 A1 hs1 hf hg => zk_r (vc_X5_leastFileCost_4 ?_))))
  obtain ⟨ho, hw, r5, r6, hv, hu, hc⟩ := zS5_go hs1
  refine s0_leastCost ho hw hf.2.1 hf.2.2.1 ⟨hv, hu, hf.2.2.2.1, hf.2.2.2.2.1⟩ (hok.1 0 (by decide)) (hok.1 1 (by decide)) (zmo_pa _ _) (zmk_na _ _).1 hc (fun I2 A2 K U V f1 f2 hq => zk_r (vc_X5_leastFileCost_19 (h I2 R1 A2 K U V (zS5_fr hs1 (fun c hc => f1 c (by omega)) (fun _ _ => rfl) (fun c hc => f2 c (by omega))) (zG5_tr hg (fun c hc => ⟨f1 c (by omega), rfl, f2 c (by omega)⟩)) hq)))
theorem z6_leastFileCost (hok : zOK s) (hm : zM6 s I A) (h : ∀ (I' A' : Nat → Nat → Int32) (T : zM) (p q : Nat → Int), zM6 s I' A' → zG6 I A I' A' → zmo (vN (sV s 0)) (vN (sV s 1)) T → (∀ n m, T.1 n = some m → zAl (sV s 0) (sV s 1) (zpa (sV s 0) (sV s 1)) n m) → zDu (vN (sV s 0)) (vN (sV s 1)) (zAl (sV s 0) (sV s 1) (zpa (sV s 0) (sV s 1))) (zfl (sV s 0)) (zgain (sV s 0) (sV s 1) (zpa (sV s 0) (sV s 1)) (zna (sV s 0) (sV s 1)) (sO s)) T p q 0 → Φ (.inl (some (.int (iI (zap (sV s 0) (sV s 1) (zpa (sV s 0) (sV s 1)) (sO s) - zsm (fun n => zwo (zgain (sV s 0) (sV s 1) (zpa (sV s 0) (sV s 1)) (zna (sV s 0) (sV s 1)) (sO s) n) (T.1 n)) (vN (sV s 0))))))) (I', R, A', lo, dd) 0) : zC L xs mX6_leastFileCost [.ref 107] (I, R, A, lo, dd) Φ := by
  refine s6_leastFileCost hm.2.2.1 hm.2.2.2.1 (hok.1 0 (by decide)) (hok.1 1 (by decide)) hm.2.2.2.2.2 (fun I' A' T p q f1 e0 f2 h1 h2 h3 => h I' A' T p q (zM6_fr hm (fun j hj => f1 _ _ (by omega)) (fun c c1 c2 => f2 c (by omega))) (fun c hc => ⟨by funext j; exact f1 _ _ (by omega), f2 c (by omega)⟩) h1 h2 h3)
def zfcv (s : zAb) : Int32 := iI (zap (sV s 0) (sV s 1) (zpa (sV s 0) (sV s 1)) (sO s) - zsm (fun n => zwo (zgain (sV s 0) (sV s 1) (zpa (sV s 0) (sV s 1)) (zna (sV s 0) (sV s 1)) (sO s) n) (ztk0 (sV s 0) (zna (sV s 0) (sV s 1)) 1 n)) (vN (sV s 0)))
theorem z5_fileCost (hok : zOK s) (hs : zS5 o w sp s I R A) (hk : zK0 [] (0, zfcv s, s) I R A lo dd Φ) : zC L xs mX5_fileCost [.ref 0] (I, R, A, lo, dd) Φ := by
  refine zC_en (vc_X5_fileCost_0 (z5_refresh hok hs (fun I1 R1 A1 hs1 hf hg => zk_r (vc_X5_fileCost_4 ?_))))
  obtain ⟨ho, hw, r5, r6, hv, hu, hc⟩ := zS5_go hs1
  refine s0_costOfMatched ho hw hf.2.1 hf.2.2.1 ⟨hv, hu, hf.2.2.2.1, hf.2.2.2.2.1⟩ (hok.1 0 (by decide)) (hok.1 1 (by decide)) (zmo_pa _ _) (zmk_na _ _) hc (fun I2 A2 f1 f2 => zk_r (vc_X5_fileCost_19 (zK0_r hk rfl (zS5_fr hs1 (fun c hc => f1 c (by omega)) (fun _ _ => rfl) (fun c hc => f2 c (by omega) (by omega))) (zG5_tr hg (fun c hc => ⟨f1 c (by omega), rfl, f2 c (by omega) (by omega)⟩)))))
theorem z6_fileCost (hok : zOK s) (hm : zM6 s I A) (hk : zK6 (0, zfcv s, s) I R A lo dd Φ) : zC L xs mX6_fileCost [.ref 107] (I, R, A, lo, dd) Φ := by
  refine s6_fileCost hm.2.2.1 hm.2.2.2.1 (hok.1 0 (by decide)) (hok.1 1 (by decide)) hm.2.2.2.2.2 (fun I' A' f1 e0 f2 => zK6_e hk rfl (zM6_fr hm (fun j hj => f1 _ _ (by omega)) (fun c c1 c2 => f2 c (by omega))) (fun c hc => ⟨by funext j; exact f1 _ _ (by omega), f2 c (by omega)⟩) e0 (fun _ => rfl))
end
