/-! rename, write, setAttributes -/
def zvch (v : zV) (r n : Nat) (z : Int32) : zV := (vS v, vP v, vN v, vpt v, z_up (vnd v) r n z, vpar v, vhom v, vdep v)
theorem zwf_ch {v : zV} {r n : Nat} {z : Int32} (hw : zwf v) (h0 : r = 0 → znm z) (h2 : r = 2 → vnd v 2 n ≠ -1) : zwf (zvch v r n z) := by
  obtain ⟨w1, w2, w3, w4, w5, w6, w7, w8, w9⟩ := hw
  refine ⟨w1, w2, w3, fun i p hi hp => ?_, w5, w6, w7, fun i hi => ?_, w9⟩
  · obtain ⟨a1, a2, a3, a4, a5⟩ := w4 i p hi hp
    refine ⟨a1, a2, a3, ?_, a5⟩
    show z_up (vnd v) r n z 2 p = -1
    rw [zup_n (fun q => ?_)]
    · exact a4
    · exact h2 q.1.symm (by rw [← q.2]; exact a4)
  · show znm (z_up (vnd v) r n z 0 i)
    by_cases q : 0 = r ∧ i = n
    · rw [← q.1, q.2, zup_s]
      exact h0 q.1.symm
    · rw [zup_n q]
      exact w8 i hi
theorem cIm_ch {b r n : Nat} {v : zV} {z : Int32} {I I' A : Nat → Nat → Int32} (h : cIm b v I A) (hI : I' b = I b) (hr : r ≤ 3) : cIm b (zvch v r n z) I' (z_up A (b + 4 + r) n z) := by
  obtain ⟨hS, hP, hN, p0, p1, p2, n0, n1, n2, n3, n4, n5, n6⟩ := h
  have hnd : ∀ i k, i ≤ 3 → (A (b + 4 + i) k = vnd v i k) → z_up A (b + 4 + r) n z (b + 4 + i) k = z_up (vnd v) r n z i k := by
    intro i k hi e
    by_cases q : i = r ∧ k = n
    · rw [q.1, q.2, zup_s, zup_s]
    · rw [zup_n (by omega), zup_n q]
      exact e
  refine ⟨by rw [hI]; exact hS, by rw [hI]; exact hP, by rw [hI]; exact hN, fun p hp => by rw [zup_n (by omega)]; exact p0 p hp, fun p hp => by rw [zup_n (by omega)]; exact p1 p hp, fun p hp => by rw [zup_n (by omega)]; exact p2 p hp, fun k hk => hnd 0 k (by decide) (n0 k hk), fun k hk => hnd 1 k (by decide) (n1 k hk), fun k hk => hnd 2 k (by decide) (n2 k hk), fun k hk => hnd 3 k (by decide) (n3 k hk), fun k hk => by rw [zup_n (by omega)]; exact n4 k hk, fun k hk => by rw [zup_n (by omega)]; exact n5 k hk, fun k hk => by rw [zup_n (by omega)]; exact n6 k hk⟩
theorem mIm_ch {i r n : Nat} {v : zV} {z : Int32} {A : Nat → Nat → Int32} (h : mIm i v A) (hw : vP v ≤ 4) (hr : r ≤ 3) : mIm i (zvch v r n z) (z_up A 108 (159 * i + 15 + 6 * n + r) z) := by
  obtain ⟨m0, m1, m2, p0, p1, p2, n0, n1, n2, n3, n4, n5⟩ := h
  have hnd : ∀ a k, a ≤ 3 → (A 108 (159 * i + 15 + 6 * k + a) = vnd v a k) → z_up A 108 (159 * i + 15 + 6 * n + r) z 108 (159 * i + 15 + 6 * k + a) = z_up (vnd v) r n z a k := by
    intro a k ha e
    by_cases q : a = r ∧ k = n
    · rw [q.1, q.2, zup_s, zup_s]
    · rw [zup_n (by omega), zup_n q]
      exact e
  have hp : ∀ p, p < vP v → p < 4 := fun p hp => by
    have : p < vP v := hp
    omega
  refine ⟨by rw [zup_n (by omega)]; exact m0, by rw [zup_n (by omega)]; exact m1, by rw [zup_n (by omega)]; exact m2, fun p hq => by have := hp p hq; rw [zup_n (by omega)]; exact p0 p hq, fun p hq => by have := hp p hq; rw [zup_n (by omega)]; exact p1 p hq, fun p hq => by have := hp p hq; rw [zup_n (by omega)]; exact p2 p hq, fun k hk => hnd 0 k (by decide) (n0 k hk), fun k hk => hnd 1 k (by decide) (n1 k hk), fun k hk => hnd 2 k (by decide) (n2 k hk), fun k hk => hnd 3 k (by decide) (n3 k hk), fun k hk => by rw [zup_n (by omega)]; exact n4 k hk, fun k hk => by rw [zup_n (by omega)]; exact n5 k hk⟩
theorem zS5_set {o w sp k b r n : Nat} {s : zAb} {z : Int32} {I : Nat → Nat → Int32} {R : Nat → Nat → Option Nat} {A : Nat → Nat → Int32} (h : zS5 o w sp s I R A) (hb : zsb o w k b) (hr : r ≤ 3) : zS5 o w sp (sVw s k (zvch (sV s k) r n z)) (z_up I 0 13 1) R (z_up A (b + 4 + r) n z) := by
  obtain ⟨hk1, hib, hv⟩ := zS5_im h hb
  have hb4 := zib_le hib
  exact zS5_ch h hb zup_s (fun c j _ q => zup_n q) (fun c q => by funext j; rw [zup_n (by omega)]) (cIm_ch hv (by funext j; rw [zup_n (by omega)]) hr)
theorem zG5_set {I : Nat → Nat → Int32} {R : Nat → Nat → Option Nat} {A : Nat → Nat → Int32} {b r n : Nat} {z : Int32} (hb : z_ib b) (hr : r ≤ 3) : zG5 I R A (z_up I 0 13 1) R (z_up A (b + 4 + r) n z) := by
  have hb4 := zib_le hb
  exact fun c hc => ⟨by funext j; rw [zup_n (by omega)], rfl, by funext j; rw [zup_n (by omega)]⟩
theorem zM6_set {s : zAb} {k r n : Nat} {z : Int32} {I A : Nat → Nat → Int32} (hok : zOK s) (h : zM6 s I A) (hk : k ≤ 1) (hn : n < vN (sV s k)) (hr : r ≤ 3) : zM6 (sVw s k (zvch (sV s k) r n z)) I (z_up A 108 (159 * k + 15 + 6 * n + r) z) := by
  have w2 := (hok.1 k hk).2.1
  exact zM6_ch hok h hk (fun _ _ => rfl) (fun c c1 _ => by funext j; rw [zup_n (by omega)]) (fun j _ q => by rw [zup_n (by omega)]) (mIm_ch (zM6_im h hk) (hok.1 k hk).1 hr)
theorem zG6_set {I A : Nat → Nat → Int32} {j : Nat} {x z : Int32} : zG6 I A (z_up I 107 0 x) (z_up A 108 j z) := fun c hc => ⟨by funext i; rw [zup_n (by omega)], by funext i; rw [zup_n (by omega)]⟩
noncomputable def zF_rename (s : zAb) (x y z : Int32) : zOc := zFn s x y (fun k n => zif (znm z) (zif (∃ i, i < vN (sV s k) ∧ nI i ≠ nI n ∧ vhom (sV s k) i = vhom (sV s k) n ∧ vpar (sV s k) i = vpar (sV s k) n ∧ vnd (sV s k) 0 i = z) (3, 0, s) (0, vnd (sV s k) 0 n, sVw s k (zvch (sV s k) 0 n z))) (2, 0, s))
def zF_write (s : zAb) (x y z : Int32) : zOc := zFn s x y (fun k n => match zix z 10000 with
  | none => (2, 0, s)
  | some c => if vnd (sV s k) 2 n = -1 then (3, 0, s) else (0, vnd (sV s k) 2 n, sVw s k (zvch (sV s k) 2 n (nI c))))
def zF_setAttributes (s : zAb) (x y z : Int32) : zOc := zFn s x y (fun k n => match zix z 8 with
  | none => (2, 0, s)
  | some c => (0, vnd (sV s k) 3 n, sVw s k (zvch (sV s k) 3 n (nI c))))
section
variable {L : Nat} {xs : Nat → Int32} {I : Nat → Nat → Int32} {R : Nat → Nat → Option Nat} {A : Nat → Nat → Int32} {lo : Int64} {dd : UInt64} {Φ : zPo} {s : zAb} {o w sp : Nat} {x y z : Int32}
theorem z5_rename (hok : zOK s) (hs : zS5 o w sp s I R A) (hk : zK0 [(0, 1), (1, 2), (2, 3)] (zF_rename s x y z) I R A lo dd Φ) : zC L xs mX5_rename [.ref 0, .int x, .int y, .int z] (I, R, A, lo, dd) Φ := by
  have hs' := hs
  obtain ⟨ho, hw, hsp, hne, ⟨r5, r6, r7⟩, -⟩ := hs'
  have g := zG5_rf I R A
  refine zi_rename hok hs (fun k b n hb ex hn ey => ?_) (fun hF => zK0_t hk (hF _) rfl hs g)
  obtain ⟨hk1, hib, hv⟩ := zS5_im hs hb
  have hwf := hok.1 k hk1
  have w1 := hwf.1
  have w2 := hwf.2.1
  have w3 := hwf.2.2.1
  have hb4 := zib_le hib
  subst ex
  subst ey
  refine s5_isNameCode (fun hz => zk_r (vc_X5_rename_12 hib ⟨fun q => absurd q (by decide), fun _ => ?_⟩)) (fun hz => zk_r (vc_X5_rename_12 hib ⟨fun _ => zK0_t hk (k := 1) (x := 0) (s' := s) ?_ rfl hs g, fun q => absurd rfl q⟩))
  · have hin : z_in (nI n) 24 := nI_in (by omega) (by decide)
    rw [nI_clamp (by omega), hv.2.2.2.2.2.2.2.2.2.2.2.1 n hn, hv.2.2.2.2.2.2.2.2.2.2.1 n hn]
    have hpo : ∀ i k', i < vN (sV s k) → vpar (sV s k) i = some k' → k' < 2 ^ 31 := fun i k' hi e => by have := zpar_lt hwf hi e; omega
    refine ⟨hin, hin, s2_hasOtherChild hib hv w2 (fun i hi => by have := w3 i hi; omega) hpo (by have := w3 n hn; omega) (fun k' e => hpo n k' hn e) (fun hex => zk_r (vc_X5_rename_46 hib ⟨fun q => absurd q (by decide), fun _ => zK0_t hk (k := 2) (x := 0) (s' := s) ?_ rfl hs g⟩)) (fun hex => zk_r (vc_X5_rename_46 hib ⟨fun _ => ?_, fun q => absurd rfl q⟩))⟩
    · unfold zF_rename
      rw [zFn_s hok hk1 hn, zif_t hz, zif_t hex]
    · have e0 : A (b + 4) n = vnd (sV s k) 0 n := hv.2.2.2.2.2.2.1 n hn
      rw [nI_clamp (by omega), e0]
      refine ⟨hin, hin, zK0_r hk (s' := sVw s k (zvch (sV s k) 0 n z)) ?_ (zS5_set (r := 0) hs hb (by decide)) (zG5_set (r := 0) hib (by decide))⟩
      unfold zF_rename
      rw [zFn_s hok hk1 hn, zif_t hz, zif_f hex]
  · unfold zF_rename
    rw [zFn_s hok hk1 hn, zif_f hz]
theorem z6_rename (hok : zOK s) (hm : zM6 s I A) (hk : zK6 (zF_rename s x y z) I R A lo dd Φ) : zC L xs mX6_rename [.ref 107, .int x, .int y, .int z] (I, R, A, lo, dd) Φ := by
  have m0 : ∀ x, zM6 s (z_up I 107 0 x) A := fun x => zM6_up hm (by omega)
  refine zC_en (vc_X6_rename_0 (zh_6n hok hm (fun k n hk1 ex hn ey => ?_) (fun hF => zh_ng (by decide) (zK6_e hk (hF _) (m0 _) zG6_up (zup_s.trans rfl) (fun _ => rfl)))))
  subst ex
  subst ey
  have hwf := hok.1 k hk1
  have w1 := hwf.1
  have w2 := hwf.2.1
  have w3 := hwf.2.2.1
  have hv := zM6_im hm hk1
  refine s6_isName (fun hz => zk_r (vc_X6_rename_18 ⟨fun q => absurd q (by decide), fun _ => zh_ok ?_⟩)) (fun hz => zk_r (vc_X6_rename_18 ⟨fun _ => zh_ng (by decide) (zK6_e hk (k := 2) (v := 0) (s' := s) ?_ (m0 _) zG6_up (zup_s.trans rfl) (fun _ => rfl)), fun q => absurd rfl q⟩))
  · have h5 : ((159 * nI k) + 15 + (6 * nI n) + 5 : Int32) = nI (159 * k + 15 + 6 * n + 5) := by simp (disch := omega) only [ze_lit, pk_mul, nI_add, nI_clamp, ze_inI, nI_ltI, nI_eq]
    have h4 : ((159 * nI k) + 15 + (6 * nI n) + 4 : Int32) = nI (159 * k + 15 + 6 * n + 4) := by simp (disch := omega) only [ze_lit, pk_mul, nI_add, nI_clamp, ze_inI, nI_ltI, nI_eq]
    have h0 : ((159 * nI k) + 15 + (6 * nI n) + 0 : Int32) = nI (159 * k + 15 + 6 * n + 0) := by simp (disch := omega) only [ze_lit, pk_mul, nI_add, nI_clamp, ze_inI, nI_ltI, nI_eq]
    rw [h5, h4, nI_clamp (by omega), nI_clamp (by omega), hv.2.2.2.2.2.2.2.2.2.2.2 n hn, hv.2.2.2.2.2.2.2.2.2.2.1 n hn]
    refine ⟨nI_in (by omega) (by decide), nI_in (by omega) (by decide), s6_hasChild (by omega) hv hwf (by have := w3 n hn; omega) (fun k' e => by have := zpar_lt hwf hn e; omega) (fun hex => zk_r (vc_X6_rename_59 ⟨fun q => absurd q (by decide), fun _ => zK6_e hk (k := 3) (v := 0) (s' := s) ?_ (zM6_up (m0 _) (by omega)) (zG6_tr zG6_up zG6_up) (zup_s.trans rfl) (fun _ => rfl)⟩)) (fun hex => zk_r (vc_X6_rename_59 ⟨fun _ => ?_, fun q => absurd rfl q⟩))⟩
    · unfold zF_rename
      rw [zFn_s hok hk1 hn, zif_t hz, zif_t hex]
    · rw [h0, nI_clamp (by omega), hv.2.2.2.2.2.2.1 n hn]
      refine ⟨nI_in (by omega) (by decide), nI_in (by omega) (by decide), zK6_e hk (k := 0) (v := vnd (sV s k) 0 n) (s' := sVw s k (zvch (sV s k) 0 n z)) ?_ (zM6_set (r := 0) hok (m0 _) hk1 hn (by decide)) zG6_set (zup_s.trans rfl) (fun _ => rfl)⟩
      unfold zF_rename
      rw [zFn_s hok hk1 hn, zif_t hz, zif_f hex]
  · unfold zF_rename
    rw [zFn_s hok hk1 hn, zif_f hz]
theorem z5_write (hok : zOK s) (hs : zS5 o w sp s I R A) (hk : zK0 [(0, 1), (1, 2), (2, 3)] (zF_write s x y z) I R A lo dd Φ) : zC L xs mX5_write [.ref 0, .int x, .int y, .int z] (I, R, A, lo, dd) Φ := by
  have hs' := hs
  obtain ⟨ho, hw, hsp, hne, ⟨r5, r6, r7⟩, -⟩ := hs'
  have g := zG5_rf I R A
  refine zi_write hok hs (fun k b n hb ex hn ey => ?_) (fun hF => zK0_t hk (hF _) rfl hs g)
  obtain ⟨hk1, hib, hv⟩ := zS5_im hs hb
  have hwf := hok.1 k hk1
  have w2 := hwf.2.1
  subst ex
  subst ey
  have hin : z_in (nI n) 24 := nI_in (by omega) (by decide)
  have e0 : A (b + 6) n = vnd (sV s k) 2 n := hv.2.2.2.2.2.2.2.2.1 n hn
  refine zh_rg (m := 9999) (by decide) (fun c hc ec => ?_) (fun hno => zK0_t hk (k := 1) (x := 0) (s' := s) ?_ rfl hs g)
  · rw [nI_clamp (by omega), e0]
    refine ⟨hin, fun q => zK0_t hk (k := 2) (x := 0) (s' := s) ?_ rfl hs g, fun q => ⟨hin, hin, zK0_r hk (s' := sVw s k (zvch (sV s k) 2 n z)) ?_ (zS5_set (r := 2) hs hb (by decide)) (zG5_set (r := 2) hib (by decide))⟩⟩
    · unfold zF_write
      rw [zFn_s hok hk1 hn, ec, zix_s (by omega) (by decide)]
      exact if_pos q
    · unfold zF_write
      rw [zFn_s hok hk1 hn, ec, zix_s (by omega) (by decide)]
      exact if_neg q
  · unfold zF_write
    rw [zFn_s hok hk1 hn, zix_n (fun c hc => hno c (by omega))]
theorem z6_write (hok : zOK s) (hm : zM6 s I A) (hk : zK6 (zF_write s x y z) I R A lo dd Φ) : zC L xs mX6_write [.ref 107, .int x, .int y, .int z] (I, R, A, lo, dd) Φ := by
  have m0 : ∀ x, zM6 s (z_up I 107 0 x) A := fun x => zM6_up hm (by omega)
  refine zC_en (vc_X6_write_0 (zh_6n hok hm (fun k n hk1 ex hn ey => zh_rg (m := 9999) (by decide) (fun c hc ec => ?_) (fun hno => zh_ng (by decide) (zK6_e hk (k := 2) (v := 0) (s' := s) ?_ (m0 _) zG6_up (zup_s.trans rfl) (fun _ => rfl)))) (fun hF => zh_ng (by decide) (zK6_e hk (hF _) (m0 _) zG6_up (zup_s.trans rfl) (fun _ => rfl)))))
  · subst ex
    subst ey
    have hwf := hok.1 k hk1
    have w2 := hwf.2.1
    have hv := zM6_im hm hk1
    have h2 : ((159 * nI k) + 15 + (6 * nI n) + 2 : Int32) = nI (159 * k + 15 + 6 * n + 2) := by simp (disch := omega) only [ze_lit, pk_mul, nI_add, nI_clamp, ze_inI, nI_ltI, nI_eq]
    have hin : z_in (nI (159 * k + 15 + 6 * n + 2)) 477 := nI_in (by omega) (by decide)
    rw [h2, nI_clamp (by omega), hv.2.2.2.2.2.2.2.2.1 n hn]
    refine ⟨hin, fun q => zh_ng (by decide) (zK6_e hk (k := 3) (v := 0) (s' := s) ?_ (m0 _) zG6_up (zup_s.trans rfl) (fun _ => rfl)), fun q => zh_ok ⟨hin, hin, zK6_e hk (k := 0) (v := vnd (sV s k) 2 n) (s' := sVw s k (zvch (sV s k) 2 n z)) ?_ (zM6_set (r := 2) hok (m0 _) hk1 hn (by decide)) zG6_set (zup_s.trans rfl) (fun _ => rfl)⟩⟩
    · unfold zF_write
      rw [zFn_s hok hk1 hn, ec, zix_s (by omega) (by decide)]
      exact if_pos q
    · unfold zF_write
      rw [zFn_s hok hk1 hn, ec, zix_s (by omega) (by decide)]
      exact if_neg q
  · unfold zF_write
    rw [ex, ey, zFn_s hok hk1 hn, zix_n (fun c hc => hno c (by omega))]
theorem z5_setAttributes (hok : zOK s) (hs : zS5 o w sp s I R A) (hk : zK0 [(0, 1), (1, 2)] (zF_setAttributes s x y z) I R A lo dd Φ) : zC L xs mX5_setAttributes [.ref 0, .int x, .int y, .int z] (I, R, A, lo, dd) Φ := by
  have hs' := hs
  obtain ⟨ho, hw, hsp, hne, ⟨r5, r6, r7⟩, -⟩ := hs'
  have g := zG5_rf I R A
  refine zi_setAttributes hok hs (fun k b n hb ex hn ey => ?_) (fun hF => zK0_t hk (hF _) rfl hs g)
  obtain ⟨hk1, hib, hv⟩ := zS5_im hs hb
  have hwf := hok.1 k hk1
  have w2 := hwf.2.1
  subst ex
  subst ey
  have hin : z_in (nI n) 24 := nI_in (by omega) (by decide)
  have e0 : A (b + 7) n = vnd (sV s k) 3 n := hv.2.2.2.2.2.2.2.2.2.1 n hn
  refine zh_rg (m := 7) (by decide) (fun c hc ec => ?_) (fun hno => zK0_t hk (k := 1) (x := 0) (s' := s) ?_ rfl hs g)
  · rw [nI_clamp (by omega), e0]
    refine ⟨hin, hin, zK0_r hk (s' := sVw s k (zvch (sV s k) 3 n z)) ?_ (zS5_set (r := 3) hs hb (by decide)) (zG5_set (r := 3) hib (by decide))⟩
    unfold zF_setAttributes
    rw [zFn_s hok hk1 hn, ec, zix_s (by omega) (by decide)]
  · unfold zF_setAttributes
    rw [zFn_s hok hk1 hn, zix_n (fun c hc => hno c (by omega))]
theorem z6_setAttributes (hok : zOK s) (hm : zM6 s I A) (hk : zK6 (zF_setAttributes s x y z) I R A lo dd Φ) : zC L xs mX6_setAttributes [.ref 107, .int x, .int y, .int z] (I, R, A, lo, dd) Φ := by
  have m0 : ∀ x, zM6 s (z_up I 107 0 x) A := fun x => zM6_up hm (by omega)
  refine zC_en (vc_X6_setAttributes_0 (zh_6n hok hm (fun k n hk1 ex hn ey => zh_rg (m := 7) (by decide) (fun c hc ec => zh_ok ?_) (fun hno => zh_ng (by decide) (zK6_e hk (k := 2) (v := 0) (s' := s) ?_ (m0 _) zG6_up (zup_s.trans rfl) (fun _ => rfl)))) (fun hF => zh_ng (by decide) (zK6_e hk (hF _) (m0 _) zG6_up (zup_s.trans rfl) (fun _ => rfl)))))
  · subst ex
    subst ey
    have hwf := hok.1 k hk1
    have w2 := hwf.2.1
    have hv := zM6_im hm hk1
    have h2 : ((159 * nI k) + 15 + (6 * nI n) + 3 : Int32) = nI (159 * k + 15 + 6 * n + 3) := by simp (disch := omega) only [ze_lit, pk_mul, nI_add, nI_clamp, ze_inI, nI_ltI, nI_eq]
    have hin : z_in (nI (159 * k + 15 + 6 * n + 3)) 477 := nI_in (by omega) (by decide)
    rw [h2, nI_clamp (by omega), hv.2.2.2.2.2.2.2.2.2.1 n hn]
    refine ⟨hin, hin, zK6_e hk (k := 0) (v := vnd (sV s k) 3 n) (s' := sVw s k (zvch (sV s k) 3 n z)) ?_ (zM6_set (r := 3) hok (m0 _) hk1 hn (by decide)) zG6_set (zup_s.trans rfl) (fun _ => rfl)⟩
    unfold zF_setAttributes
    rw [zFn_s hok hk1 hn, ec, zix_s (by omega) (by decide)]
  · unfold zF_setAttributes
    rw [ex, ey, zFn_s hok hk1 hn, zix_n (fun c hc => hno c (by omega))]
end
/-! what holds of the new states -/
theorem zFn_ok {s : zAb} {x y : Int32} {e : Nat → Nat → zOc} (h : zOK s) (he : ∀ k n, k ≤ 1 → n < vN (sV s k) → zOK (e k n).2.2) : zOK (zFn s x y e).2.2 := by
  have hx : (∃ k, k ≤ 1 ∧ x = nI k) ∨ ∀ k, k ≤ 1 → x ≠ nI k := by
    by_cases q : ∃ k, k ≤ 1 ∧ x = nI k
    · exact Or.inl q
    · exact Or.inr (fun k hk z => q ⟨k, hk, z⟩)
  rcases hx with ⟨k, hk, rfl⟩ | hx
  · by_cases q : ∃ n, n < vN (sV s k) ∧ y = nI n
    · obtain ⟨n, hn, rfl⟩ := q
      rw [zFn_s h hk hn]
      exact he k n hk hn
    · rw [zFn_n hk (fun n hn z => q ⟨n, hn, z⟩)]
      exact h
  · rw [show zFn s x y e = (1, 0, s) from zFi_n hx]
    exact h
theorem zOK_rename {s : zAb} {x y z : Int32} (h : zOK s) : zOK (zF_rename s x y z).2.2 := by
  refine zFn_ok h (fun k n hk hn => ?_)
  by_cases q : znm z
  · rw [zif_t q]
    by_cases q2 : ∃ i, i < vN (sV s k) ∧ nI i ≠ nI n ∧ vhom (sV s k) i = vhom (sV s k) n ∧ vpar (sV s k) i = vpar (sV s k) n ∧ vnd (sV s k) 0 i = z
    · rw [zif_t q2]; exact h
    · rw [zif_f q2]; exact zOK_ch h (zwf_ch (h.1 k hk) (fun _ => q) (fun z => absurd z (by decide)))
  · rw [zif_f q]; exact h
theorem zOK_write {s : zAb} {x y z : Int32} (h : zOK s) : zOK (zF_write s x y z).2.2 := by
  refine zFn_ok h (fun k n hk hn => ?_)
  cases zix z 10000 with
  | none => exact h
  | some c =>
    dsimp only
    by_cases q : vnd (sV s k) 2 n = -1
    · rw [if_pos q]; exact h
    · rw [if_neg q]; exact zOK_ch h (zwf_ch (h.1 k hk) (fun z => absurd z (by decide)) (fun _ => q))
theorem zOK_setAttributes {s : zAb} {x y z : Int32} (h : zOK s) : zOK (zF_setAttributes s x y z).2.2 := by
  refine zFn_ok h (fun k n hk hn => ?_)
  cases zix z 8 with
  | none => exact h
  | some c => exact zOK_ch h (zwf_ch (h.1 k hk) (fun z => absurd z (by decide)) (fun z => absurd z (by decide)))
theorem zOK_formatPath {s : zAb} {x y : Int32} (h : zOK s) : zOK (zF_formatPath s x y).2.2 := by
  refine zFn_ok h (fun k n hk hn => ⟨h.1, ?_⟩)
  have := zpth_le (sV s k) n (vdep (sV s k) n)
  have := (h.1 k hk).2.2.2.2.2.1 n hn
  show (zpth (sV s k) n (vdep (sV s k) n)).length ≤ 41
  omega
