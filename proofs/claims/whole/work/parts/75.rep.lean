/-! reports: errorCode, errorPosition, image, partition, node, byInode -/
theorem zwh_at {f : Nat → Bool} : ∀ n k m, n < m → f (k + n) = false → (∀ j, j < n → f (k + j) = true) → zwh f k m = n := by
  intro n
  induction n with
  | zero => intro k m _ h _; exact zwh_st (by simpa using h)
  | succ n ih =>
    intro k m hm h1 h2
    obtain ⟨m', rfl⟩ : ∃ m', m = m' + 1 := ⟨m - 1, by omega⟩
    rw [zwh_go (by simpa using h2 0 (by omega)), ih (k + 1) m' (by omega) (by rw [show k + 1 + n = k + (n + 1) by omega]; exact h1) (fun j hj => by rw [show k + 1 + j = k + (j + 1) by omega]; exact h2 (j + 1) (by omega))]
theorem zwh_all {f : Nat → Bool} : ∀ m k, (∀ j, j < m → f (k + j) = true) → zwh f k m = m := by
  intro m
  induction m with
  | zero => intro k _; rfl
  | succ m ih =>
    intro k h
    rw [zwh_go (by simpa using h 0 (by omega)), ih (k + 1) (fun j hj => by rw [show k + 1 + j = k + (j + 1) by omega]; exact h (j + 1) (by omega))]
theorem zcnt_dir (p : Nat → Prop) [∀ i, Decidable (p i)] (n : Nat) : zcnt (fun i => decide (p i)) n + zcnt (fun i => decide (¬ p i)) n = n := by
  induction n with
  | zero => rfl
  | succ n ih =>
    unfold zcnt
    by_cases q : p n
    · simp only [q, decide_true, not_true, decide_false, if_true]
      simp only [reduceCtorEq, if_false]
      omega
    · simp only [q, decide_true, not_false_eq_true, decide_false, if_true]
      simp only [reduceCtorEq, if_false]
      omega
def zdr (v : zV) : Nat := zcnt (fun n => decide (vnd v 2 n = -1)) (vN v)
def zfl0 (v : zV) : Nat := zcnt (fun n => decide (¬ vnd v 2 n = -1)) (vN v)
theorem zdr_fl (v : zV) : zdr v + zfl0 v = vN v := zcnt_dir (fun n => vnd v 2 n = -1) (vN v)
def zimv (v : zV) (w : Nat) : Int32 := if w = 0 then vS v else if w = 1 then nI (vP v) else if w = 2 then nI (vN v) else if w = 3 then nI (zdr v) else if w = 4 then nI (zfl0 v) else if w = 5 then nI (zmx (vdep v) 0 (vN v)) else zfs v (vP v)
def zF_image (s : zAb) (x y : Int32) : zOc := zFi s x (fun k => match zix y 7 with
  | none => (2, 0, s)
  | some w => (0, zimv (sV s k) w, s))
def zptv (v : zV) (n w : Nat) : Int32 := if w = 0 then vpt v 0 n else if w = 1 then vpt v 1 n else if w = 2 then vpt v 2 n else nI (zcnt (fun i => decide (vhom v i = n)) (vN v))
def zF_partition (s : zAb) (x y z : Int32) : zOc := zFp s x y (fun k n => match zix z 4 with
  | none => (2, 0, s)
  | some w => (0, zptv (sV s k) n w, s))
def zndv (v : zV) (n w : Nat) : Int32 := if w = 0 then vnd v 0 n else if w = 1 then vnd v 1 n else if w = 2 then vnd v 2 n else if w = 3 then vnd v 3 n else if w = 4 then zpI (vpar v n) else if w = 5 then nI (vhom v n) else if w = 6 then nI (vdep v n) else nI (zte v n - n) - 1
def zF_node (s : zAb) (x y z : Int32) : zOc := zFn s x y (fun k n => match zix z 8 with
  | none => (2, 0, s)
  | some w => (0, zndv (sV s k) n w, s))
def zino (v : zV) (p : Nat) (z : Int32) : Nat := zwh (fun j => !(decide (vhom v j = p ∧ vnd v 1 j = z))) 0 (vN v)
def zF_byInode (s : zAb) (x y z : Int32) : zOc := zFp s x y (fun k p => if zino (sV s k) p z < vN (sV s k) then (0, nI (zino (sV s k) p z), s) else (2, 0, s))
theorem zino_s {v : zV} {p n : Nat} {z : Int32} (hn : n < vN v) (h1 : vhom v n = p) (h2 : vnd v 1 n = z) (hl : ∀ j, j < n → ¬ (vhom v j = p ∧ vnd v 1 j = z)) : zino v p z = n := by
  refine zwh_at n 0 _ hn ?_ (fun j hj => ?_)
  · rw [Nat.zero_add, decide_eq_true (⟨h1, h2⟩ : vhom v n = p ∧ vnd v 1 n = z)]; rfl
  · rw [Nat.zero_add, decide_eq_false (hl j hj)]; rfl
theorem zino_n {v : zV} {p : Nat} {z : Int32} (hl : ∀ j, j < vN v → ¬ (vhom v j = p ∧ vnd v 1 j = z)) : zino v p z = vN v := zwh_all _ _ (fun j hj => by rw [Nat.zero_add, decide_eq_false (hl j hj)]; rfl)
section
variable {L : Nat} {xs : Nat → Int32} {I : Nat → Nat → Int32} {R : Nat → Nat → Option Nat} {A : Nat → Nat → Int32} {lo : Int64} {dd : UInt64} {Φ : zPo} {s : zAb} {o w sp : Nat} {x y z : Int32}
theorem z5_errorCode (hs : zS5 o w sp s I R A) (hk : zK0 [] (0, sC s, s) I R A lo dd Φ) : zC L xs mX5_errorCode [.ref 0] (I, R, A, lo, dd) Φ := by
  refine zC_en (vc_X5_errorCode_0 ?_)
  rw [hs.2.2.2.2.2.2.1.1]
  exact zK0_r hk rfl hs (zG5_rf _ _ _)
theorem z5_errorPosition (hs : zS5 o w sp s I R A) (hk : zK0 [] (0, sE s, s) I R A lo dd Φ) : zC L xs mX5_errorPosition [.ref 0] (I, R, A, lo, dd) Φ := by
  refine zC_en (vc_X5_errorPosition_0 ?_)
  rw [hs.2.2.2.2.2.2.1.2]
  exact zK0_r hk rfl hs (zG5_rf _ _ _)
theorem z6_errorCode (hm : zM6 s I A) (hk : zK6 (0, sC s, s) I R A lo dd Φ) : zC L xs mX6_errorCode [.ref 107] (I, R, A, lo, dd) Φ := by
  refine zC_en (vc_X6_errorCode_0 ?_)
  rw [zup_n (by omega), hm.2.1.1]
  exact zK6_e hk rfl (zM6_up hm (by omega)) zG6_up (zup_s.trans rfl) (fun _ => rfl)
theorem z6_errorPosition (hm : zM6 s I A) (hk : zK6 (0, sE s, s) I R A lo dd Φ) : zC L xs mX6_errorPosition [.ref 107] (I, R, A, lo, dd) Φ := by
  refine zC_en (vc_X6_errorPosition_0 ?_)
  rw [zup_n (by omega), hm.2.1.2]
  exact zK6_e hk rfl (zM6_up hm (by omega)) zG6_up (zup_s.trans rfl) (fun _ => rfl)
theorem z5_image (hok : zOK s) (hs : zS5 o w sp s I R A) (hk : zK0 [(0, 1), (1, 2)] (zF_image s x y) I R A lo dd Φ) : zC L xs mX5_image [.ref 0, .int x, .int y] (I, R, A, lo, dd) Φ := by
  have hs' := hs
  obtain ⟨ho, hw, hsp, hne, ⟨r5, r6, r7⟩, -⟩ := hs'
  refine zi_image hok hs (fun k b hb ex => ?_) (fun hn => zK0_t hk (zFi_n hn) rfl hs (zG5_rf _ _ _))
  obtain ⟨hk1, hib, hv⟩ := zS5_im hs hb
  have hwf := hok.1 k hk1
  have w1 := hwf.1
  have w2 := hwf.2.1
  have w6 := hwf.2.2.2.2.2.1
  have hF : ∀ w, w < 7 → y = nI w → zF_image s x y = (0, zimv (sV s k) w, s) := fun w hw e => by
    unfold zF_image
    rw [ex, zFi_s hk1, e, zix_s hw (by decide)]
  have g := zG5_rf I R A
  have c5 := hv.2.2.1
  have hc := zdr_fl (sV s k)
  refine ⟨fun q => ?_, fun q0 => ⟨fun q => ?_, fun q1 => ⟨fun q => ?_, fun q2 => ⟨fun q => ?_, fun q3 => ⟨fun q => ?_, fun q4 => ⟨fun q => ?_, fun q5 => ⟨fun q => ?_, fun q6 => ?_⟩⟩⟩⟩⟩⟩⟩
  · rw [hv.1]; exact zK0_r hk (hF 0 (by decide) q) hs g
  · rw [hv.2.1]; exact zK0_r hk (hF 1 (by decide) q) hs g
  · rw [c5]; exact zK0_r hk (hF 2 (by decide) q) hs g
  · refine s2_countFiles hib hv w2 (zk_r (vc_X5_image_71 hib ?_))
    have e : I b 5 - nI (zfl0 (sV s k)) = nI (zdr (sV s k)) := by rw [c5, ze_sub (by omega)]; congr 1; omega
    exact e ▸ zK0_r hk (hF 3 (by decide) q) hs g
  · exact s2_countFiles hib hv w2 (zk_r (vc_X5_image_77 hib (zK0_r hk (hF 4 (by decide) q) hs g)))
  · have e : nI (vN (sV s k)) = nI (0 + vN (sV s k)) := by rw [Nat.zero_add]
    rw [c5, e]
    exact s2_greatestDepth hib hv w2 w6 (i := 0) (m := vN (sV s k)) (by omega) (zk_r (vc_X5_image_87 hib (zK0_r hk (hF 5 (by decide) q) hs g)))
  · exact s2_freeSectors hib hv w1 (zk_r (vc_X5_image_92 hib (zK0_r hk (hF 6 (by decide) q) hs g)))
  · refine zK0_t hk (k := 1) (x := 0) (s' := s) ?_ rfl hs g
    unfold zF_image
    rw [ex, zFi_s hk1, zix_n (fun n hn => ?_)]
    rcases (show n = 0 ∨ n = 1 ∨ n = 2 ∨ n = 3 ∨ n = 4 ∨ n = 5 ∨ n = 6 by omega) with rfl | rfl | rfl | rfl | rfl | rfl | rfl
    · exact q0
    · exact q1
    · exact q2
    · exact q3
    · exact q4
    · exact q5
    · exact q6
theorem z6_image (hok : zOK s) (hm : zM6 s I A) (hk : zK6 (zF_image s x y) I R A lo dd Φ) : zC L xs mX6_image [.ref 107, .int x, .int y] (I, R, A, lo, dd) Φ := by
  have m0 : ∀ x, zM6 s (z_up I 107 0 x) A := fun x => zM6_up hm (by omega)
  refine zC_en (vc_X6_image_0 (zh_rg (m := 1) (by decide) (fun k hk1 ex => zh_rg (m := 6) (by decide) (fun w hw ey => zh_ok ?_) (fun hn => zh_ng (by decide) (zK6_e hk (k := 2) (v := 0) (s' := s) ?_ (m0 _) zG6_up (zup_s.trans rfl) (fun _ => rfl)))) (fun hn => zh_ng (by decide) (zK6_e hk (zFi_n hn) (m0 _) zG6_up (zup_s.trans rfl) (fun _ => rfl)))))
  · subst ex
    subst ey
    have hF : zF_image s (nI k) (nI w) = (0, zimv (sV s k) w, s) := by
      unfold zF_image
      rw [zFi_s hk1, zix_s (by omega) (by decide)]
    have hwf := hok.1 k hk1
    have w1 := hwf.1
    have w2 := hwf.2.1
    have hv := zM6_im hm hk1
    have hc := zdr_fl (sV s k)
    have E : ∀ v, zimv (sV s k) w = v → Φ (.inl (some (.int v))) (z_up I 107 0 0, R, A, lo, dd) 0 := fun v e => zK6_e hk hF (m0 _) zG6_up (zup_s.trans rfl) (fun _ => e.symm)
    have hx2 : ((159 : Int32) * nI k) + 2 = nI (159 * k + 2) := by simp (disch := omega) only [ze_lit, pk_mul, nI_add, nI_clamp, ze_inI, nI_ltI, nI_eq]
    refine ⟨fun q => ?_, fun q3 => ⟨fun q => ?_, fun q4 => ⟨fun q => ?_, fun q5 => ⟨fun q => ?_, fun q6 => ?_⟩⟩⟩⟩
    · have := (nI_eq (b := 3) (by omega) (by decide)).mp q
      subst this
      exact s6_directories (by omega) hv w2 (zk_r (vc_X6_image_77 (E _ rfl)))
    · have := (nI_eq (b := 4) (by omega) (by decide)).mp q
      subst this
      rw [hx2, nI_clamp (by omega), hv.2.2.1]
      refine ⟨nI_in (by omega) (by omega), s6_directories (by omega) hv w2 (zk_r (vc_X6_image_88 ?_))⟩
      refine E _ ?_
      show nI (zfl0 (sV s k)) = nI (vN (sV s k)) - nI (zdr (sV s k))
      rw [ze_sub (by omega)]
      congr 1
      omega
    · have := (nI_eq (b := 5) (by omega) (by decide)).mp q
      subst this
      exact s6_deepest (by omega) hv hwf (zk_r (vc_X6_image_95 (E _ rfl)))
    · have := (nI_eq (b := 6) (by omega) (by decide)).mp q
      subst this
      exact s6_freeSectors (by omega) hv w1 (zk_r (vc_X6_image_101 (E _ rfl)))
    · have hw2 : w = 0 ∨ w = 1 ∨ w = 2 := by
        have h3 : w ≠ 3 := fun z => q3 (by rw [z]; rfl)
        have h4 : w ≠ 4 := fun z => q4 (by rw [z]; rfl)
        have h5 : w ≠ 5 := fun z => q5 (by rw [z]; rfl)
        have h6 : w ≠ 6 := fun z => q6 (by rw [z]; rfl)
        omega
      have hxw : ((159 : Int32) * nI k) + nI w = nI (159 * k + w) := by simp (disch := omega) only [ze_lit, pk_mul, nI_add, nI_clamp, ze_inI, nI_ltI, nI_eq]
      rw [hxw, nI_clamp (by omega)]
      refine ⟨nI_in (by omega) (by omega), E _ ?_⟩
      rcases hw2 with rfl | rfl | rfl
      · exact hv.1.symm
      · exact hv.2.1.symm
      · exact hv.2.2.1.symm
  · unfold zF_image
    rw [ex, zFi_s hk1, zix_n (fun n hn2 => hn n (by omega))]
theorem z5_partition (hok : zOK s) (hs : zS5 o w sp s I R A) (hk : zK0 [(0, 1), (1, 2)] (zF_partition s x y z) I R A lo dd Φ) : zC L xs mX5_partition [.ref 0, .int x, .int y, .int z] (I, R, A, lo, dd) Φ := by
  have hs' := hs
  obtain ⟨ho, hw, hsp, hne, ⟨r5, r6, r7⟩, -⟩ := hs'
  have g := zG5_rf I R A
  refine zi_partition hok hs (fun k b n hb ex hn ey => ?_) (fun hF => zK0_t hk (hF _) rfl hs g)
  obtain ⟨hk1, hib, hv⟩ := zS5_im hs hb
  have hwf := hok.1 k hk1
  have w1 := hwf.1
  have w2 := hwf.2.1
  have w3 := hwf.2.2.1
  subst ex
  subst ey
  have hF : ∀ w, w < 4 → z = nI w → zF_partition s (nI k) (nI n) z = (0, zptv (sV s k) n w, s) := fun w hw e => by
    unfold zF_partition
    rw [zFp_s hok hk1 hn, e, zix_s hw (by decide)]
  obtain ⟨c0, c1, c5, p0, p1, p2, -⟩ := hv
  rw [nI_clamp (by omega)]
  have hin : z_in (nI n) 4 := nI_in (by omega) (by decide)
  refine ⟨fun q => ⟨hin, ?_⟩, fun q0 => ⟨fun q => ⟨hin, ?_⟩, fun q1 => ⟨fun q => ⟨hin, ?_⟩, fun q2 => ⟨fun q => ?_, fun q3 => ?_⟩⟩⟩⟩
  · rw [p0 n hn]; exact zK0_r hk (hF 0 (by decide) q) hs g
  · rw [p1 n hn]; exact zK0_r hk (hF 1 (by decide) q) hs g
  · rw [p2 n hn]; exact zK0_r hk (hF 2 (by decide) q) hs g
  · exact s2_nodesIn hib (zS5_im hs hb).2.2 w2 (fun i hi => by have := w3 i hi; omega) (by omega) (zk_r (vc_X5_partition_70 hib (zK0_r hk (hF 3 (by decide) q) hs g)))
  · refine zK0_t hk (k := 1) (x := 0) (s' := s) ?_ rfl hs g
    unfold zF_partition
    rw [zFp_s hok hk1 hn, zix_n (fun n hn => ?_)]
    rcases (show n = 0 ∨ n = 1 ∨ n = 2 ∨ n = 3 by omega) with rfl | rfl | rfl | rfl
    · exact q0
    · exact q1
    · exact q2
    · exact q3
theorem z6_partition (hok : zOK s) (hm : zM6 s I A) (hk : zK6 (zF_partition s x y z) I R A lo dd Φ) : zC L xs mX6_partition [.ref 107, .int x, .int y, .int z] (I, R, A, lo, dd) Φ := by
  have m0 : ∀ x, zM6 s (z_up I 107 0 x) A := fun x => zM6_up hm (by omega)
  refine zC_en (vc_X6_partition_0 (zh_6p hok hm (fun k n hk1 ex hn ey => zh_rg (m := 3) (by decide) (fun w hw ez => zh_ok ?_) (fun hno => zh_ng (by decide) (zK6_e hk (k := 2) (v := 0) (s' := s) ?_ (m0 _) zG6_up (zup_s.trans rfl) (fun _ => rfl)))) (fun hF => zh_ng (by decide) (zK6_e hk (hF _) (m0 _) zG6_up (zup_s.trans rfl) (fun _ => rfl)))))
  · subst ex
    subst ey
    subst ez
    have hF : zF_partition s (nI k) (nI n) (nI w) = (0, zptv (sV s k) n w, s) := by
      unfold zF_partition
      rw [zFp_s hok hk1 hn, zix_s (by omega) (by decide)]
    have hwf := hok.1 k hk1
    have w1 := hwf.1
    have hv := zM6_im hm hk1
    have E : ∀ v, zptv (sV s k) n w = v → Φ (.inl (some (.int v))) (z_up I 107 0 0, R, A, lo, dd) 0 := fun v e => zK6_e hk hF (m0 _) zG6_up (zup_s.trans rfl) (fun _ => e.symm)
    refine ⟨fun q => ?_, fun q3 => ?_⟩
    · have q := (nI_ltI (b := 3) (by omega) (by decide)).mp q
      have hxw : (((159 : Int32) * nI k) + 3) + (3 * nI n) + nI w = nI (159 * k + 3 + 3 * n + w) := by simp (disch := omega) only [ze_lit, pk_mul, nI_add, nI_clamp, ze_inI, nI_ltI, nI_eq]
      rw [hxw, nI_clamp (by omega)]
      refine ⟨nI_in (by omega) (by omega), E _ ?_⟩
      obtain ⟨-, -, -, p0, p1, p2, -⟩ := hv
      rcases (show w = 0 ∨ w = 1 ∨ w = 2 by omega) with rfl | rfl | rfl
      · exact (p0 n hn).symm
      · exact (p1 n hn).symm
      · exact (p2 n hn).symm
    · have : w = 3 := by
        have : ¬ w < 3 := fun z => q3 (nI_lt z (by decide))
        omega
      subst this
      exact s6_nodesIn (by omega) hv hwf (by omega) (zk_r (vc_X6_partition_61 (E _ rfl)))
  · unfold zF_partition
    rw [ex, ey, zFp_s hok hk1 hn, zix_n (fun n hn2 => hno n (by omega))]
theorem z5_node (hok : zOK s) (hs : zS5 o w sp s I R A) (hk : zK0 [(0, 1), (1, 2)] (zF_node s x y z) I R A lo dd Φ) : zC L xs mX5_node [.ref 0, .int x, .int y, .int z] (I, R, A, lo, dd) Φ := by
  have hs' := hs
  obtain ⟨ho, hw, hsp, hne, ⟨r5, r6, r7⟩, -⟩ := hs'
  have g := zG5_rf I R A
  refine zi_node hok hs (fun k b n hb ex hn ey => ?_) (fun hF => zK0_t hk (hF _) rfl hs g)
  obtain ⟨hk1, hib, hv⟩ := zS5_im hs hb
  have hwf := hok.1 k hk1
  have w2 := hwf.2.1
  subst ex
  subst ey
  have hF : ∀ w, w < 8 → z = nI w → zF_node s (nI k) (nI n) z = (0, zndv (sV s k) n w, s) := fun w hw e => by
    unfold zF_node
    rw [zFn_s hok hk1 hn, e, zix_s hw (by decide)]
  obtain ⟨c0, c1, c5, p0, p1, p2, n0, n1, n2, n3, n4, n5, n6⟩ := hv
  rw [nI_clamp (by omega)]
  have hin : z_in (nI n) 24 := nI_in (by omega) (by decide)
  refine ⟨fun q => ⟨hin, ?_⟩, fun q0 => ⟨fun q => ⟨hin, ?_⟩, fun q1 => ⟨fun q => ⟨hin, ?_⟩, fun q2 => ⟨fun q => ⟨hin, ?_⟩, fun q3 => ⟨fun q => ⟨hin, ?_⟩, fun q4 => ⟨fun q => ⟨hin, ?_⟩, fun q5 => ⟨fun q => ⟨hin, ?_⟩, fun q6 => ⟨fun q => ?_, fun q7 => ?_⟩⟩⟩⟩⟩⟩⟩⟩
  · rw [n0 n hn]; exact zK0_r hk (hF 0 (by decide) q) hs g
  · rw [n1 n hn]; exact zK0_r hk (hF 1 (by decide) q) hs g
  · rw [n2 n hn]; exact zK0_r hk (hF 2 (by decide) q) hs g
  · rw [n3 n hn]; exact zK0_r hk (hF 3 (by decide) q) hs g
  · rw [n4 n hn]; exact zK0_r hk (hF 4 (by decide) q) hs g
  · rw [n5 n hn]; exact zK0_r hk (hF 5 (by decide) q) hs g
  · rw [n6 n hn]; exact zK0_r hk (hF 6 (by decide) q) hs g
  · exact s2_treeSize hib (zS5_im hs hb).2.2 hwf hn (zk_r (vc_X5_node_118 hib (zK0_r hk (hF 7 (by decide) q) hs g)))
  · refine zK0_t hk (k := 1) (x := 0) (s' := s) ?_ rfl hs g
    unfold zF_node
    rw [zFn_s hok hk1 hn, zix_n (fun n hn => ?_)]
    rcases (show n = 0 ∨ n = 1 ∨ n = 2 ∨ n = 3 ∨ n = 4 ∨ n = 5 ∨ n = 6 ∨ n = 7 by omega) with rfl | rfl | rfl | rfl | rfl | rfl | rfl | rfl
    · exact q0
    · exact q1
    · exact q2
    · exact q3
    · exact q4
    · exact q5
    · exact q6
    · exact q7
theorem z6_node (hok : zOK s) (hm : zM6 s I A) (hk : zK6 (zF_node s x y z) I R A lo dd Φ) : zC L xs mX6_node [.ref 107, .int x, .int y, .int z] (I, R, A, lo, dd) Φ := by
  have m0 : ∀ x, zM6 s (z_up I 107 0 x) A := fun x => zM6_up hm (by omega)
  refine zC_en (vc_X6_node_0 (zh_6n hok hm (fun k n hk1 ex hn ey => zh_rg (m := 7) (by decide) (fun w hw ez => zh_ok ?_) (fun hno => zh_ng (by decide) (zK6_e hk (k := 2) (v := 0) (s' := s) ?_ (m0 _) zG6_up (zup_s.trans rfl) (fun _ => rfl)))) (fun hF => zh_ng (by decide) (zK6_e hk (hF _) (m0 _) zG6_up (zup_s.trans rfl) (fun _ => rfl)))))
  · subst ex
    subst ey
    subst ez
    have hF : zF_node s (nI k) (nI n) (nI w) = (0, zndv (sV s k) n w, s) := by
      unfold zF_node
      rw [zFn_s hok hk1 hn, zix_s (by omega) (by decide)]
    have hwf := hok.1 k hk1
    have w2 := hwf.2.1
    have hv := zM6_im hm hk1
    have E : ∀ v, zndv (sV s k) n w = v → Φ (.inl (some (.int v))) (z_up I 107 0 0, R, A, lo, dd) 0 := fun v e => zK6_e hk hF (m0 _) zG6_up (zup_s.trans rfl) (fun _ => e.symm)
    refine ⟨fun q => ?_, fun q3 => ⟨fun q => ?_, fun q6 => ?_⟩⟩
    · have q := (nI_ltI (b := 6) (by omega) (by decide)).mp q
      have hxw : (((159 : Int32) * nI k) + 15) + (6 * nI n) + nI w = nI (159 * k + 15 + 6 * n + w) := by simp (disch := omega) only [ze_lit, pk_mul, nI_add, nI_clamp, ze_inI, nI_ltI, nI_eq]
      rw [hxw, nI_clamp (by omega)]
      refine ⟨nI_in (by omega) (by omega), E _ ?_⟩
      obtain ⟨-, -, -, -, -, -, n0, n1, n2, n3, n4, n5⟩ := hv
      rcases (show w = 0 ∨ w = 1 ∨ w = 2 ∨ w = 3 ∨ w = 4 ∨ w = 5 by omega) with rfl | rfl | rfl | rfl | rfl | rfl
      · exact (n0 n hn).symm
      · exact (n1 n hn).symm
      · exact (n2 n hn).symm
      · exact (n3 n hn).symm
      · exact (n4 n hn).symm
      · exact (n5 n hn).symm
    · have := (nI_eq (b := 6) (by omega) (by decide)).mp q
      subst this
      exact s6_depthOf (by omega) hv hwf hn (zk_r (vc_X6_node_69 (E _ rfl)))
    · have : w = 7 := by
        have h1 : ¬ w < 6 := fun z => q3 (nI_lt z (by decide))
        have h2 : w ≠ 6 := fun z => q6 (by rw [z]; rfl)
        omega
      subst this
      exact s6_sizeOf (by omega) hv hwf hn (zk_r (vc_X6_node_78 (E _ rfl)))
  · unfold zF_node
    rw [ex, ey, zFn_s hok hk1 hn, zix_n (fun n hn2 => hno n (by omega))]
theorem z5_byInode (hok : zOK s) (hs : zS5 o w sp s I R A) (hk : zK0 [(0, 1), (3, 2)] (zF_byInode s x y z) I R A lo dd Φ) : zC L xs mX5_byInode [.ref 0, .int x, .int y, .int z] (I, R, A, lo, dd) Φ := by
  have hs' := hs
  obtain ⟨ho, hw, hsp, hne, ⟨r5, r6, r7⟩, -⟩ := hs'
  have g := zG5_rf I R A
  refine zi_byInode hok hs (fun k b n hb ex hn ey => ?_) (fun hF => zK0_t hk (hF _) rfl hs g)
  obtain ⟨hk1, hib, hv⟩ := zS5_im hs hb
  have hwf := hok.1 k hk1
  have w1 := hwf.1
  have w2 := hwf.2.1
  have w3 := hwf.2.2.1
  subst ex
  subst ey
  refine s2_nodeWithInode hib hv w2 (fun i hi => by have := w3 i hi; omega) (by omega) (fun j hj h1 h2 hl => zk_r (vc_X5_byInode_15 hib ⟨fun q => absurd q (fun z => ((ze_m1 (by omega)).mp z).elim), fun _ => zK0_r hk ?_ hs g⟩)) (fun hl => zk_r (vc_X5_byInode_15 hib ⟨fun _ => zK0_t hk (k := 1) (x := 0) (s' := s) ?_ rfl hs g, fun q => absurd rfl q⟩))
  · unfold zF_byInode
    rw [zFp_s hok hk1 hn, zino_s hj h1 h2 hl, if_pos hj]
  · unfold zF_byInode
    rw [zFp_s hok hk1 hn, zino_n hl, if_neg (Nat.lt_irrefl _)]
theorem z6_byInode (hok : zOK s) (hm : zM6 s I A) (hk : zK6 (zF_byInode s x y z) I R A lo dd Φ) : zC L xs mX6_byInode [.ref 107, .int x, .int y, .int z] (I, R, A, lo, dd) Φ := by
  have m0 : ∀ x, zM6 s (z_up I 107 0 x) A := fun x => zM6_up hm (by omega)
  refine zC_en (vc_X6_byInode_0 (zh_6p hok hm (fun k n hk1 ex hn ey => zh_ok ?_) (fun hF => zh_ng (by decide) (zK6_e hk (hF _) (m0 _) zG6_up (zup_s.trans rfl) (fun _ => rfl)))))
  subst ex
  subst ey
  have hwf := hok.1 k hk1
  have w1 := hwf.1
  have w2 := hwf.2.1
  have hv := zM6_im hm hk1
  refine s6_inodeIn (by omega) hv hwf (by omega) (fun j hj h1 h2 hl => zk_r (vc_X6_byInode_36 ⟨fun q => absurd q (fun z => ((ze_m1 (by omega)).mp z).elim), fun _ => zK6_e hk (k := 0) (v := nI j) (s' := s) ?_ (m0 _) zG6_up (zup_s.trans rfl) (fun _ => rfl)⟩)) (fun hl => zk_r (vc_X6_byInode_36 ⟨fun _ => zK6_e hk (k := 2) (v := 0) (s' := s) ?_ (zM6_up (m0 _) (by omega)) (zG6_tr zG6_up zG6_up) (zup_s.trans rfl) (fun _ => rfl), fun q => absurd rfl q⟩))
  · unfold zF_byInode
    rw [zFp_s hok hk1 hn, zino_s hj h1 h2 hl, if_pos hj]
  · unfold zF_byInode
    rw [zFp_s hok hk1 hn, zino_n hl, if_neg (Nat.lt_irrefl _)]
end
