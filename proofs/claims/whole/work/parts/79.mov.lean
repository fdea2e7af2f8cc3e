/-! move -/
def zpo (z : Int32) (N : Nat) : Option (Option Nat) := if z = -1 then some none else match zix z N with
  | none => none
  | some d => some (some d)
def zdm (v : zV) (n : Nat) (o : Option Nat) : Nat := zmx (vdep v) n (zte v n - n) - vdep v n + (zdo v o + 1)
def zoc (v : zV) (n : Nat) (o : Option Nat) : Prop := ∃ i, i < vN v ∧ nI i ≠ nI n ∧ vhom v i = vhom v n ∧ vpar v i = o ∧ vnd v 0 i = vnd v 0 n
def zchd (v : zV) (n : Nat) (o : Option Nat) : Prop := ∀ d, o = some d → vnd v 2 d = -1 ∧ vhom v d = vhom v n ∧ ¬ (n ≤ d ∧ d < zte v n)
noncomputable def zmve (s : zAb) (k n : Nat) (o : Option Nat) : zOc := zif (zchd (sV s k) n o) (zif (zoc (sV s k) n o ∨ 5 < zdm (sV s k) n o) (3, 0, s) (0, nI (if zbh (sV s k) n o ≤ n then zbh (sV s k) n o else zbh (sV s k) n o - (zte (sV s k) n - n)), sVw s k (zmv (sV s k) n o))) (2, 0, s)
noncomputable def zF_move (s : zAb) (x y z : Int32) : zOc := zFn s x y (fun k n => match zpo z (vN (sV s k)) with
  | none => (1, 0, s)
  | some o => zmve s k n o)
theorem zpo_lt {z : Int32} {N : Nat} {o : Option Nat} (h : zpo z N = some o) : ∀ d, o = some d → d < N := by
  intro d e
  subst e
  unfold zpo at h
  by_cases q : z = -1
  · rw [if_pos q] at h; cases h
  · rw [if_neg q] at h
    unfold zix at h
    by_cases q2 : ¬ z < 0 ∧ z.toNatClampNeg < N
    · rw [if_pos q2] at h
      cases h
      exact q2.2
    · rw [if_neg q2] at h; cases h
theorem zOK_move {s : zAb} {x y z : Int32} (h : zOK s) : zOK (zF_move s x y z).2.2 := by
  refine zFn_ok h (fun k n hk hn => ?_)
  cases ho : zpo z (vN (sV s k)) with
  | none => exact h
  | some o =>
    have hlt := zpo_lt ho
    dsimp only
    unfold zmve
    by_cases q : zchd (sV s k) n o
    · rw [zif_t q]
      by_cases q2 : zoc (sV s k) n o ∨ 5 < zdm (sV s k) n o
      · rw [zif_t q2]; exact h
      · rw [zif_f q2]
        exact zOK_ch h (zwf_mv (h.1 k hk) hn ⟨fun d e => ⟨hlt d e, q d e⟩, Nat.le_of_not_lt (fun z => q2 (Or.inr z))⟩)
    · rw [zif_f q]; exact h
def zmq (n e t N m : Nat) : Nat := min N (if t ≤ n then (if m ≤ t then m else if m ≤ n then m + (e - n) else if m ≤ e then e else m) else (if m ≤ n then m else if m ≤ e then n else if m ≤ t then m - (e - n) else m))
def zmr (n e t m : Nat) : Nat := if t ≤ n then (if m < t then m else if m ≤ n then m + (e - n) else if m ≤ e then e else m) else (if m ≤ n then m else if m < t then (if m ≤ e then n else m - (e - n)) else m)
section
variable {n e t N m : Nat}
theorem zmr_put (h1 : n < e) (h2 : e ≤ N) (h3 : t ≤ N) (h4 : t ≤ n ∨ e ≤ t) (hm : m < N) (hc : m < n ∨ e ≤ m) : zmr n e t m + 1 = zmq n e t N (m + 1) ∧ zom n (e - n) t (zmr n e t m) = m ∧ zmr n e t m < N := by
  rcases h4 with h4 | h4
  · have hr : zmr n e t m = (if m < t then m else if m ≤ n then m + (e - n) else if m ≤ e then e else m) := if_pos h4
    have hq : zmq n e t N (m + 1) = min N (if m + 1 ≤ t then m + 1 else if m + 1 ≤ n then m + 1 + (e - n) else if m + 1 ≤ e then e else m + 1) := by unfold zmq; rw [if_pos h4]
    have hz : ∀ k, zom n (e - n) t k = (if k < t then k else if k < t + (e - n) then n + (k - t) else if k < n + (e - n) then k - (e - n) else k) := fun k => if_pos h4
    rw [hz, hr, hq]
    rcases hc with hc | hc
    · by_cases a : m < t
      · rw [if_pos a, if_pos (show m + 1 ≤ t from a), if_pos a]; omega
      · rw [if_neg a, if_pos (show m ≤ n by omega), if_neg (show ¬ m + 1 ≤ t by omega), if_pos (show m + 1 ≤ n by omega), if_neg (show ¬ m + (e - n) < t by omega), if_neg (show ¬ m + (e - n) < t + (e - n) by omega), if_pos (show m + (e - n) < n + (e - n) by omega)]; omega
    · rw [if_neg (show ¬ m < t by omega), if_neg (show ¬ m ≤ n by omega), if_neg (show ¬ m + 1 ≤ t by omega), if_neg (show ¬ m + 1 ≤ n by omega), if_neg (show ¬ m + 1 ≤ e by omega)]
      have : (if m ≤ e then e else m) = m := by split <;> omega
      rw [this, if_neg (show ¬ m < t by omega), if_neg (show ¬ m < t + (e - n) by omega), if_neg (show ¬ m < n + (e - n) by omega)]
      omega
  · have h5 : ¬ t ≤ n := by omega
    have hr : zmr n e t m = (if m ≤ n then m else if m < t then (if m ≤ e then n else m - (e - n)) else m) := if_neg h5
    have hq : zmq n e t N (m + 1) = min N (if m + 1 ≤ n then m + 1 else if m + 1 ≤ e then n else if m + 1 ≤ t then m + 1 - (e - n) else m + 1) := by unfold zmq; rw [if_neg h5]
    have hz : ∀ k, zom n (e - n) t k = (if k < n then k else if k < t - (e - n) then k + (e - n) else if k < t then n + (k - (t - (e - n))) else k) := fun k => if_neg h5
    rw [hz, hr, hq]
    rcases hc with hc | hc
    · rw [if_pos (show m ≤ n by omega), if_pos (show m + 1 ≤ n by omega), if_pos hc]; omega
    · rw [if_neg (show ¬ m ≤ n by omega), if_neg (show ¬ m + 1 ≤ n by omega), if_neg (show ¬ m + 1 ≤ e by omega)]
      by_cases a : m < t
      · rw [if_pos a, if_pos (show m + 1 ≤ t from a)]
        have : (if m ≤ e then n else m - (e - n)) = m - (e - n) := by split <;> omega
        rw [this, if_neg (show ¬ m - (e - n) < n by omega), if_pos (show m - (e - n) < t - (e - n) by omega)]
        omega
      · rw [if_neg a, if_neg (show ¬ m + 1 ≤ t by omega), if_neg (show ¬ m < n by omega), if_neg (show ¬ m < t - (e - n) by omega), if_neg a]
        omega
theorem zmr_skip (h1 : n < e) (h2 : e ≤ N) (h3 : t ≤ N) (h4 : t ≤ n ∨ e ≤ t) (hm : m ≤ N) (hc : ¬ m < N ∨ (n ≤ m ∧ m < e)) : zmr n e t m = zmq n e t N (m + 1) := by
  unfold zmr zmq
  (repeat' split) <;> omega
theorem zmr_ne (h1 : n < e) (h2 : e ≤ N) (h3 : t ≤ N) (h4 : t ≤ n ∨ e ≤ t) (hm : m ≤ N) (hc : m ≠ t) : zmr n e t m = zmq n e t N m := by
  unfold zmr zmq
  (repeat' split) <;> omega
theorem zmr_t (h1 : n < e) (h2 : e ≤ N) (h3 : t ≤ N) (h4 : t ≤ n ∨ e ≤ t) : zmr n e t t = zmq n e t N t + (e - n) := by
  unfold zmr zmq
  (repeat' split) <;> omega
theorem zmq_t (h1 : n < e) (h2 : e ≤ N) (h3 : t ≤ N) (h4 : t ≤ n ∨ e ≤ t) : zmq n e t N t = if t ≤ n then t else t - (e - n) := by
  unfold zmq
  (repeat' split) <;> omega
theorem zmq_ins {j : Nat} (h1 : n < e) (h2 : e ≤ N) (h3 : t ≤ N) (h4 : t ≤ n ∨ e ≤ t) (hj : j < e - n) : zom n (e - n) t (zmq n e t N t + j) = n + j ∧ zmq n e t N t + j < N := by
  rw [zmq_t h1 h2 h3 h4]
  unfold zom
  rcases h4 with h4 | h4
  · rw [if_pos h4, if_pos h4, if_neg (by omega), if_pos (by omega)]
    omega
  · have h5 : ¬ t ≤ n := by omega
    rw [if_neg h5, if_neg h5, if_neg (show ¬ t - (e - n) + j < n by omega), if_neg (show ¬ t - (e - n) + j < t - (e - n) by omega), if_pos (show t - (e - n) + j < t by omega)]
    omega
theorem zmq_N (h1 : n < e) (h2 : e ≤ N) (h3 : t ≤ N) (h4 : t ≤ n ∨ e ≤ t) : zmq n e t N (N + 1) = N := by
  unfold zmq
  (repeat' split) <;> omega
theorem zmq_0 (h1 : n < e) : zmq n e t N 0 = 0 := by
  unfold zmq
  (repeat' split) <;> omega
theorem zmq_le : zmq n e t N m ≤ N := Nat.min_le_left _ _
end
section
variable {L : Nat} {xs : Nat → Int32} {I : Nat → Nat → Int32} {R : Nat → Nat → Option Nat} {A : Nat → Nat → Int32} {lo : Int64} {dd : UInt64} {Φ : zPo} {s : zAb} {o w sp : Nat} {x y z : Int32}
theorem z5_mv60 {k b n : Nat} {po : Option Nat} (hok : zOK s) (hs : zS5 o w sp s I R A) (hb : zsb o w k b) (hn : n < vN (sV s k)) (hlt : ∀ d, po = some d → d < vN (sV s k)) (hch : zchd (sV s k) n po) (hk : zK0 [(0, 1), (1, 2), (2, 3)] (zmve s k n po) I R A lo dd Φ) : z_in (nI n) 24 ∧ (z_in (nI n) 24 ∧ (zC L xs mX2_hasOtherChild [.ref b, .int (A (b + 9) (Int32.toNatClampNeg (nI n))), .int (zpI po), .int (A (b + 4) (Int32.toNatClampNeg (nI n))), .int (nI n)] (I, R, A, lo, dd) (z_kont [] (fun r τ Ψ => zW L xs mX5_move 60 [some (.ref 0), some (.int x), some (.int (nI n)), some (.int (zpI po)), some (.ref b)] (r.toList ++ []) τ Ψ) Φ))) := by
  have g := zG5_rf I R A
  obtain ⟨hk1, hib, hv⟩ := zS5_im hs hb
  have hwf := hok.1 k hk1
  have w1 := hwf.1
  have w2 := hwf.2.1
  have w3 := hwf.2.2.1
  have hb4 := zib_le hib
  have hin : z_in (nI n) 24 := nI_in (by omega) (by decide)
  rw [nI_clamp (by omega), hv.2.2.2.2.2.2.2.2.2.2.2.1 n hn, hv.2.2.2.2.2.2.1 n hn]
  have h5 := zmx_le5 hwf (n := n) (m := zte (sV s k) n - n) (by have := zte_le hn; have := zte_gt (sV s k) n; omega)
  have hdo : zdo (sV s k) po ≤ 5 := by
    cases po with
    | none => exact Nat.zero_le _
    | some d => exact hwf.2.2.2.2.2.1 d (hlt d rfl)
  refine ⟨hin, hin, s2_hasOtherChild hib hv w2 (fun i hi => by have := w3 i hi; omega) (fun i k' hi e => by have := zpar_lt hwf hi e; omega) (by have := w3 n hn; omega) (fun d e => by have := hlt d e; omega) (fun hex => zk_r (vc_X5_move_60 hib ⟨fun q => absurd q (by decide), fun _ => zK0_t hk (k := 2) (x := 0) (s' := s) ?_ rfl hs g⟩)) (fun hex => zk_r (vc_X5_move_60 hib ⟨fun _ => ?_, fun q => absurd rfl q⟩))⟩
  · unfold zmve
    rw [zif_t hch, zif_t (show zoc (sV s k) n po ∨ 5 < zdm (sV s k) n po from Or.inl hex)]
  · refine s2_depthAfterMove hib hv hwf hn hlt (zk_r (vc_X5_move_80 hib ⟨fun q => zK0_t hk (k := 2) (x := 0) (s' := s) ?_ rfl hs g, fun q => ?_⟩))
    · have q := (nI_ltI (a := 5) (by decide) (by omega)).mp q
      unfold zmve
      rw [zif_t hch, zif_t (Or.inr (show 5 < zdm (sV s k) n po from q))]
    · have q : ¬ 5 < zdm (sV s k) n po := fun z => q (nI_lt z (by omega))
      have hc : zcan (sV s k) n po := ⟨fun d e => ⟨hlt d e, hch d e⟩, Nat.le_of_not_lt q⟩
      refine s2_moveTree hib (cIm_fr hv (by funext j; rw [zup_n (by omega)]) (fun _ _ => rfl)) hwf hn hc (fun I' A' f1 f2 hv2 => zk_r (vc_X5_move_106 hib (zK0_r hk (s' := sVw s k (zmv (sV s k) n po)) ?_ (zS5_ch hs hb ?_ (fun c j c1 c2 => ?_) (fun c c1 => f2 c (by omega)) hv2) (fun c hc => ⟨?_, rfl, f2 c (by omega)⟩))))
      · unfold zmve
        rw [zif_t hch, zif_f (fun z => z.elim hex q)]
      · rw [f1 0 13 (by omega), zup_s]
      · rw [f1 c j (by omega), zup_n c2]
      · funext j
        rw [f1 c j (by omega), zup_n (by omega)]
theorem z5_move (hok : zOK s) (hs : zS5 o w sp s I R A) (hk : zK0 [(0, 1), (1, 2), (2, 3)] (zF_move s x y z) I R A lo dd Φ) : zC L xs mX5_move [.ref 0, .int x, .int y, .int z] (I, R, A, lo, dd) Φ := by
  have hs' := hs
  obtain ⟨ho, hw, hsp, hne, ⟨r5, r6, r7⟩, -⟩ := hs'
  have g := zG5_rf I R A
  refine zi_move hok hs (fun k b n hb ex hn ey => ?_) (fun hF => zK0_t hk (hF _) rfl hs g)
  obtain ⟨hk1, hib, hv⟩ := zS5_im hs hb
  have hwf := hok.1 k hk1
  have w2 := hwf.2.1
  subst ex
  subst ey
  have hF : zF_move s (nI k) (nI n) z = (match zpo z (vN (sV s k)) with
    | none => (1, 0, s)
    | some o => zmve s k n o) := zFn_s hok hk1 hn
  refine ⟨fun q => ?_, fun q => ?_⟩
  · have hp : zpo z (vN (sV s k)) = some none := if_pos q
    rw [hp] at hF
    have e : z = zpI none := q
    rw [hF] at hk
    rw [e]
    exact z5_mv60 hok hs hb hn (fun d e => by cases e) (fun d e => by cases e) hk
  · rw [hv.2.2.1]
    refine zh_nd (by omega) (fun d hd ez => ?_) (fun hno => zK0_t hk (k := 0) (x := 0) (s' := s) ?_ rfl hs g)
    · have hp : zpo z (vN (sV s k)) = some (some d) := by
        unfold zpo
        rw [if_neg q, ez, zix_s hd (by omega)]
      rw [hp] at hF
      dsimp only at hF
      rw [hF] at hk
      subst ez
      refine s2_canHold hib hv hwf hn hd (fun hc => zk_r (vc_X5_move_26 hib ⟨fun q => absurd q (by decide), fun _ => ?_⟩)) (fun hc => zk_r (vc_X5_move_26 hib ⟨fun _ => zK0_t hk (k := 1) (x := 0) (s' := s) ?_ rfl hs g, fun q => absurd rfl q⟩))
      · exact z5_mv60 (po := some d) hok hs hb hn (fun d' e => by cases e; exact hd) (fun d' e => by cases e; exact hc) hk
      · unfold zmve
        rw [zif_f (fun z => hc (z d rfl))]
    · rw [hF]
      have hp : zpo z (vN (sV s k)) = none := by
        unfold zpo
        rw [if_neg q, zix_n hno]
      rw [hp]
theorem s6_isNoParent {k n : Nat} {v : zV} {po : Option Nat} (hk1 : k ≤ 1) (hv : mIm k v A) (hwf : zwf v) (hn : n < vN v) (hlt : ∀ d, po = some d → d < vN v) (h0 : zchd v n po → Φ (.inl (some (.int 0))) (I, R, A, lo, dd) 0) (h1 : ¬ zchd v n po → Φ (.inl (some (.int 1))) (I, R, A, lo, dd) 0) : zC L xs mX6_isNoParent [.ref 107, .int (nI k), .int (nI n), .int (zpI po)] (I, R, A, lo, dd) Φ := by
  have w1 := hwf.1
  have w2 := hwf.2.1
  have w3 := hwf.2.2.1
  cases po with
  | none => exact zC_en (vc_X6_isNoParent_0 ⟨fun _ => h0 (fun d e => by cases e), fun q => absurd rfl q⟩)
  | some d =>
    have hd := hlt d rfl
    have a1 := w3 d hd
    have a2 := w3 n hn
    refine zC_en (vc_X6_isNoParent_0 ⟨fun q => ((ze_m1 (by omega)).mp q).elim, fun _ => ?_⟩)
    have e2 : ((159 * nI k) + 15 + (6 * nI d) + 2 : Int32) = nI (159 * k + 15 + 6 * d + 2) := by simp (disch := omega) only [ze_lit, pk_mul, nI_add, nI_clamp, ze_inI, nI_ltI, nI_eq]
    have e5 : ((159 * nI k) + 15 + (6 * nI d) + 5 : Int32) = nI (159 * k + 15 + 6 * d + 5) := by simp (disch := omega) only [ze_lit, pk_mul, nI_add, nI_clamp, ze_inI, nI_ltI, nI_eq]
    have e6 : ((159 * nI k) + 15 + (6 * nI n) + 5 : Int32) = nI (159 * k + 15 + 6 * n + 5) := by simp (disch := omega) only [ze_lit, pk_mul, nI_add, nI_clamp, ze_inI, nI_ltI, nI_eq]
    show z_in ((159 * nI k) + 15 + (6 * nI d) + 2 : Int32) 477 ∧ _
    dsimp only [zpI]
    rw [e2, e5, e6, nI_clamp (by omega), nI_clamp (by omega), nI_clamp (by omega), hv.2.2.2.2.2.2.2.2.1 d hd, hv.2.2.2.2.2.2.2.2.2.2.2 d hd, hv.2.2.2.2.2.2.2.2.2.2.2 n hn]
    refine ⟨nI_in (by omega) (by decide), fun q => ⟨nI_in (by omega) (by decide), nI_in (by omega) (by decide), fun q2 => ?_, fun q2 => h1 (fun z => q2 (by rw [(z d rfl).2.1]))⟩, fun q => h1 (fun z => q (z d rfl).1)⟩
    have q2 := (nI_eq (by omega) (by omega)).mp q2
    exact s6_isWithin (by omega) hv hwf hd hn (fun hin => zk_r (vc_X6_isNoParent_38 ⟨fun z => absurd z (by decide), fun _ => h1 (fun z => (z d rfl).2.2 hin)⟩)) (fun hin => zk_r (vc_X6_isNoParent_38 ⟨fun _ => h0 (fun d' e => by cases e; exact ⟨q, q2, hin⟩), fun z => absurd rfl z⟩))
theorem s6_isNoPlace {k n : Nat} {v : zV} {po : Option Nat} (hk1 : k ≤ 1) (hv : mIm k v A) (hwf : zwf v) (hn : n < vN v) (hlt : ∀ d, po = some d → d < vN v) (h1 : zoc v n po ∨ 5 < zdm v n po → Φ (.inl (some (.int 1))) (I, R, A, lo, dd) 0) (h0 : ¬ (zoc v n po ∨ 5 < zdm v n po) → Φ (.inl (some (.int 0))) (I, R, A, lo, dd) 0) : zC L xs mX6_isNoPlace [.ref 107, .int (nI k), .int (nI n), .int (zpI po)] (I, R, A, lo, dd) Φ := by
  have w1 := hwf.1
  have w2 := hwf.2.1
  have w3 := hwf.2.2.1
  have a2 := w3 n hn
  have h5 := zmx_le5 hwf (n := n) (m := zte v n - n) (by have := zte_le hn; have := zte_gt v n; omega)
  have hdo : zdo v po ≤ 5 := by
    cases po with
    | none => exact Nat.zero_le _
    | some d => exact hwf.2.2.2.2.2.1 d (hlt d rfl)
  have e0 : ((159 * nI k) + 15 + (6 * nI n) + 0 : Int32) = nI (159 * k + 15 + 6 * n + 0) := by simp (disch := omega) only [ze_lit, pk_mul, nI_add, nI_clamp, ze_inI, nI_ltI, nI_eq]
  have e5 : ((159 * nI k) + 15 + (6 * nI n) + 5 : Int32) = nI (159 * k + 15 + 6 * n + 5) := by simp (disch := omega) only [ze_lit, pk_mul, nI_add, nI_clamp, ze_inI, nI_ltI, nI_eq]
  have i0 : z_in (nI (159 * k + 15 + 6 * n + 0)) 477 := nI_in (by omega) (by decide)
  have i5 : z_in (nI (159 * k + 15 + 6 * n + 5)) 477 := nI_in (by omega) (by decide)
  have key : zC L xs mX6_hasChild [.ref 107, .int (nI k), .int (nI (vhom v n)), .int (zpI po), .int (vnd v 0 n), .int (nI n)] (I, R, A, lo, dd) (z_kont [] (fun r τ Ψ => zW L xs mX6_isNoPlace 38 [some (.ref 107), some (.int (nI k)), some (.int (nI n)), some (.int (zpI po)), some (.int (nI (zdo v po)))] (r.toList ++ []) τ Ψ) Φ) := by
    refine s6_hasChild (by omega) hv hwf (by omega) (fun d e => by have := hlt d e; omega) (fun hex => zk_r (vc_X6_isNoPlace_38 ⟨fun q => absurd q (by decide), fun _ => h1 (Or.inl hex)⟩)) (fun hex => zk_r (vc_X6_isNoPlace_38 ⟨fun _ => ?_, fun q => absurd rfl q⟩))
    rw [nI_1]
    refine s6_depthIn (by omega) hv hwf hn (zk_r (vc_X6_isNoPlace_51 ?_))
    have e : nI (zdo v po + 1) + nI (zmx (vdep v) n (zte v n - n) - vdep v n) = nI (zdm v n po) := by
      rw [nI_add]
      unfold zdm
      rw [Nat.add_comm]
    rw [e]
    exact ⟨fun q => h1 (Or.inr ((nI_ltI (a := 5) (by decide) (by unfold zdm; omega)).mp q)), fun q => h0 (fun z => z.elim hex (fun z => q (nI_lt z (by unfold zdm; omega))))⟩
  refine zC_en (vc_X6_isNoPlace_0 ⟨fun q => ?_, fun q => ?_⟩)
  · rw [e0, e5, nI_clamp (by omega), nI_clamp (by omega), hv.2.2.2.2.2.2.1 n hn, hv.2.2.2.2.2.2.2.2.2.2.2 n hn]
    cases po with
    | none => exact ⟨i5, i0, key⟩
    | some d => exact ((ze_m1 (by have := hlt d rfl; omega)).mp q).elim
  · cases po with
    | none => exact absurd rfl q
    | some d =>
      refine s6_depthOf (by omega) hv hwf (hlt d rfl) (zk_r (vc_X6_isNoPlace_15 ?_))
      rw [e0, e5, nI_clamp (by omega), nI_clamp (by omega), hv.2.2.2.2.2.2.1 n hn, hv.2.2.2.2.2.2.2.2.2.2.2 n hn]
      exact ⟨i5, i0, key⟩
theorem mIm_mvd {k n nw : Nat} {v : zV} {po : Option Nat} {A : Nat → Nat → Int32} (hwf : zwf v) (hn : n < vN v) (hc : zcan v n po) (hnw : nw = if zbh v n po ≤ n then zbh v n po else zbh v n po - (zte v n - n)) (h : mIm k (zrn v (zom n (zte v n - n) (zbh v n po)) (vN v)) A) : mIm k (zmv v n po) (z_up A 108 (159 * k + 15 + 6 * nw + 4) (zpI (po.bind (zpl (zom n (zte v n - n) (zbh v n po)) (vN v))))) := by
  have hg := zte_gt v n
  have hl := zte_le hn
  obtain ⟨b1, b2, -⟩ := zbh_ok hwf hn hc
  obtain ⟨o1, o2, -, -, -, -, o7, o8⟩ := zom_ok hg hl b1 b2
  rw [← hnw] at o7 o8
  have w1 := hwf.1
  obtain ⟨m0, m1, m2, p0, p1, p2, n0, n1, n2, n3, n4, n5⟩ := h
  have hp : ∀ p, p < vP v → p < 4 := fun p hp => by
    have : p < vP v := hp
    omega
  refine ⟨by rw [zup_n (by omega)]; exact m0, by rw [zup_n (by omega)]; exact m1, by rw [zup_n (by omega)]; exact m2, fun p hq => by have := hp p hq; rw [zup_n (by omega)]; exact p0 p hq, fun p hq => by have := hp p hq; rw [zup_n (by omega)]; exact p1 p hq, fun p hq => by have := hp p hq; rw [zup_n (by omega)]; exact p2 p hq, fun i hi => by rw [zup_n (by omega)]; exact n0 i hi, fun i hi => by rw [zup_n (by omega)]; exact n1 i hi, fun i hi => by rw [zup_n (by omega)]; exact n2 i hi, fun i hi => by rw [zup_n (by omega)]; exact n3 i hi, fun i hi => ?_, fun i hi => by rw [zup_n (by omega)]; exact n5 i hi⟩
  have e : vpar (zmv v n po) i = (if zom n (zte v n - n) (zbh v n po) i = n then po else vpar v (zom n (zte v n - n) (zbh v n po) i)).bind (zpl (zom n (zte v n - n) (zbh v n po)) (vN v)) := rfl
  rw [e]
  by_cases q : i = nw
  · rw [q, zup_s, o7, if_pos rfl]
  · rw [zup_n (by omega), if_neg (fun z => q (o2 i nw hi o8 (z.trans o7.symm)))]
    exact n4 i hi
theorem z6_move (hok : zOK s) (hm : zM6 s I A) (hk : zK6 (zF_move s x y z) I R A lo dd Φ) : zC L xs mX6_move [.ref 107, .int x, .int y, .int z] (I, R, A, lo, dd) Φ := by
  have m0 : ∀ x, zM6 s (z_up I 107 0 x) A := fun x => zM6_up hm (by omega)
  -- behind the two checks
  have main : ∀ k n po, k ≤ 1 → n < vN (sV s k) → (∀ d, po = some d → d < vN (sV s k)) → zK6 (zmve s k n po) I R A lo dd Φ → zC L xs mX6_isNoParent [.ref 107, .int (nI k), .int (nI n), .int (zpI po)] (I, R, A, lo, dd) (z_kont [] (fun r τ Ψ => zW L xs mX6_move 35 [some (.ref 107), some (.int (nI k)), some (.int (nI n)), some (.int (zpI po)), none, none, none, none, none, none, none] (r.toList ++ [.ref 107]) τ Ψ) Φ) := by
    intro k n po hk1 hn hlt hk
    have hwf := hok.1 k hk1
    have w1 := hwf.1
    have w2 := hwf.2.1
    have w3 := hwf.2.2.1
    have hv := zM6_im hm hk1
    refine s6_isNoParent hk1 hv hwf hn hlt (fun hch => zk_r (vc_X6_move_35 ⟨fun _ => ?_, fun q => absurd rfl q⟩)) (fun hch => zk_r (vc_X6_move_35 ⟨fun q => absurd q (by decide), fun _ => zh_ng (by decide) (zK6_e hk (k := 2) (v := 0) (s' := s) ?_ (m0 _) zG6_up (zup_s.trans rfl) (fun _ => rfl))⟩))
    · refine s6_isNoPlace hk1 hv hwf hn hlt (fun hbd => zk_r (vc_X6_move_49 ⟨fun q => absurd q (by decide), fun _ => zh_ng (by decide) (zK6_e hk (k := 3) (v := 0) (s' := s) ?_ (m0 _) zG6_up (zup_s.trans rfl) (fun _ => rfl))⟩)) (fun hbd => zk_r (vc_X6_move_49 ⟨fun _ => zh_ok ?_, fun q => absurd rfl q⟩))
      · unfold zmve
        rw [zif_t hch, zif_t hbd]
      · have hF : zmve s k n po = (0, nI (if zbh (sV s k) n po ≤ n then zbh (sV s k) n po else zbh (sV s k) n po - (zte (sV s k) n - n)), sVw s k (zmv (sV s k) n po)) := by
          unfold zmve
          rw [zif_t hch, zif_f hbd]
        have hc : zcan (sV s k) n po := ⟨fun d e => ⟨hlt d e, hch d e⟩, Nat.le_of_not_lt (fun z => hbd (Or.inr z))⟩
        have hg := zte_gt (sV s k) n
        have hl := zte_le hn
        obtain ⟨b1, b2, -⟩ := zbh_ok hwf hn hc
        obtain ⟨o1, o2, -, -, -, -, o7, o8⟩ := zom_ok hg hl b1 b2
        refine s6_sizeOf (by omega) hv hwf hn (zk_r (vc_X6_move_75 ?_))
        refine s6_behind (by omega) hv hwf hn hlt (zk_r (vc_X6_move_84 ?_))
        have hix : ((159 : Int32) * nI k) + 2 = nI (159 * k + 2) := by simp (disch := omega) only [ze_lit, pk_mul, nI_add, nI_clamp, ze_inI, nI_ltI, nI_eq]
        rw [hix, nI_clamp (by omega), hv.2.2.1]
        refine ⟨nI_in (by omega) (by decide), ?_⟩
        have hmvd := fun A' => mIm_mvd (k := k) (A := A') hwf hn hc rfl
        obtain ⟨t, ht⟩ : ∃ t, t = zbh (sV s k) n po := ⟨_, rfl⟩
        obtain ⟨e, he⟩ : ∃ e, e = zte (sV s k) n := ⟨_, rfl⟩
        rw [← ht] at hF hmvd b1 b2 o1 o2 o7 o8 ⊢
        rw [← he] at hF hmvd b2 o1 o2 o7 o8 hg hl ⊢
        obtain ⟨nw, hnw⟩ : ∃ nw, nw = if t ≤ n then t else t - (e - n) := ⟨_, rfl⟩
        rw [← hnw] at hF hmvd o7 o8
        have hnw2 : t ≤ n ∧ nw = t ∨ e ≤ t ∧ nw = t - (e - n) := by
          rw [hnw]
          split <;> omega
        obtain ⟨r, fr⟩ : ∃ r : Nat → Nat, r = zmr n e t := ⟨_, rfl⟩
        obtain ⟨Q, fQ⟩ : ∃ Q : Nat → Nat, Q = zmq n e t (vN (sV s k)) := ⟨_, rfl⟩
        have fput : ∀ m, m < vN (sV s k) → (m < n ∨ e ≤ m) → r m + 1 = Q (m + 1) ∧ zom n (e - n) t (r m) = m ∧ r m < vN (sV s k) := fun m c1 c2 => by rw [fr, fQ]; exact zmr_put hg hl b1 b2 c1 c2
        have fskip : ∀ m, m ≤ vN (sV s k) → (¬ m < vN (sV s k) ∨ (n ≤ m ∧ m < e)) → r m = Q (m + 1) := fun m c1 c2 => by rw [fr, fQ]; exact zmr_skip hg hl b1 b2 c1 c2
        have fne : ∀ m, m ≤ vN (sV s k) → m ≠ t → r m = Q m := fun m c1 c2 => by rw [fr, fQ]; exact zmr_ne hg hl b1 b2 c1 c2
        have ft : r t = Q t + (e - n) := by rw [fr, fQ]; exact zmr_t hg hl b1 b2
        have fnw : Q t = nw := by rw [fQ, hnw]; exact zmq_t hg hl b1 b2
        have fins : ∀ j, j < e - n → zom n (e - n) t (Q t + j) = n + j ∧ Q t + j < vN (sV s k) := fun j c1 => by rw [fQ]; exact zmq_ins hg hl b1 b2 c1
        have fN : Q (vN (sV s k) + 1) = vN (sV s k) := by rw [fQ]; exact zmq_N hg hl b1 b2
        have f0 : Q 0 = 0 := by rw [fQ]; exact zmq_0 hg
        have fle : ∀ m, Q m ≤ vN (sV s k) := fun m => by rw [fQ]; exact zmq_le
        have hs1 : (nI n + nI (e - n)) - 1 = nI (e - 1) := by
          rw [nI_add, show (1 : Int32) = nI 1 from rfl, ze_sub (by omega)]
          congr 1
          omega
        clear fr fQ hnw
        -- one element, not of the tree's own place
        have step : ∀ (m : Nat) (A' : Nat → Nat → Int32) (x8 : Nat) (lz : Option Value), m ≤ vN (sV s k) → (∀ c, c ≠ 112 → A' c = A c) → (∀ i, i < r m → A' 112 i = nI (zom n (e - n) t i)) → (∀ (A'' : Nat → Nat → Int32), (∀ c, c ≠ 112 → A'' c = A c) → (∀ i, i < Q (m + 1) → A'' 112 i = nI (zom n (e - n) t i)) → zW L xs mX6_move 102 [some (.ref 107), some (.int (nI k)), some (.int (nI n)), some (.int (zpI po)), some (.int (nI (e - n))), some (.int (nI t)), some (.int (nI (vN (sV s k)))), some (.int (nI (Q (m + 1)))), some (.int (nI x8)), some (.int (nI (m + 1))), lz] [] (z_up I 107 0 0, R, A'', lo, dd) Φ) → (((nI m : Int32) < nI (vN (sV s k)) → ((nI m : Int32) < nI n → z_in (nI (r m)) 24 ∧ (zW L xs mX6_move 102 [some (.ref 107), some (.int (nI k)), some (.int (nI n)), some (.int (zpI po)), some (.int (nI (e - n))), some (.int (nI t)), some (.int (nI (vN (sV s k)))), some (.int (nI (r m) + 1)), some (.int (nI x8)), some (.int (nI m + 1)), lz] [] (z_up I 107 0 0, R, (z_up A' 112 (Int32.toNatClampNeg (nI (r m))) (nI m)), lo, dd) Φ)) ∧ (¬ (nI m : Int32) < nI n → (((nI n + nI (e - n)) - 1 : Int32) < nI m → z_in (nI (r m)) 24 ∧ (zW L xs mX6_move 102 [some (.ref 107), some (.int (nI k)), some (.int (nI n)), some (.int (zpI po)), some (.int (nI (e - n))), some (.int (nI t)), some (.int (nI (vN (sV s k)))), some (.int (nI (r m) + 1)), some (.int (nI x8)), some (.int (nI m + 1)), lz] [] (z_up I 107 0 0, R, (z_up A' 112 (Int32.toNatClampNeg (nI (r m))) (nI m)), lo, dd) Φ)) ∧ (¬ ((nI n + nI (e - n)) - 1 : Int32) < nI m → zW L xs mX6_move 102 [some (.ref 107), some (.int (nI k)), some (.int (nI n)), some (.int (zpI po)), some (.int (nI (e - n))), some (.int (nI t)), some (.int (nI (vN (sV s k)))), some (.int (nI (r m))), some (.int (nI x8)), some (.int (nI m + 1)), lz] [] (z_up I 107 0 0, R, A', lo, dd) Φ))) ∧ (¬ (nI m : Int32) < nI (vN (sV s k)) → zW L xs mX6_move 102 [some (.ref 107), some (.int (nI k)), some (.int (nI n)), some (.int (zpI po)), some (.int (nI (e - n))), some (.int (nI t)), some (.int (nI (vN (sV s k)))), some (.int (nI (r m))), some (.int (nI x8)), some (.int (nI m + 1)), lz] [] (z_up I 107 0 0, R, A', lo, dd) Φ)) := by
          intro m A' x8 lz hmN h1 h2 ih
          rw [hs1, nI_1, nI_1, nI_ltI (by omega) (by omega), nI_ltI (by omega) (by omega), nI_ltI (by omega) (by omega)]
          have put : m < vN (sV s k) → (m < n ∨ e ≤ m) → z_in (nI (r m)) 24 ∧ (zW L xs mX6_move 102 [some (.ref 107), some (.int (nI k)), some (.int (nI n)), some (.int (zpI po)), some (.int (nI (e - n))), some (.int (nI t)), some (.int (nI (vN (sV s k)))), some (.int (nI (r m + 1))), some (.int (nI x8)), some (.int (nI (m + 1))), lz] [] (z_up I 107 0 0, R, (z_up A' 112 (Int32.toNatClampNeg (nI (r m))) (nI m)), lo, dd) Φ) := by
            intro c1 c2
            obtain ⟨p1, p2, p3⟩ := fput m c1 c2
            rw [nI_clamp (by omega), p1]
            refine ⟨nI_in (by omega) (by decide), ih _ (fun c hc => ?_) (fun i hi => ?_)⟩
            · funext j
              rw [zup_n (fun z => hc z.1)]
              exact congrFun (h1 c hc) j
            · by_cases e4 : i = r m
              · rw [e4, zup_s, p2]
              · rw [zup_n (fun z => e4 z.2)]
                exact h2 i (by omega)
          have skip : (¬ m < vN (sV s k) ∨ (n ≤ m ∧ m < e)) → zW L xs mX6_move 102 [some (.ref 107), some (.int (nI k)), some (.int (nI n)), some (.int (zpI po)), some (.int (nI (e - n))), some (.int (nI t)), some (.int (nI (vN (sV s k)))), some (.int (nI (r m))), some (.int (nI x8)), some (.int (nI (m + 1))), lz] [] (z_up I 107 0 0, R, A', lo, dd) Φ := by
            intro c
            have e1 := fskip m hmN c
            rw [e1] at h2 ⊢
            exact ih A' h1 h2
          exact ⟨fun c1 => ⟨fun c2 => put c1 (Or.inl c2), fun c2 => ⟨fun c3 => put c1 (Or.inr (by omega)), fun c3 => skip (Or.inr (by omega))⟩⟩, fun c1 => skip (Or.inl c1)⟩
        have key : ∀ m, m ≤ vN (sV s k) + 1 → ∀ (x8 : Nat) (A' : Nat → Nat → Int32) (lz : Option Value), (m ≤ t ∨ x8 = nw) → (∀ c, c ≠ 112 → A' c = A c) → (∀ i, i < Q m → A' 112 i = nI (zom n (e - n) t i)) → zW L xs mX6_move 102 [some (.ref 107), some (.int (nI k)), some (.int (nI n)), some (.int (zpI po)), some (.int (nI (e - n))), some (.int (nI t)), some (.int (nI (vN (sV s k)))), some (.int (nI (Q m))), some (.int (nI x8)), some (.int (nI (m))), lz] [] (z_up I 107 0 0, R, A', lo, dd) Φ := by
          refine ze_up ?_ ?_
          · intro x8 A' lz h8 h1 h2
            have h8 : x8 = nw := by omega
            subst h8
            rw [fN] at h2 ⊢
            have hv' : mIm k (sV s k) A' := mIm_fr hv (h1 _ (by omega))
            refine vc_X6_move_102 ⟨fun _ => ?_, fun z => absurd (nI_lt (by omega) (by omega)) z⟩
            refine s6_renumbers hk1 hv' w1 w2 (fun i hi => by have := w3 i hi; omega) (fun i p hi e => (zpar_lt hwf hi e).2) (by omega) (fun i hi => ⟨h2 i hi, o1 i hi⟩) (fun A'' f1 f2 hv2 => zk_r (vc_X6_move_197 ?_))
            refine s6_newNumber (by omega) (fun i hi => ⟨by rw [f1 112 (by decide)]; exact h2 i hi, by have := o1 i hi; omega⟩) (fun d e => by have := hlt d e; omega) (zk_r (vc_X6_move_215 ?_))
            have e4 : ((159 * nI k) + 15 + (6 * nI x8) + 4 : Int32) = nI (159 * k + 15 + 6 * x8 + 4) := by simp (disch := omega) only [ze_lit, pk_mul, nI_add, nI_clamp, ze_inI, nI_ltI, nI_eq]
            rw [e4, nI_clamp (by omega)]
            refine ⟨nI_in (by omega) (by decide), zK6_e hk hF (zM6_ch hok hm hk1 (fun j hj => by rw [zup_n (by omega)]) (fun c c1 c2 => ?_) (fun j hj hj2 => ?_) (hmvd A'' hv2)) (fun c hc => ⟨by funext j; rw [zup_n (by omega)], ?_⟩) (zup_s.trans rfl) (fun _ => rfl)⟩
            · funext j
              rw [zup_n (by omega), f1 c (by omega), h1 c (by omega)]
            · rw [zup_n (by omega), f2 j hj2 hj, h1 108 (by decide)]
            · funext j
              rw [zup_n (by omega), f1 c (by omega), h1 c (by omega)]
          · intro m hmN ih x8 A' lz h8 h1 h2
            refine vc_X6_move_102 ⟨fun z => absurd ((nI_ltI (by omega) (by omega)).mp z) (by omega), fun _ => ⟨fun q1 => ?_, fun q1 => ?_⟩⟩
            · have q1 := (nI_eq (by omega) (by omega)).mp q1
              subst q1
              have ins : ∀ j, j ≤ e - n → ∀ A'' : Nat → Nat → Int32, (∀ c, c ≠ 112 → A'' c = A c) → (∀ i, i < Q m + j → A'' 112 i = nI (zom n (e - n) m i)) → zW L xs mX6_move 123 [some (.ref 107), some (.int (nI k)), some (.int (nI n)), some (.int (zpI po)), some (.int (nI (e - n))), some (.int (nI m)), some (.int (nI (vN (sV s k)))), some (.int (nI (Q m + j))), some (.int (nI (Q m))), some (.int (nI m)), some (.int (nI (n + j)))] [] (z_up I 107 0 0, R, A'', lo, dd) Φ := by
                refine ze_up ?_ ?_
                · intro A'' g1 g2
                  refine vc_X6_move_123 ⟨fun z => absurd ((nI_ltI (a := n + (e - n)) (b := n + (e - n)) (by omega) (by omega)).mp (by rw [nI_add] at z; exact z)) (Nat.lt_irrefl _), fun _ => ?_⟩
                  rw [← ft] at g2 ⊢
                  exact step m A'' (Q m) _ (by omega) g1 g2 (fun A3 c2 c3 => ih (Q m) A3 _ (Or.inr fnw) c2 c3)
                · intro j hj ih2 A'' g1 g2
                  obtain ⟨z1, z2⟩ := fins j hj
                  refine vc_X6_move_123 ⟨fun _ => ?_, fun z => absurd (by rw [nI_add]; exact nI_lt (by omega) (by omega)) z⟩
                  rw [nI_1, nI_1, nI_clamp (by omega)]
                  refine ⟨nI_in (by omega) (by decide), ih2 _ (fun c hc => ?_) (fun i hi => ?_)⟩
                  · funext y
                    rw [zup_n (fun z => hc z.1)]
                    exact congrFun (g1 c hc) y
                  · by_cases e4 : i = Q m + j
                    · rw [e4, zup_s, z1]
                    · rw [zup_n (fun z => e4 z.2)]
                      exact g2 i (by omega)
              exact ins 0 (Nat.zero_le _) A' h1 h2
            · have q1 : m ≠ t := fun z => q1 (by rw [z])
              have e1 := fne m (by omega) q1
              rw [← e1] at h2 ⊢
              exact step m A' x8 lz (by omega) h1 h2 (fun A3 c2 c3 => ih x8 A3 _ (by omega) c2 c3)
        have := key 0 (Nat.zero_le _) 0 A none (Or.inl (Nat.zero_le _)) (fun _ _ => rfl) (fun i hi => absurd hi (by rw [f0]; exact Nat.not_lt_zero i))
        rw [f0] at this
        exact this
    · unfold zmve
      rw [zif_f hch]
  refine zC_en (vc_X6_move_0 (zh_6n hok hm (fun k n hk1 ex hn ey => ⟨fun q => ?_, fun q => zh_6n hok hm (fun k' d hk' ex' hd ez => ?_) (fun hF => zh_ng (by decide) (zK6_e hk (k := 1) (v := 0) (s' := s) ?_ (m0 _) zG6_up (zup_s.trans rfl) (fun _ => rfl)))⟩) (fun hF => zh_ng (by decide) (zK6_e hk (hF _) (m0 _) zG6_up (zup_s.trans rfl) (fun _ => rfl)))))
  · subst ex
    subst ey
    have hF : zF_move s (nI k) (nI n) z = (match zpo z (vN (sV s k)) with
      | none => (1, 0, s)
      | some o => zmve s k n o) := zFn_s hok hk1 hn
    have hp : zpo z (vN (sV s k)) = some none := if_pos q
    rw [hp] at hF
    rw [hF] at hk
    rw [show z = zpI none from q]
    exact main k n none hk1 hn (fun d e => by cases e) hk
  · subst ex
    subst ey
    have hkk : k' = k := ((nI_eq (by omega) (by omega)).mp ex').symm
    subst hkk
    have w2 := (hok.1 k' hk1).2.1
    have hF : zF_move s (nI k') (nI n) z = (match zpo z (vN (sV s k')) with
      | none => (1, 0, s)
      | some o => zmve s k' n o) := zFn_s hok hk1 hn
    have hp : zpo z (vN (sV s k')) = some (some d) := by
      unfold zpo
      rw [if_neg q, ez, zix_s hd (by omega)]
    rw [hp] at hF
    rw [hF] at hk
    rw [show z = zpI (some d) from ez]
    exact main k' n (some d) hk1 hn (fun d' e => by cases e; exact hd) hk
  · have hF2 : zF_move s (nI k) (nI n) z = (match zpo z (vN (sV s k)) with
      | none => (1, 0, s)
      | some o => zmve s k n o) := zFn_s hok hk1 hn
    have hp : zpo z (vN (sV s k)) = none := by
      unfold zpo
      rw [if_neg q]
      cases hz : zix z (vN (sV s k)) with
      | none => rfl
      | some d =>
        have := hF (fun _ _ => (7, 0, s))
        unfold zFn at this
        rw [ex, zFi_s hk1, hz] at this
        cases this
    rw [ex, ey, hF2, hp]
end
