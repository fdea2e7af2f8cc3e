/-! an image as such: size, number of partitions, of nodes, rows of partitions, rows of nodes, parents, homes, depths -/
abbrev zV : Type := Int32 × Nat × Nat × (Nat → Nat → Int32) × (Nat → Nat → Int32) × (Nat → Option Nat) × (Nat → Nat) × (Nat → Nat)
abbrev vS (v : zV) : Int32 := v.1
abbrev vP (v : zV) : Nat := v.2.1
abbrev vN (v : zV) : Nat := v.2.2.1
abbrev vpt (v : zV) : Nat → Nat → Int32 := v.2.2.2.1
abbrev vnd (v : zV) : Nat → Nat → Int32 := v.2.2.2.2.1
abbrev vpar (v : zV) : Nat → Option Nat := v.2.2.2.2.2.1
abbrev vhom (v : zV) : Nat → Nat := v.2.2.2.2.2.2.1
abbrev vdep (v : zV) : Nat → Nat := v.2.2.2.2.2.2.2
/-- the code of a name of 1 to 6 letters -/
def zok (c : Nat) : Prop := 0 < c ∧ c < 387420489 ∧ ∀ k, 27 ^ k ≤ c → c / 27 ^ k % 27 ≠ 0
def znm (x : Int32) : Prop := ∃ c, x = nI c ∧ zok c
def zwf (v : zV) : Prop := vP v ≤ 4 ∧ vN v ≤ 24 ∧ (∀ n, n < vN v → vhom v n < vP v) ∧ (∀ n p, n < vN v → vpar v n = some p → p < n ∧ vhom v p = vhom v n ∧ vdep v n = vdep v p + 1 ∧ vnd v 2 p = -1 ∧ ∀ k, p < k → k < n → vdep v n ≤ vdep v k) ∧ (∀ n, n < vN v → vpar v n = none → vdep v n = 1) ∧ (∀ n, n < vN v → vdep v n ≤ 5) ∧ (∀ i j, i < j → j < vN v → vhom v i ≤ vhom v j) ∧ (∀ n, n < vN v → znm (vnd v 0 n)) ∧ (∀ p, p < vP v → znm (vpt v 0 p))
/-- the class's rows at b hold the image -/
def cIm (b : Nat) (v : zV) (I A : Nat → Nat → Int32) : Prop := I b 0 = vS v ∧ I b 1 = nI (vP v) ∧ I b 5 = nI (vN v) ∧ (∀ p, p < vP v → A (b + 1) p = vpt v 0 p) ∧ (∀ p, p < vP v → A (b + 2) p = vpt v 1 p) ∧ (∀ p, p < vP v → A (b + 3) p = vpt v 2 p) ∧ (∀ n, n < vN v → A (b + 4) n = vnd v 0 n) ∧ (∀ n, n < vN v → A (b + 5) n = vnd v 1 n) ∧ (∀ n, n < vN v → A (b + 6) n = vnd v 2 n) ∧ (∀ n, n < vN v → A (b + 7) n = vnd v 3 n) ∧ (∀ n, n < vN v → A (b + 8) n = zpI (vpar v n)) ∧ (∀ n, n < vN v → A (b + 9) n = nI (vhom v n)) ∧ (∀ n, n < vN v → A (b + 10) n = nI (vdep v n))
/-- up to the first of which f isn't true -/
def zwh (f : Nat → Bool) : Nat → Nat → Nat
  | _, 0 => 0
  | k, m + 1 => if f k then zwh f (k + 1) m + 1 else 0
def zte (v : zV) (n : Nat) : Nat := n + 1 + zwh (fun k => decide (vhom v k = vhom v n) && decide (vdep v n < vdep v k)) (n + 1) (vN v - (n + 1))
def zpe (v : zV) (p : Nat) : Nat := zwh (fun k => decide (vhom v k ≤ p)) 0 (vN v)
def zmx (f : Nat → Nat) (i : Nat) : Nat → Nat
  | 0 => 0
  | k + 1 => max (zmx f i k) (f (i + k))
def zfs (v : zV) : Nat → Int32
  | 0 => vS v
  | n + 1 => zfs v n - vpt v 2 n
theorem zwh_le (f : Nat → Bool) : ∀ k m, zwh f k m ≤ m := by
  intro k m
  induction m generalizing k with
  | zero => exact Nat.le_refl _
  | succ m ih =>
    unfold zwh
    split
    · have := ih (k + 1)
      omega
    · omega
theorem zwh_t {f : Nat → Bool} : ∀ k m j, j < zwh f k m → f (k + j) = true := by
  intro k m
  induction m generalizing k with
  | zero => intro j h; exact absurd h (Nat.not_lt_zero _)
  | succ m ih =>
    intro j h
    unfold zwh at h
    split at h
    · next hk =>
      cases j with
      | zero => exact hk
      | succ j =>
        have := ih (k + 1) j (by omega)
        rw [show k + 1 + j = k + (j + 1) by omega] at this
        exact this
    · exact absurd h (Nat.not_lt_zero _)
theorem zwh_f {f : Nat → Bool} : ∀ k m, zwh f k m < m → f (k + zwh f k m) = false := by
  intro k m
  induction m generalizing k with
  | zero => intro h; exact absurd h (Nat.not_lt_zero _)
  | succ m ih =>
    intro h
    unfold zwh at h ⊢
    by_cases hk : f k = true
    · rw [if_pos hk] at h ⊢
      have := ih (k + 1) (by omega)
      rw [show k + 1 + zwh f (k + 1) m = k + (zwh f (k + 1) m + 1) by omega] at this
      exact this
    · rw [if_neg hk]
      simpa using hk
theorem zte_le {v : zV} {n : Nat} (h : n < vN v) : zte v n ≤ vN v := by
  have := zwh_le (fun k => decide (vhom v k = vhom v n) && decide (vdep v n < vdep v k)) (n + 1) (vN v - (n + 1))
  unfold zte
  omega
theorem zte_gt (v : zV) (n : Nat) : n < zte v n := by unfold zte; omega
/-- a scan that a loop does: P holds at each turn -/
theorem ze_wh {P : Nat → Prop} {f : Nat → Bool} (N : Nat) (ht : ∀ k, k < N → f k = true → P (k + 1) → P k) (hf : ∀ k, k < N → f k = false → P k) (he : P N) : ∀ m k, k + m = N → P k := by
  intro m k h
  obtain rfl : m = N - k := by omega
  refine ze_up (P := P) (n := N) he (fun i hi hp => ?_) k (by omega)
  cases hc : f i with
  | true => exact ht i hi hc hp
  | false => exact hf i hi hc
theorem zwh_go {f : Nat → Bool} {k m : Nat} (h : f k = true) : zwh f k (m + 1) = zwh f (k + 1) m + 1 := if_pos h
theorem zwh_st {f : Nat → Bool} {k m : Nat} (h : f k = false) : zwh f k m = 0 := by
  cases m with
  | zero => rfl
  | succ m => exact if_neg (by rw [h]; decide)
section
variable {L : Nat} {xs : Nat → Int32} {I : Nat → Nat → Int32} {R : Nat → Nat → Option Nat} {A : Nat → Nat → Int32} {lo : Int64} {dd : UInt64} {Φ : zPo} {b : Nat} {v : zV}
theorem s2_hasLabel (hb : z_ib b) (hv : cIm b v I A) (hw : vP v ≤ 4) {x : Int32} (h1 : (∃ p, p < vP v ∧ vpt v 0 p = x) → Φ (.inl (some (.int 1))) (I, R, A, lo, dd) 0) (h0 : (¬ ∃ p, p < vP v ∧ vpt v 0 p = x) → Φ (.inl (some (.int 0))) (I, R, A, lo, dd) 0) : zC L xs mX2_hasLabel [.ref b, .int x] (I, R, A, lo, dd) Φ := by
  obtain ⟨hS, hP, hN, p0, p1, p2, n0, n1, n2, n3, n4, n5, n6⟩ := hv
  refine zC_en (vc_X2_hasLabel_0 hb ?_)
  refine ze_up (P := fun i => (∀ j, j < i → ¬ vpt v 0 j = x) → zW L xs mX2_hasLabel 2 [some (.ref b), some (.int x), some (.int (nI i))] [] (I, R, A, lo, dd) Φ) (n := vP v) ?_ ?_ 0 (Nat.zero_le _) (fun j q => absurd q (Nat.not_lt_zero _))
  · intro hn
    refine vc_X2_hasLabel_2 hb ?_
    simp (disch := omega) only [hP, nI_ltI]
    exact ⟨fun q => absurd q (Nat.lt_irrefl _), fun _ => h0 (fun ⟨p, q1, q2⟩ => hn p q1 q2)⟩
  · intro i hi ih hn
    refine vc_X2_hasLabel_2 hb ?_
    simp (disch := omega) only [hP, nI_ltI, ze_inI, nI_clamp, p0, nI_1]
    exact ⟨fun _ => ⟨by omega, fun q => h1 ⟨i, hi, q⟩, fun q => ih (lt_s hn q)⟩, fun q => absurd hi q⟩
theorem s2_hasFreeSectors (hb : z_ib b) (hv : cIm b v I A) (hw : vP v ≤ 4) {x y : Int32} (h1 : (¬ vS v < x + y ∧ ∀ p, p < vP v → ¬ (x < vpt v 1 p + vpt v 2 p ∧ vpt v 1 p < x + y)) → Φ (.inl (some (.int 1))) (I, R, A, lo, dd) 0) (h0 : ¬ (¬ vS v < x + y ∧ ∀ p, p < vP v → ¬ (x < vpt v 1 p + vpt v 2 p ∧ vpt v 1 p < x + y)) → Φ (.inl (some (.int 0))) (I, R, A, lo, dd) 0) : zC L xs mX2_hasFreeSectors [.ref b, .int x, .int y] (I, R, A, lo, dd) Φ := by
  obtain ⟨hS, hP, hN, p0, p1, p2, n0, n1, n2, n3, n4, n5, n6⟩ := hv
  refine zC_en (vc_X2_hasFreeSectors_0 hb ?_)
  rw [hS]
  refine ⟨fun q => h0 (fun k => k.1 q), fun q0 => ?_⟩
  refine ze_up (P := fun i => (∀ j, j < i → ¬ (x < vpt v 1 j + vpt v 2 j ∧ vpt v 1 j < x + y)) → zW L xs mX2_hasFreeSectors 14 [some (.ref b), some (.int x), some (.int y), some (.int (nI i))] [] (I, R, A, lo, dd) Φ) (n := vP v) ?_ ?_ 0 (Nat.zero_le _) (fun j q => absurd q (Nat.not_lt_zero _))
  · intro hn
    refine vc_X2_hasFreeSectors_14 hb ?_
    simp (disch := omega) only [hP, nI_ltI]
    exact ⟨fun q => absurd q (Nat.lt_irrefl _), fun _ => h1 ⟨q0, hn⟩⟩
  · intro i hi ih hn
    refine vc_X2_hasFreeSectors_14 hb ?_
    simp (disch := omega) only [hP, nI_ltI, ze_inI, nI_clamp, p1, p2, nI_1]
    exact ⟨fun _ => ⟨by omega, by omega, fun q => ⟨by omega, fun q2 => h0 (fun k => k.2 i hi ⟨q, q2⟩), fun q2 => ih (lt_s hn (fun k => q2 k.2))⟩, fun q => ih (lt_s hn (fun k => q k.1))⟩, fun q => absurd hi q⟩
theorem s2_freeSectors (hb : z_ib b) (hv : cIm b v I A) (hw : vP v ≤ 4) (h : Φ (.inl (some (.int (zfs v (vP v))))) (I, R, A, lo, dd) 0) : zC L xs mX2_freeSectors [.ref b] (I, R, A, lo, dd) Φ := by
  obtain ⟨hS, hP, hN, p0, p1, p2, n0, n1, n2, n3, n4, n5, n6⟩ := hv
  refine zC_en (vc_X2_freeSectors_0 hb ?_)
  rw [hS]
  refine ze_up (P := fun i => zW L xs mX2_freeSectors 7 [some (.ref b), some (.int (zfs v i)), some (.int (nI i))] [] (I, R, A, lo, dd) Φ) (n := vP v) ?_ ?_ 0 (Nat.zero_le _)
  · refine vc_X2_freeSectors_7 hb ?_
    simp (disch := omega) only [hP, nI_ltI]
    exact ⟨fun q => absurd q (Nat.lt_irrefl _), fun _ => h⟩
  · intro i hi ih
    refine vc_X2_freeSectors_7 hb ?_
    simp (disch := omega) only [hP, nI_ltI, ze_inI, nI_clamp, p2, nI_1]
    exact ⟨fun _ => ⟨by omega, ih⟩, fun q => absurd hi q⟩
theorem s2_countFiles (hb : z_ib b) (hv : cIm b v I A) (hw : vN v ≤ 24) (h : Φ (.inl (some (.int (nI (zcnt (fun n => decide (¬ vnd v 2 n = -1)) (vN v)))))) (I, R, A, lo, dd) 0) : zC L xs mX2_countFiles [.ref b] (I, R, A, lo, dd) Φ := by
  obtain ⟨hS, hP, hN, p0, p1, p2, n0, n1, n2, n3, n4, n5, n6⟩ := hv
  refine zC_en (vc_X2_countFiles_0 hb ?_)
  refine ze_up (P := fun i => zW L xs mX2_countFiles 4 [some (.ref b), some (.int (nI (zcnt (fun n => decide (¬ vnd v 2 n = -1)) i))), some (.int (nI i))] [] (I, R, A, lo, dd) Φ) (n := vN v) ?_ ?_ 0 (Nat.zero_le _)
  · refine vc_X2_countFiles_4 hb ?_
    simp (disch := omega) only [hN, nI_ltI]
    exact ⟨fun q => absurd q (Nat.lt_irrefl _), fun _ => h⟩
  · intro i hi ih
    refine vc_X2_countFiles_4 hb ?_
    simp (disch := omega) only [hN, nI_ltI, ze_inI, nI_clamp, n2, nI_1]
    unfold zcnt at ih
    exact ⟨fun _ => ⟨by omega, fun q => by simpa [q] using ih, fun q => by simpa [q] using ih⟩, fun q => absurd hi q⟩
theorem s2_greatestDepth (hb : z_ib b) (hv : cIm b v I A) (hw : vN v ≤ 24) (hd : ∀ n, n < vN v → vdep v n ≤ 5) {i m : Nat} (hm : i + m ≤ vN v) (h : Φ (.inl (some (.int (nI (zmx (vdep v) i m))))) (I, R, A, lo, dd) 0) : zC L xs mX2_greatestDepth [.ref b, .int (nI i), .int (nI (i + m))] (I, R, A, lo, dd) Φ := by
  obtain ⟨hS, hP, hN, p0, p1, p2, n0, n1, n2, n3, n4, n5, n6⟩ := hv
  have hx : ∀ k, k ≤ m → zmx (vdep v) i k ≤ 5 := by
    intro k
    induction k with
    | zero => intro _; unfold zmx; omega
    | succ k ih =>
      intro hk
      have h1 := ih (by omega)
      have h2 := hd (i + k) (by omega)
      unfold zmx
      omega
  refine zC_en (vc_X2_greatestDepth_0 hb ?_)
  refine ze_up (P := fun k => zW L xs mX2_greatestDepth 5 [some (.ref b), some (.int (nI i)), some (.int (nI (i + m))), some (.int (nI (zmx (vdep v) i k))), some (.int (nI (i + k)))] [] (I, R, A, lo, dd) Φ) (n := m) ?_ ?_ 0 (Nat.zero_le _)
  · refine vc_X2_greatestDepth_5 hb ?_
    simp (disch := omega) only [nI_ltI]
    exact ⟨fun q => absurd q (Nat.lt_irrefl _), fun _ => h⟩
  · intro k hk ih
    refine vc_X2_greatestDepth_5 hb ?_
    have h1 := hx k (by omega)
    have h2 := hd (i + k) (by omega)
    simp (disch := omega) only [nI_ltI, ze_inI, nI_clamp, n6, nI_1]
    refine ⟨fun _ => ⟨by omega, ?_⟩, fun q => absurd (by omega) q⟩
    unfold zmx at ih
    split
    · next q => rw [show max (zmx (vdep v) i k) (vdep v (i + k)) = vdep v (i + k) by omega] at ih; exact ih
    · next q => rw [show max (zmx (vdep v) i k) (vdep v (i + k)) = zmx (vdep v) i k by omega] at ih; exact ih
theorem s2_nodesIn (hb : z_ib b) (hv : cIm b v I A) (hw : vN v ≤ 24) (hh : ∀ n, n < vN v → vhom v n < 4) {p : Nat} (hp : p < 4) (h : Φ (.inl (some (.int (nI (zcnt (fun n => decide (vhom v n = p)) (vN v)))))) (I, R, A, lo, dd) 0) : zC L xs mX2_nodesIn [.ref b, .int (nI p)] (I, R, A, lo, dd) Φ := by
  obtain ⟨hS, hP, hN, p0, p1, p2, n0, n1, n2, n3, n4, n5, n6⟩ := hv
  refine zC_en (vc_X2_nodesIn_0 hb ?_)
  refine ze_up (P := fun i => zW L xs mX2_nodesIn 4 [some (.ref b), some (.int (nI p)), some (.int (nI (zcnt (fun n => decide (vhom v n = p)) i))), some (.int (nI i))] [] (I, R, A, lo, dd) Φ) (n := vN v) ?_ ?_ 0 (Nat.zero_le _)
  · refine vc_X2_nodesIn_4 hb ?_
    simp (disch := omega) only [hN, nI_ltI]
    exact ⟨fun q => absurd q (Nat.lt_irrefl _), fun _ => h⟩
  · intro i hi ih
    refine vc_X2_nodesIn_4 hb ?_
    have h2 := hh i hi
    simp (disch := omega) only [hN, nI_ltI, ze_inI, nI_clamp, n5, nI_1, nI_eq]
    unfold zcnt at ih
    exact ⟨fun _ => ⟨by omega, fun q => by simpa [q] using ih, fun q => by simpa [q] using ih⟩, fun q => absurd hi q⟩
theorem s2_nodeWithInode (hb : z_ib b) (hv : cIm b v I A) (hw : vN v ≤ 24) (hh : ∀ n, n < vN v → vhom v n < 4) {p : Nat} (hp : p < 4) {x : Int32} (h1 : ∀ n, n < vN v → vhom v n = p → vnd v 1 n = x → (∀ j, j < n → ¬ (vhom v j = p ∧ vnd v 1 j = x)) → Φ (.inl (some (.int (nI n)))) (I, R, A, lo, dd) 0) (h0 : (∀ j, j < vN v → ¬ (vhom v j = p ∧ vnd v 1 j = x)) → Φ (.inl (some (.int (-1)))) (I, R, A, lo, dd) 0) : zC L xs mX2_nodeWithInode [.ref b, .int (nI p), .int x] (I, R, A, lo, dd) Φ := by
  obtain ⟨hS, hP, hN, p0, p1, p2, n0, n1, n2, n3, n4, n5, n6⟩ := hv
  refine zC_en (vc_X2_nodeWithInode_0 hb ?_)
  refine ze_up (P := fun i => (∀ j, j < i → ¬ (vhom v j = p ∧ vnd v 1 j = x)) → zW L xs mX2_nodeWithInode 2 [some (.ref b), some (.int (nI p)), some (.int x), some (.int (nI i))] [] (I, R, A, lo, dd) Φ) (n := vN v) ?_ ?_ 0 (Nat.zero_le _) (fun j q => absurd q (Nat.not_lt_zero _))
  · intro hn
    refine vc_X2_nodeWithInode_2 hb ?_
    simp (disch := omega) only [hN, nI_ltI]
    exact ⟨fun q => absurd q (Nat.lt_irrefl _), fun _ => h0 hn⟩
  · intro i hi ih hn
    refine vc_X2_nodeWithInode_2 hb ?_
    have h2 := hh i hi
    simp (disch := omega) only [hN, nI_ltI, ze_inI, nI_clamp, n5, n1, nI_1, nI_eq]
    exact ⟨fun _ => ⟨by omega, fun q => ⟨by omega, fun q2 => h1 i hi q q2 hn, fun q2 => ih (lt_s hn (fun k => q2 k.2))⟩, fun q => ih (lt_s hn (fun k => q k.1))⟩, fun q => absurd hi q⟩
theorem s2_hasOtherChild (hb : z_ib b) (hv : cIm b v I A) (hw : vN v ≤ 24) (hh : ∀ n, n < vN v → vhom v n < 4) (hpr : ∀ n k, n < vN v → vpar v n = some k → k < 2 ^ 31) {p : Nat} (hp : p < 4) {o : Option Nat} (ho : ∀ k, o = some k → k < 2 ^ 31) {x e : Int32} (h1 : (∃ n, n < vN v ∧ nI n ≠ e ∧ vhom v n = p ∧ vpar v n = o ∧ vnd v 0 n = x) → Φ (.inl (some (.int 1))) (I, R, A, lo, dd) 0) (h0 : (¬ ∃ n, n < vN v ∧ nI n ≠ e ∧ vhom v n = p ∧ vpar v n = o ∧ vnd v 0 n = x) → Φ (.inl (some (.int 0))) (I, R, A, lo, dd) 0) : zC L xs mX2_hasOtherChild [.ref b, .int (nI p), .int (zpI o), .int x, .int e] (I, R, A, lo, dd) Φ := by
  obtain ⟨hS, hP, hN, p0, p1, p2, n0, n1, n2, n3, n4, n5, n6⟩ := hv
  refine zC_en (vc_X2_hasOtherChild_0 hb ?_)
  refine ze_up (P := fun i => (∀ n, n < i → ¬ (nI n ≠ e ∧ vhom v n = p ∧ vpar v n = o ∧ vnd v 0 n = x)) → zW L xs mX2_hasOtherChild 3 [some (.ref b), some (.int (nI p)), some (.int (zpI o)), some (.int x), some (.int e), some (.int (nI i))] [] (I, R, A, lo, dd) Φ) (n := vN v) ?_ ?_ 0 (Nat.zero_le _) (fun j q => absurd q (Nat.not_lt_zero _))
  · intro hn
    refine vc_X2_hasOtherChild_3 hb ?_
    simp (disch := omega) only [hN, nI_ltI]
    exact ⟨fun q => absurd q (Nat.lt_irrefl _), fun _ => h0 (fun ⟨n, q1, q2⟩ => hn n q1 q2)⟩
  · intro i hi ih hn
    refine vc_X2_hasOtherChild_3 hb ?_
    have h2 := hh i hi
    have h3 : (zpI (vpar v i) = zpI o) ↔ vpar v i = o := zpI_inj (fun k => hpr i k hi) ho
    simp (disch := omega) only [hN, nI_ltI, ze_inI, nI_clamp, n5, n4, n0, nI_1, nI_eq, h3]
    exact ⟨fun _ => ⟨fun q => ih (lt_s hn (fun k => k.1 q)), fun q => ⟨by omega, fun q2 => ⟨by omega, fun q3 => ⟨by omega, fun q4 => h1 ⟨i, hi, q, q2, q3, q4⟩, fun q4 => ih (lt_s hn (fun k => q4 k.2.2.2))⟩, fun q3 => ih (lt_s hn (fun k => q3 k.2.2.1))⟩, fun q2 => ih (lt_s hn (fun k => q2 k.2.1))⟩⟩, fun q => absurd hi q⟩
theorem s2_treeEnd (hb : z_ib b) (hv : cIm b v I A) (hw : zwf v) {n : Nat} (hn : n < vN v) (h : Φ (.inl (some (.int (nI (zte v n))))) (I, R, A, lo, dd) 0) : zC L xs mX2_treeEnd [.ref b, .int (nI n)] (I, R, A, lo, dd) Φ := by
  obtain ⟨hS, hP, hN, p0, p1, p2, n0, n1, n2, n3, n4, n5, n6⟩ := hv
  obtain ⟨w1, w2, w3, w4, w5, w6, w7, w8, w9⟩ := hw
  refine zC_en (vc_X2_treeEnd_0 hb ?_)
  rw [nI_1]
  have key : ∀ k, k ≤ vN v → n + 1 ≤ k → Φ (.inl (some (.int (nI (k + zwh (fun k => decide (vhom v k = vhom v n) && decide (vdep v n < vdep v k)) k (vN v - k)))))) (I, R, A, lo, dd) 0 → zW L xs mX2_treeEnd 4 [some (.ref b), some (.int (nI n)), some (.int (nI k))] [] (I, R, A, lo, dd) Φ := by
    refine ze_up ?_ ?_
    · intro _ h
      refine vc_X2_treeEnd_4 hb ?_
      simp (disch := omega) only [hN, nI_ltI]
      rw [Nat.sub_self] at h
      exact ⟨fun q => absurd q (Nat.lt_irrefl _), fun _ => h⟩
    · intro k hk ih hnk h
      refine vc_X2_treeEnd_4 hb ?_
      have a1 := w3 k hk
      have a2 := w3 n hn
      have a3 := w6 k hk
      have a4 := w6 n hn
      simp (disch := omega) only [hN, nI_ltI, ze_inI, nI_clamp, n5, n6, nI_1, nI_eq]
      have hst : ¬ (vhom v k = vhom v n ∧ vdep v n < vdep v k) → Φ (.inl (some (.int (nI k)))) (I, R, A, lo, dd) 0 := by
        intro q
        rw [zwh_st (by simpa using q)] at h
        exact h
      refine ⟨fun _ => ⟨by omega, by omega, fun q => ⟨by omega, by omega, fun q2 => ih (by omega) ?_, fun q2 => hst (fun z => q2 z.2)⟩, fun q => hst (fun z => q z.1)⟩, fun q => absurd hk q⟩
      rw [show vN v - k = (vN v - (k + 1)) + 1 by omega, zwh_go (by simp [q, q2])] at h
      rw [show k + 1 + zwh (fun k => decide (vhom v k = vhom v n) && decide (vdep v n < vdep v k)) (k + 1) (vN v - (k + 1)) = k + (zwh (fun k => decide (vhom v k = vhom v n) && decide (vdep v n < vdep v k)) (k + 1) (vN v - (k + 1)) + 1) by omega]
      exact h
  exact key (n + 1) (by omega) (Nat.le_refl _) h
theorem s2_treeSize (hb : z_ib b) (hv : cIm b v I A) (hw : zwf v) {n : Nat} (hn : n < vN v) (h : Φ (.inl (some (.int (nI (zte v n - n))))) (I, R, A, lo, dd) 0) : zC L xs mX2_treeSize [.ref b, .int (nI n)] (I, R, A, lo, dd) Φ := by
  refine zC_en (vc_X2_treeSize_0 hb (s2_treeEnd hb hv hw hn (zk_r (vc_X2_treeSize_5 hb ?_))))
  rw [ze_sub (Nat.le_of_lt (zte_gt v n))]
  exact h
theorem s2_partitionEnd (hb : z_ib b) (hv : cIm b v I A) (hw : zwf v) {p : Nat} (hp : p < 4) (h : Φ (.inl (some (.int (nI (zpe v p))))) (I, R, A, lo, dd) 0) : zC L xs mX2_partitionEnd [.ref b, .int (nI p)] (I, R, A, lo, dd) Φ := by
  obtain ⟨hS, hP, hN, p0, p1, p2, n0, n1, n2, n3, n4, n5, n6⟩ := hv
  obtain ⟨w1, w2, w3, w4, w5, w6, w7, w8, w9⟩ := hw
  refine zC_en (vc_X2_partitionEnd_0 hb ?_)
  have key : ∀ k, k ≤ vN v → Φ (.inl (some (.int (nI (k + zwh (fun k => decide (vhom v k ≤ p)) k (vN v - k)))))) (I, R, A, lo, dd) 0 → zW L xs mX2_partitionEnd 2 [some (.ref b), some (.int (nI p)), some (.int (nI k))] [] (I, R, A, lo, dd) Φ := by
    refine ze_up ?_ ?_
    · intro h
      refine vc_X2_partitionEnd_2 hb ?_
      simp (disch := omega) only [hN, nI_ltI]
      rw [Nat.sub_self] at h
      exact ⟨fun q => absurd q (Nat.lt_irrefl _), fun _ => h⟩
    · intro k hk ih h
      refine vc_X2_partitionEnd_2 hb ?_
      have a1 := w3 k hk
      simp (disch := omega) only [hN, nI_ltI, ze_inI, nI_clamp, n5, nI_1]
      refine ⟨fun _ => ⟨by omega, fun q => ?_, fun q => ih ?_⟩, fun q => absurd hk q⟩
      · rw [zwh_st (by simpa using q)] at h
        exact h
      · rw [show vN v - k = (vN v - (k + 1)) + 1 by omega, zwh_go (by simp; omega)] at h
        rw [show k + 1 + zwh (fun k => decide (vhom v k ≤ p)) (k + 1) (vN v - (k + 1)) = k + (zwh (fun k => decide (vhom v k ≤ p)) (k + 1) (vN v - (k + 1)) + 1) by omega]
        exact h
  refine key 0 (by omega) ?_
  rw [Nat.zero_add]
  exact h
end
