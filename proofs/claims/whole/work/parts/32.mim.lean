/-! the model's rows hold the image; trees -/
def mIm (i : Nat) (v : zV) (A : Nat → Nat → Int32) : Prop := A 108 (159 * i + 0) = vS v ∧ A 108 (159 * i + 1) = nI (vP v) ∧ A 108 (159 * i + 2) = nI (vN v) ∧ (∀ p, p < vP v → A 108 (159 * i + 3 + 3 * p + 0) = vpt v 0 p) ∧ (∀ p, p < vP v → A 108 (159 * i + 3 + 3 * p + 1) = vpt v 1 p) ∧ (∀ p, p < vP v → A 108 (159 * i + 3 + 3 * p + 2) = vpt v 2 p) ∧ (∀ n, n < vN v → A 108 (159 * i + 15 + 6 * n + 0) = vnd v 0 n) ∧ (∀ n, n < vN v → A 108 (159 * i + 15 + 6 * n + 1) = vnd v 1 n) ∧ (∀ n, n < vN v → A 108 (159 * i + 15 + 6 * n + 2) = vnd v 2 n) ∧ (∀ n, n < vN v → A 108 (159 * i + 15 + 6 * n + 3) = vnd v 3 n) ∧ (∀ n, n < vN v → A 108 (159 * i + 15 + 6 * n + 4) = zpI (vpar v n)) ∧ (∀ n, n < vN v → A 108 (159 * i + 15 + 6 * n + 5) = nI (vhom v n))
/-- the end of what lies in a parent -/
def zbh (v : zV) (n : Nat) : Option Nat → Nat
  | none => zpe v (vhom v n)
  | some k => zte v k
theorem ze_m1n {n : Nat} (h : n < 2 ^ 31) : (nI n = -nI 1) ↔ False := ze_m1 h
/-- what lies behind a node and is in it -/
theorem zte_in {v : zV} {n k : Nat} (h1 : n < k) (h2 : k < zte v n) : vhom v k = vhom v n ∧ vdep v n < vdep v k := by
  have := zwh_t (f := fun k => decide (vhom v k = vhom v n) && decide (vdep v n < vdep v k)) (n + 1) (vN v - (n + 1)) (k - (n + 1)) (by unfold zte at h2; omega)
  rw [show n + 1 + (k - (n + 1)) = k by omega] at this
  simpa using this
theorem zte_end {v : zV} {n : Nat} (h : zte v n < vN v) : ¬ (vhom v (zte v n) = vhom v n ∧ vdep v n < vdep v (zte v n)) := by
  have h1 := zwh_f (f := fun k => decide (vhom v k = vhom v n) && decide (vdep v n < vdep v k)) (n + 1) (vN v - (n + 1)) (by unfold zte at h; omega)
  intro q
  have : (fun k => decide (vhom v k = vhom v n) && decide (vdep v n < vdep v k)) (zte v n) = false := h1
  simp [q.1, q.2] at this
theorem zte_none {v : zV} (hw : zwf v) {n k : Nat} (hk : k < vN v) (hp : vpar v k = none) (hne : k ≠ n) (hn : n < vN v) : ¬ (n ≤ k ∧ k < zte v n) := by
  obtain ⟨w1, w2, w3, w4, w5, w6, w7, w8, w9⟩ := hw
  rintro ⟨h1, h2⟩
  have h3 := (zte_in (v := v) (by omega) h2).2
  have h4 := w5 k hk hp
  have h5 : 1 ≤ vdep v n := by
    cases hq : vpar v n with
    | none => rw [w5 n hn hq]; exact Nat.le_refl _
    | some p => have := (w4 n p hn hq).2.2.1; omega
  omega
theorem zte_par {v : zV} (hw : zwf v) {n k p : Nat} (hk : k < vN v) (hp : vpar v k = some p) (hne : k ≠ n) (hn : n < vN v) : (n ≤ k ∧ k < zte v n) ↔ (n ≤ p ∧ p < zte v n) := by
  obtain ⟨w1, w2, w3, w4, w5, w6, w7, w8, w9⟩ := hw
  obtain ⟨a1, a2, a3, a4, a5⟩ := w4 k p hk hp
  have hg := zte_gt v n
  constructor
  · rintro ⟨h1, h2⟩
    have h3 := zte_in (v := v) (show n < k by omega) h2
    refine ⟨Nat.le_of_not_lt fun q => ?_, by omega⟩
    have := a5 n q (by omega)
    omega
  · rintro ⟨h1, h2⟩
    have h3 : vhom v p = vhom v n ∧ vdep v n ≤ vdep v p := by
      by_cases q : n = p
      · subst q; exact ⟨rfl, Nat.le_refl _⟩
      · have := zte_in (v := v) (show n < p by omega) h2
        exact ⟨this.1, Nat.le_of_lt this.2⟩
    refine ⟨by omega, Nat.lt_of_not_le fun q => ?_⟩
    have h4 := zte_end (v := v) (n := n) (by omega)
    by_cases e : zte v n = k
    · rw [e] at h4
      exact h4 ⟨by omega, by omega⟩
    · have h5 := a5 (zte v n) (by omega) (by omega)
      have h6 := w7 n (zte v n) (by omega) (by omega)
      have h7 := w7 (zte v n) k (by omega) hk
      exact h4 ⟨by omega, by omega⟩
theorem zpar_lt {v : zV} (hw : zwf v) {n k : Nat} (hn : n < vN v) (h : vpar v n = some k) : k < n ∧ k < 24 := by
  have h1 := (hw.2.2.2.1 n k hn h).1
  have h2 := hw.2.1
  omega
section
variable {L : Nat} {xs : Nat → Int32} {I : Nat → Nat → Int32} {R : Nat → Nat → Option Nat} {A : Nat → Nat → Int32} {lo : Int64} {dd : UInt64} {Φ : zPo} {i : Nat} {v : zV}
theorem s6_depthOf (hi : i ≤ 2) (hv : mIm i v A) (hw : zwf v) {n : Nat} (hn : n < vN v) (h : Φ (.inl (some (.int (nI (vdep v n))))) (I, R, A, lo, dd) 0) : zC L xs mX6_depthOf [.ref 107, .int (nI i), .int (nI n)] (I, R, A, lo, dd) Φ := by
  obtain ⟨m0, m1, m2, p0, p1, p2, n0, n1, n2, n3, n4, n5⟩ := hv
  have hw' := hw
  obtain ⟨w1, w2, w3, w4, w5, w6, w7, w8, w9⟩ := hw'
  refine zC_en (vc_X6_depthOf_0 ?_)
  have key : ∀ k, k < vN v → ∀ d, d + vdep v k = vdep v n → zW L xs mX6_depthOf 5 [some (.ref 107), some (.int (nI i)), some (.int (nI n)), some (.int (nI d)), some (.int (nI k))] [] (I, R, A, lo, dd) Φ := by
    intro k
    induction k using Nat.strongRecOn with
    | ind k ih =>
      intro hk d hd
      refine vc_X6_depthOf_5 ?_
      simp (disch := omega) only [ze_lit, pk_mul, nI_add, nI_clamp, ze_inI, ze_m1n, n4]
      refine ⟨fun q => q.elim, fun _ => ⟨by omega, ?_⟩⟩
      cases hp : vpar v k with
      | none =>
        refine vc_X6_depthOf_5 ⟨fun _ => ?_, fun q => absurd rfl q⟩
        have := w5 k hk hp
        rw [show d + 1 = vdep v n by omega]
        exact h
      | some p =>
        have h1 := w4 k p hk hp
        exact ih p h1.1 (by omega) (d + 1) (by omega)
  exact key n hn 0 (Nat.zero_add _)
theorem s6_isWithin (hi : i ≤ 2) (hv : mIm i v A) (hw : zwf v) {k n : Nat} (hk : k < vN v) (hn : n < vN v) (h1 : n ≤ k ∧ k < zte v n → Φ (.inl (some (.int 1))) (I, R, A, lo, dd) 0) (h0 : ¬ (n ≤ k ∧ k < zte v n) → Φ (.inl (some (.int 0))) (I, R, A, lo, dd) 0) : zC L xs mX6_isWithin [.ref 107, .int (nI i), .int (nI k), .int (nI n)] (I, R, A, lo, dd) Φ := by
  obtain ⟨m0, m1, m2, p0, p1, p2, n0, n1, n2, n3, n4, n5⟩ := hv
  have hw' := hw
  obtain ⟨w1, w2, w3, w4, w5, w6, w7, w8, w9⟩ := hw'
  refine zC_en (vc_X6_isWithin_0 ?_)
  have key : ∀ j, j < vN v → ((n ≤ j ∧ j < zte v n) ↔ (n ≤ k ∧ k < zte v n)) → zW L xs mX6_isWithin 3 [some (.ref 107), some (.int (nI i)), some (.int (nI k)), some (.int (nI n)), some (.int (nI j))] [] (I, R, A, lo, dd) Φ := by
    intro j
    induction j using Nat.strongRecOn with
    | ind j ih =>
      intro hj he
      refine vc_X6_isWithin_3 ?_
      simp (disch := omega) only [ze_lit, pk_mul, nI_add, nI_clamp, ze_inI, ze_m1n, n4, nI_eq]
      refine ⟨fun q => q.elim, fun _ => ⟨fun q => ⟨fun _ => h1 (he.mp (by subst q; exact ⟨Nat.le_refl _, zte_gt v _⟩)), fun z => absurd q z⟩, fun q => ⟨by omega, ?_⟩⟩⟩
      cases hp : vpar v j with
      | none =>
        have hx := zte_none hw hj hp q hn
        have hz : ¬ ((-1 : Int32) = nI n) := by rw [ze_m1' (by omega)]; exact id
        exact vc_X6_isWithin_3 ⟨fun _ => ⟨fun z => absurd z hz, fun _ => h0 (fun z => hx (he.mpr z))⟩, fun q => absurd rfl q⟩
      | some p =>
        have hl := zpar_lt hw hj hp
        exact ih p hl.1 (by omega) ((zte_par hw hj hp q hn).symm.trans he)
  exact key k hk Iff.rfl
theorem s6_sizeOf (hi : i ≤ 2) (hv : mIm i v A) (hw : zwf v) {n : Nat} (hn : n < vN v) (h : Φ (.inl (some (.int (nI (zte v n - n))))) (I, R, A, lo, dd) 0) : zC L xs mX6_sizeOf [.ref 107, .int (nI i), .int (nI n)] (I, R, A, lo, dd) Φ := by
  have hv' := hv
  obtain ⟨m0, m1, m2, p0, p1, p2, n0, n1, n2, n3, n4, n5⟩ := hv'
  have hw' := hw
  obtain ⟨w1, w2, w3, w4, w5, w6, w7, w8, w9⟩ := hw'
  have hg := zte_gt v n
  have hl := zte_le hn
  refine zC_en (vc_X6_sizeOf_0 ?_)
  have key : ∀ k, k ≤ zte v n - n → 1 ≤ k → zW L xs mX6_sizeOf 2 [some (.ref 107), some (.int (nI i)), some (.int (nI n)), some (.int (nI k))] [] (I, R, A, lo, dd) Φ := by
    refine ze_up ?_ ?_
    · intro hk
      refine vc_X6_sizeOf_2 ?_
      simp (disch := omega) only [ze_lit, pk_mul, nI_add, nI_clamp, ze_inI, m2, nI_ltI]
      refine ⟨by omega, fun q => ?_, fun _ => h⟩
      refine s6_isWithin hi hv hw (by omega) hn (fun z => absurd z.2 (by omega)) (fun _ => zk_r (vc_X6_sizeOf_22 ?_))
      exact ⟨fun _ => h, fun q => absurd rfl q⟩
    · intro k hk ih hk1
      refine vc_X6_sizeOf_2 ?_
      simp (disch := omega) only [ze_lit, pk_mul, nI_add, nI_clamp, ze_inI, m2, nI_ltI]
      refine ⟨by omega, fun q => ?_, fun q => absurd (by omega) q⟩
      refine s6_isWithin hi hv hw (by omega) hn (fun _ => zk_r (vc_X6_sizeOf_22 ?_)) (fun z => absurd ⟨by omega, by omega⟩ z)
      rw [nI_1]
      exact ⟨fun q => absurd q (by decide), fun _ => ih (by omega)⟩
  exact key 1 (by omega) (Nat.le_refl _)
theorem s6_directories (hi : i ≤ 2) (hv : mIm i v A) (hw : vN v ≤ 24) (h : Φ (.inl (some (.int (nI (zcnt (fun n => decide (vnd v 2 n = -1)) (vN v)))))) (I, R, A, lo, dd) 0) : zC L xs mX6_directories [.ref 107, .int (nI i)] (I, R, A, lo, dd) Φ := by
  obtain ⟨m0, m1, m2, p0, p1, p2, n0, n1, n2, n3, n4, n5⟩ := hv
  refine zC_en (vc_X6_directories_0 ?_)
  refine ze_up (P := fun k => zW L xs mX6_directories 4 [some (.ref 107), some (.int (nI i)), some (.int (nI (zcnt (fun n => decide (vnd v 2 n = -1)) k))), some (.int (nI k))] [] (I, R, A, lo, dd) Φ) (n := vN v) ?_ ?_ 0 (Nat.zero_le _)
  · refine vc_X6_directories_4 ?_
    simp (disch := omega) only [ze_lit, pk_mul, nI_add, nI_clamp, ze_inI, m2, nI_ltI]
    exact ⟨by omega, fun q => absurd q (Nat.lt_irrefl _), fun _ => h⟩
  · intro k hk ih
    refine vc_X6_directories_4 ?_
    simp (disch := omega) only [ze_lit, pk_mul, nI_add, nI_clamp, ze_inI, m2, nI_ltI, n2]
    unfold zcnt at ih
    exact ⟨by omega, fun _ => ⟨by omega, fun q => by rw [if_pos (decide_eq_true (show vnd v 2 k = -1 from q))] at ih; exact ih, fun q => by rw [if_neg (by simpa using (show ¬ vnd v 2 k = -1 from q))] at ih; exact ih⟩, fun q => absurd hk q⟩
theorem s6_nodesIn (hi : i ≤ 2) (hv : mIm i v A) (hw : zwf v) {p : Nat} (hp : p < 4) (h : Φ (.inl (some (.int (nI (zcnt (fun n => decide (vhom v n = p)) (vN v)))))) (I, R, A, lo, dd) 0) : zC L xs mX6_nodesIn [.ref 107, .int (nI i), .int (nI p)] (I, R, A, lo, dd) Φ := by
  obtain ⟨m0, m1, m2, p0, p1, p2, n0, n1, n2, n3, n4, n5⟩ := hv
  obtain ⟨w1, w2, w3, w4, w5, w6, w7, w8, w9⟩ := hw
  refine zC_en (vc_X6_nodesIn_0 ?_)
  refine ze_up (P := fun k => zW L xs mX6_nodesIn 5 [some (.ref 107), some (.int (nI i)), some (.int (nI p)), some (.int (nI (zcnt (fun n => decide (vhom v n = p)) k))), some (.int (nI k))] [] (I, R, A, lo, dd) Φ) (n := vN v) ?_ ?_ 0 (Nat.zero_le _)
  · refine vc_X6_nodesIn_5 ?_
    simp (disch := omega) only [ze_lit, pk_mul, nI_add, nI_clamp, ze_inI, m2, nI_ltI]
    exact ⟨by omega, fun q => absurd q (Nat.lt_irrefl _), fun _ => h⟩
  · intro k hk ih
    refine vc_X6_nodesIn_5 ?_
    have := w3 k hk
    simp (disch := omega) only [ze_lit, pk_mul, nI_add, nI_clamp, ze_inI, m2, nI_ltI, n5, nI_eq]
    unfold zcnt at ih
    exact ⟨by omega, fun _ => ⟨by omega, fun q => by rw [if_pos (decide_eq_true q)] at ih; exact ih, fun q => by rw [if_neg (by simpa using q)] at ih; exact ih⟩, fun q => absurd hk q⟩
theorem s6_deepest (hi : i ≤ 2) (hv : mIm i v A) (hw : zwf v) (h : Φ (.inl (some (.int (nI (zmx (vdep v) 0 (vN v)))))) (I, R, A, lo, dd) 0) : zC L xs mX6_deepest [.ref 107, .int (nI i)] (I, R, A, lo, dd) Φ := by
  have hv' := hv
  obtain ⟨m0, m1, m2, p0, p1, p2, n0, n1, n2, n3, n4, n5⟩ := hv'
  have hw' := hw
  obtain ⟨w1, w2, w3, w4, w5, w6, w7, w8, w9⟩ := hw'
  have hx : ∀ k, k ≤ vN v → zmx (vdep v) 0 k ≤ 5 := by
    intro k
    induction k with
    | zero => intro _; unfold zmx; omega
    | succ k ih =>
      intro hk
      have h1 := ih (by omega)
      have h2 := w6 (0 + k) (by omega)
      unfold zmx
      omega
  refine zC_en (vc_X6_deepest_0 ?_)
  refine ze_up (P := fun k => zW L xs mX6_deepest 4 [some (.ref 107), some (.int (nI i)), some (.int (nI (zmx (vdep v) 0 k))), some (.int (nI k))] [] (I, R, A, lo, dd) Φ) (n := vN v) ?_ ?_ 0 (Nat.zero_le _)
  · refine vc_X6_deepest_4 ?_
    simp (disch := omega) only [ze_lit, pk_mul, nI_add, nI_clamp, ze_inI, m2, nI_ltI]
    exact ⟨by omega, fun q => absurd q (Nat.lt_irrefl _), fun _ => h⟩
  · intro k hk ih
    refine vc_X6_deepest_4 ?_
    have h1 := hx k (by omega)
    have h2 := w6 k hk
    simp (disch := omega) only [ze_lit, pk_mul, nI_add, nI_clamp, ze_inI, m2, nI_ltI]
    refine ⟨by omega, fun _ => s6_depthOf hi hv hw hk (zk_r (vc_X6_deepest_19 ?_)), fun q => absurd hk q⟩
    unfold zmx at ih
    rw [Nat.zero_add] at ih
    simp (disch := omega) only [ze_lit, nI_add, nI_ltI]
    refine ⟨fun q => s6_depthOf hi hv hw hk (zk_r (vc_X6_deepest_29 ?_)), fun q => ?_⟩
    · rw [show max (zmx (vdep v) 0 k) (vdep v k) = vdep v k by omega] at ih
      simp (disch := omega) only [ze_lit, nI_add]
      exact ih
    · rw [show max (zmx (vdep v) 0 k) (vdep v k) = zmx (vdep v) 0 k by omega] at ih
      exact ih
theorem s6_freeSectors (hi : i ≤ 2) (hv : mIm i v A) (hw : vP v ≤ 4) (h : Φ (.inl (some (.int (zfs v (vP v))))) (I, R, A, lo, dd) 0) : zC L xs mX6_freeSectors [.ref 107, .int (nI i)] (I, R, A, lo, dd) Φ := by
  obtain ⟨m0, m1, m2, p0, p1, p2, n0, n1, n2, n3, n4, n5⟩ := hv
  refine zC_en (vc_X6_freeSectors_0 ?_)
  simp (disch := omega) only [ze_lit, pk_mul, nI_add, nI_clamp, ze_inI, m0]
  refine ⟨by omega, ?_⟩
  refine ze_up (P := fun k => zW L xs mX6_freeSectors 15 [some (.ref 107), some (.int (nI i)), some (.int (zfs v k)), some (.int (nI k))] [] (I, R, A, lo, dd) Φ) (n := vP v) ?_ ?_ 0 (Nat.zero_le _)
  · refine vc_X6_freeSectors_15 ?_
    simp (disch := omega) only [ze_lit, pk_mul, nI_add, nI_clamp, ze_inI, m1, nI_ltI]
    exact ⟨by omega, fun q => absurd q (Nat.lt_irrefl _), fun _ => h⟩
  · intro k hk ih
    refine vc_X6_freeSectors_15 ?_
    simp (disch := omega) only [ze_lit, pk_mul, nI_add, nI_clamp, ze_inI, m1, nI_ltI, p2]
    exact ⟨by omega, fun _ => ⟨by omega, ih⟩, fun q => absurd hk q⟩
theorem s6_inodeIn (hi : i ≤ 2) (hv : mIm i v A) (hw : zwf v) {p : Nat} (hp : p < 4) {x : Int32} (h1 : ∀ n, n < vN v → vhom v n = p → vnd v 1 n = x → (∀ j, j < n → ¬ (vhom v j = p ∧ vnd v 1 j = x)) → Φ (.inl (some (.int (nI n)))) (I, R, A, lo, dd) 0) (h0 : (∀ j, j < vN v → ¬ (vhom v j = p ∧ vnd v 1 j = x)) → Φ (.inl (some (.int (-1)))) (I, R, A, lo, dd) 0) : zC L xs mX6_inodeIn [.ref 107, .int (nI i), .int (nI p), .int x] (I, R, A, lo, dd) Φ := by
  obtain ⟨m0, m1, m2, p0, p1, p2, n0, n1, n2, n3, n4, n5⟩ := hv
  obtain ⟨w1, w2, w3, w4, w5, w6, w7, w8, w9⟩ := hw
  refine zC_en (vc_X6_inodeIn_0 ?_)
  refine ze_up (P := fun k => (∀ j, j < k → ¬ (vhom v j = p ∧ vnd v 1 j = x)) → zW L xs mX6_inodeIn 3 [some (.ref 107), some (.int (nI i)), some (.int (nI p)), some (.int x), some (.int (nI k))] [] (I, R, A, lo, dd) Φ) (n := vN v) ?_ ?_ 0 (Nat.zero_le _) (fun j q => absurd q (Nat.not_lt_zero _))
  · intro hn
    refine vc_X6_inodeIn_3 ?_
    simp (disch := omega) only [ze_lit, pk_mul, nI_add, nI_clamp, ze_inI, m2, nI_ltI]
    exact ⟨by omega, fun q => absurd q (Nat.lt_irrefl _), fun _ => h0 hn⟩
  · intro k hk ih hn
    refine vc_X6_inodeIn_3 ?_
    have h2 := w3 k hk
    simp (disch := omega) only [ze_lit, pk_mul, nI_add, nI_clamp, ze_inI, m2, nI_ltI, n5, n1, nI_eq]
    exact ⟨by omega, fun _ => ⟨by omega, fun q => ⟨by omega, fun q2 => h1 k hk q q2 hn, fun q2 => ih (lt_s hn (fun z => q2 z.2))⟩, fun q => ih (lt_s hn (fun z => q z.1))⟩, fun q => absurd hk q⟩
theorem s6_hasChild (hi : i ≤ 2) (hv : mIm i v A) (hw : zwf v) {p : Nat} (hp : p < 4) {o : Option Nat} (ho : ∀ k, o = some k → k < 2 ^ 31) {x e : Int32} (h1 : (∃ n, n < vN v ∧ nI n ≠ e ∧ vhom v n = p ∧ vpar v n = o ∧ vnd v 0 n = x) → Φ (.inl (some (.int 1))) (I, R, A, lo, dd) 0) (h0 : (¬ ∃ n, n < vN v ∧ nI n ≠ e ∧ vhom v n = p ∧ vpar v n = o ∧ vnd v 0 n = x) → Φ (.inl (some (.int 0))) (I, R, A, lo, dd) 0) : zC L xs mX6_hasChild [.ref 107, .int (nI i), .int (nI p), .int (zpI o), .int x, .int e] (I, R, A, lo, dd) Φ := by
  obtain ⟨m0, m1, m2, p0, p1, p2, n0, n1, n2, n3, n4, n5⟩ := hv
  have hw' := hw
  obtain ⟨w1, w2, w3, w4, w5, w6, w7, w8, w9⟩ := hw'
  refine zC_en (vc_X6_hasChild_0 ?_)
  refine ze_up (P := fun k => (∀ n, n < k → ¬ (nI n ≠ e ∧ vhom v n = p ∧ vpar v n = o ∧ vnd v 0 n = x)) → zW L xs mX6_hasChild 3 [some (.ref 107), some (.int (nI i)), some (.int (nI p)), some (.int (zpI o)), some (.int x), some (.int e), some (.int (nI k))] [] (I, R, A, lo, dd) Φ) (n := vN v) ?_ ?_ 0 (Nat.zero_le _) (fun j q => absurd q (Nat.not_lt_zero _))
  · intro hn
    refine vc_X6_hasChild_3 ?_
    simp (disch := omega) only [ze_lit, pk_mul, nI_add, nI_clamp, ze_inI, m2, nI_ltI]
    exact ⟨by omega, fun q => absurd q (Nat.lt_irrefl _), fun _ => h0 (fun ⟨n, q1, q2⟩ => hn n q1 q2)⟩
  · intro k hk ih hn
    refine vc_X6_hasChild_3 ?_
    have h2 := w3 k hk
    have h3 : (zpI (vpar v k) = zpI o) ↔ vpar v k = o := zpI_inj (fun j hj => by have := zpar_lt hw hk hj; omega) ho
    simp (disch := omega) only [ze_lit, pk_mul, nI_add, nI_clamp, ze_inI, m2, nI_ltI, n5, n4, n0, nI_eq, h3]
    exact ⟨by omega, fun _ => ⟨fun q => ih (lt_s hn (fun z => z.1 q)), fun q => ⟨by omega, fun q2 => ⟨by omega, fun q3 => ⟨by omega, fun q4 => h1 ⟨k, hk, q, q2, q3, q4⟩, fun q4 => ih (lt_s hn (fun z => q4 z.2.2.2))⟩, fun q3 => ih (lt_s hn (fun z => q3 z.2.2.1))⟩, fun q2 => ih (lt_s hn (fun z => q2 z.2.1))⟩⟩, fun q => absurd hk q⟩
theorem s6_depthIn (hi : i ≤ 2) (hv : mIm i v A) (hw : zwf v) {n : Nat} (hn : n < vN v) (h : Φ (.inl (some (.int (nI (zmx (vdep v) n (zte v n - n) - vdep v n))))) (I, R, A, lo, dd) 0) : zC L xs mX6_depthIn [.ref 107, .int (nI i), .int (nI n)] (I, R, A, lo, dd) Φ := by
  have hw' := hw
  obtain ⟨w1, w2, w3, w4, w5, w6, w7, w8, w9⟩ := hw'
  have hg := zte_gt v n
  have hl := zte_le hn
  have hx : ∀ k, k ≤ zte v n - n → zmx (vdep v) n k ≤ 5 := by
    intro k
    induction k with
    | zero => intro _; unfold zmx; omega
    | succ k ih =>
      intro hk
      have h1 := ih (by omega)
      have h2 := w6 (n + k) (by omega)
      unfold zmx
      omega
  have hdn := w6 n hn
  refine zC_en (vc_X6_depthIn_0 ?_)
  have key : ∀ k, k ≤ zte v n - n → ∀ zx, zW L xs mX6_depthIn 5 [some (.ref 107), some (.int (nI i)), some (.int (nI n)), some (.int (nI (zmx (vdep v) n k - vdep v n))), some (.int (nI (n + k))), zx] [] (I, R, A, lo, dd) Φ := by
    refine ze_up ?_ ?_
    · intro zx
      refine vc_X6_depthIn_5 (s6_sizeOf hi hv hw hn (zk_r (vc_X6_depthIn_14 ?_)))
      simp (disch := omega) only [nI_add, nI_ltI]
      exact ⟨fun q => absurd q (by omega), fun _ => h⟩
    · intro k hk ih zx
      have h1 := hx k (by omega)
      have h2 := w6 (n + k) (by omega)
      have h3 : vdep v n ≤ vdep v (n + k) := by
        by_cases q : k = 0
        · subst q; exact Nat.le_refl _
        · exact Nat.le_of_lt (zte_in (v := v) (show n < n + k by omega) (by omega)).2
      refine vc_X6_depthIn_5 (s6_sizeOf hi hv hw hn (zk_r (vc_X6_depthIn_14 ?_)))
      simp (disch := omega) only [nI_add, nI_ltI]
      refine ⟨fun _ => s6_depthOf hi hv hw (by omega) (zk_r (vc_X6_depthIn_25 (s6_depthOf hi hv hw hn (zk_r (vc_X6_depthIn_31 ?_))))), fun q => absurd (by omega) q⟩
      rw [ze_sub h3]
      simp (disch := omega) only [ze_lit, nI_add, nI_ltI]
      unfold zmx at ih
      refine ⟨fun q => ?_, fun q => ?_⟩
      · have := ih (some (.int (nI (vdep v (n + k) - vdep v n))))
        rw [show max (zmx (vdep v) n k) (vdep v (n + k)) = vdep v (n + k) by omega] at this
        exact this
      · have := ih (some (.int (nI (vdep v (n + k) - vdep v n))))
        rw [show max (zmx (vdep v) n k) (vdep v (n + k)) - vdep v n = zmx (vdep v) n k - vdep v n by omega] at this
        exact this
  have := key 0 (Nat.zero_le _) none
  rw [show zmx (vdep v) n 0 - vdep v n = 0 from Nat.zero_sub _] at this
  exact this
theorem s6_behind (hi : i ≤ 2) (hv : mIm i v A) (hw : zwf v) {n : Nat} (hn : n < vN v) {o : Option Nat} (ho : ∀ k, o = some k → k < vN v) (h : Φ (.inl (some (.int (nI (zbh v n o))))) (I, R, A, lo, dd) 0) : zC L xs mX6_behind [.ref 107, .int (nI i), .int (zpI o), .int (nI n)] (I, R, A, lo, dd) Φ := by
  have hv' := hv
  obtain ⟨m0, m1, m2, p0, p1, p2, n0, n1, n2, n3, n4, n5⟩ := hv'
  have hw' := hw
  obtain ⟨w1, w2, w3, w4, w5, w6, w7, w8, w9⟩ := hw'
  refine zC_en (vc_X6_behind_0 ?_)
  cases o with
  | some k =>
    have hk := ho k rfl
    have hg := zte_gt v k
    refine ⟨fun q => ((ze_m1 (by omega)).mp q).elim, fun _ => s6_sizeOf hi hv hw hk (zk_r (vc_X6_behind_12 ?_))⟩
    show Φ (.inl (some (.int (nI k + nI (zte v k - k))))) (I, R, A, lo, dd) 0
    rw [nI_add, show k + (zte v k - k) = zte v k by omega]
    exact h
  | none =>
    refine ⟨fun _ => ?_, fun q => absurd rfl q⟩
    have key : ∀ k, k ≤ vN v → Φ (.inl (some (.int (nI (k + zwh (fun k => decide (vhom v k ≤ vhom v n)) k (vN v - k)))))) (I, R, A, lo, dd) 0 → zW L xs mX6_behind 17 [some (.ref 107), some (.int (nI i)), some (.int (-1)), some (.int (nI n)), some (.int (nI k))] [] (I, R, A, lo, dd) Φ := by
      refine ze_up ?_ ?_
      · intro h
        refine vc_X6_behind_17 ?_
        simp (disch := omega) only [ze_lit, pk_mul, nI_add, nI_clamp, ze_inI, m2, nI_ltI]
        rw [Nat.sub_self] at h
        exact ⟨by omega, fun q => absurd q (Nat.lt_irrefl _), fun _ => h⟩
      · intro k hk ih h
        refine vc_X6_behind_17 ?_
        have a1 := w3 k hk
        have a2 := w3 n hn
        simp (disch := omega) only [ze_lit, pk_mul, nI_add, nI_clamp, ze_inI, m2, nI_ltI, n5]
        refine ⟨by omega, fun _ => ⟨by omega, by omega, fun q => ?_, fun q => ih ?_⟩, fun q => absurd hk q⟩
        · rw [zwh_st (by simpa using q)] at h
          exact h
        · rw [show vN v - k = (vN v - (k + 1)) + 1 by omega, zwh_go (by simp; omega)] at h
          rw [show k + 1 + zwh (fun k => decide (vhom v k ≤ vhom v n)) (k + 1) (vN v - (k + 1)) = k + (zwh (fun k => decide (vhom v k ≤ vhom v n)) (k + 1) (vN v - (k + 1)) + 1) by omega]
          exact h
    refine key 0 (by omega) ?_
    rw [Nat.zero_add]
    exact h
end
