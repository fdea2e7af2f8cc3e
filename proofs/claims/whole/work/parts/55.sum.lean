/-! small numbers of either sign; sums -/
def iI (z : Int) : Int32 := Int32.ofInt z
theorem iI_n (n : Nat) : nI n = iI (n : Int) := Int32.ofInt_eq_ofNat.symm
theorem iI_add (a b : Int) : iI a + iI b = iI (a + b) := (Int32.ofInt_add ..).symm
theorem iI_sub (a b : Int) : iI a - iI b = iI (a - b) := (Int32.ofInt_sub ..).symm
def zsmall (a : Int) : Prop := -2 ^ 31 ≤ a ∧ a < 2 ^ 31
theorem iI_lt {a b : Int} (ha : zsmall a) (hb : zsmall b) : iI a < iI b ↔ a < b := by
  rw [Int32.lt_iff_toInt_lt]
  unfold iI
  rw [Int32.toInt_ofInt_of_le ha.1 ha.2, Int32.toInt_ofInt_of_le hb.1 hb.2]
theorem iI_eq {a b : Int} (ha : zsmall a) (hb : zsmall b) : iI a = iI b ↔ a = b := by
  constructor
  · intro q
    have := congrArg Int32.toInt q
    unfold iI at this
    rwa [Int32.toInt_ofInt_of_le ha.1 ha.2, Int32.toInt_ofInt_of_le hb.1 hb.2] at this
  · intro q; rw [q]
/-- f 0 + .. + f (n - 1) -/
def zsm (f : Nat → Int) : Nat → Int
  | 0 => 0
  | n + 1 => zsm f n + f n
theorem zsm_cong {f g : Nat → Int} {n : Nat} (h : ∀ i, i < n → f i = g i) : zsm f n = zsm g n := by
  induction n with
  | zero => rfl
  | succ n ih => show zsm f n + f n = zsm g n + g n; rw [ih (fun i hi => h i (by omega)), h n (by omega)]
theorem zsm_le {f g : Nat → Int} {n : Nat} (h : ∀ i, i < n → f i ≤ g i) : zsm f n ≤ zsm g n := by
  induction n with
  | zero => exact Int.le_refl _
  | succ n ih =>
    have h1 := ih (fun i hi => h i (by omega))
    have h2 := h n (by omega)
    show zsm f n + f n ≤ zsm g n + g n
    omega
theorem zsm_0 (n : Nat) : zsm (fun _ => 0) n = 0 := by
  induction n with
  | zero => rfl
  | succ n ih => show zsm _ n + 0 = 0; rw [ih]; rfl
theorem zsm_z {f : Nat → Int} {n : Nat} (h : ∀ i, i < n → f i = 0) : zsm f n = 0 := (zsm_cong h).trans (zsm_0 n)
theorem zsm_add (f g : Nat → Int) (n : Nat) : zsm (fun i => f i + g i) n = zsm f n + zsm g n := by
  induction n with
  | zero => rfl
  | succ n ih =>
    show zsm (fun i => f i + g i) n + (f n + g n) = (zsm f n + f n) + (zsm g n + g n)
    rw [ih]
    omega
theorem zsm_neg (f : Nat → Int) (n : Nat) : zsm (fun i => - f i) n = - zsm f n := by
  induction n with
  | zero => rfl
  | succ n ih =>
    show zsm (fun i => - f i) n + (- f n) = - (zsm f n + f n)
    rw [ih]
    omega
theorem zsm_swap (f : Nat → Nat → Int) (n m : Nat) : zsm (fun i => zsm (f i) m) n = zsm (fun j => zsm (fun i => f i j) n) m := by
  induction n with
  | zero => exact (zsm_0 m).symm
  | succ n ih =>
    show zsm (fun i => zsm (f i) m) n + zsm (f n) m = _
    rw [ih, ← zsm_add]
    rfl
theorem zsm_one {n a : Nat} {x : Int} : zsm (fun i => if i = a then x else 0) n = if a < n then x else 0 := by
  induction n with
  | zero => exact (if_neg (Nat.not_lt_zero _)).symm
  | succ n ih =>
    show zsm (fun i => if i = a then x else 0) n + (if n = a then x else 0) = _
    rw [ih]
    by_cases q : n = a
    · rw [if_neg (by omega), if_pos q, if_pos (by omega)]
      omega
    · by_cases q2 : a < n
      · rw [if_pos q2, if_neg q, if_pos (by omega)]
        omega
      · rw [if_neg q2, if_neg q, if_neg (by omega)]
        rfl
/-- what f takes n to, by w -/
def zwo (w : Nat → Int) (o : Option Nat) : Int := match o with
  | none => 0
  | some m => w m
theorem zwo_sm {w : Nat → Int} {o : Option Nat} {m : Nat} (h : ∀ k, o = some k → k < m) : zwo w o = zsm (fun k => if o = some k then w k else 0) m := by
  cases o with
  | none => exact (zsm_z (fun i _ => if_neg (fun q => by cases q))).symm
  | some k =>
    have hk := h k rfl
    have : zsm (fun i => if (some k : Option Nat) = some i then w i else 0) m = zsm (fun i => if i = k then w k else 0) m := zsm_cong (fun i _ => by
      by_cases q : i = k
      · rw [if_pos q, q, if_pos rfl]
      · rw [if_neg q, if_neg (fun z => q (by cases z; rfl))])
    rw [this, zsm_one, if_pos hk]
    rfl
/-- partners: a sum over the one side is a sum over the other -/
theorem zsm_mv {f g : Nat → Option Nat} {n m : Nat} (hf : ∀ i j, f i = some j → i < n → j < m ∧ g j = some i) (hg : ∀ i j, g j = some i → j < m → i < n ∧ f i = some j) (w : Nat → Int) : zsm (fun i => zwo w (f i)) n = zsm (fun j => if g j = none then 0 else w j) m := by
  have h1 : zsm (fun i => zwo w (f i)) n = zsm (fun i => zsm (fun k => if f i = some k then w k else 0) m) n := zsm_cong (fun i hi => zwo_sm (fun k hk => (hf i k hk hi).1))
  rw [h1, zsm_swap]
  refine zsm_cong (fun j hj => ?_)
  cases e : g j with
  | none =>
    rw [if_pos rfl]
    refine zsm_z (fun i hi => if_neg (fun z => ?_))
    have := (hf i j z hi).2
    rw [e] at this
    cases this
  | some a =>
    obtain ⟨a1, a2⟩ := hg a j e hj
    rw [if_neg (fun z => by cases z)]
    have : zsm (fun i => if f i = some j then w j else 0) n = zsm (fun i => if i = a then w j else 0) n := zsm_cong (fun i hi => by
      by_cases q : i = a
      · rw [if_pos q, q, if_pos a2]
      · rw [if_neg q, if_neg (fun z => ?_)]
        have := (hf i j z hi).2
        rw [e] at this
        cases this
        exact q rfl)
    rw [this, zsm_one, if_pos a1]
/-- costs -/
def cCo (co : Nat → Nat) (A : Nat → Nat → Int32) : Prop := ∀ k, k < 11 → A 47 k = nI (co k) ∧ co k ≤ 99
def mCo (co : Nat → Nat) (A : Nat → Nat → Int32) : Prop := ∀ k, k < 11 → A 109 k = nI (co k) ∧ co k ≤ 99
def zpcs (f : Nat → Bool) (co : Nat → Nat) : Nat → Nat
  | 0 => 0
  | n + 1 => zpcs f co n + if f (5 + n) = true then co (5 + n) else 0
/-- what a pair of files costs -/
def zpc (v u : zV) (sp : zM) (sn : zMn) (co : Nat → Nat) (i j : Nat) : Nat := zpcs (fun k => zneed v u sp.1 sn.1.1 k i j) co 4
theorem zpcs_le {f : Nat → Bool} {co : Nat → Nat} (h : ∀ k, k < 11 → co k ≤ 99) : ∀ n, n ≤ 4 → zpcs f co n ≤ 99 * n := by
  intro n
  induction n with
  | zero => intro _; exact Nat.le_refl _
  | succ n ih =>
    intro hn
    have h1 := ih (by omega)
    have h2 := h (5 + n) (by omega)
    show zpcs f co n + _ ≤ _
    split <;> omega
section
variable {L : Nat} {xs : Nat → Int32} {I : Nat → Nat → Int32} {R : Nat → Nat → Option Nat} {A : Nat → Nat → Int32} {lo : Int64} {dd : UInt64} {Φ : zPo} {b a d f : Nat} {v u : zV} {sp : zM} {sn : zMn} {co : Nat → Nat} {i j : Nat}
theorem s0_pairCost (hb : z_ib b) (ha : z_ib a) (hRb : R 48 0 = some b) (hRa : R 48 1 = some a) (hE : zEn b a 48 v u sp sn I A) (hwf : zwf v) (hwu : zwf u) (hmp : zmo (vP v) (vP u) sp) (hm : zmo (vN v) (vN u) sn.1) (hc : cCo co A) (hi : i < vN v) (hj : j < vN u) (h : Φ (.inl (some (.int (nI (zpc v u sp sn co i j))))) (I, R, A, lo, dd) 0) : zC L xs mX0_pairCost [.ref 48, .ref 47, .int (nI i), .int (nI j)] (I, R, A, lo, dd) Φ := by
  refine zC_en (vc_X0_pairCost_0 ?_)
  have hco : ∀ k, k < 11 → co k ≤ 99 := fun k hk => (hc k hk).2
  have loop : ∀ n, n ≤ 4 → zW L xs mX0_pairCost 6 [some (.ref 48), some (.ref 47), some (.int (nI i)), some (.int (nI j)), some (.int (nI (zpcs (fun k => zneed v u sp.1 sn.1.1 k i j) co n))), some (.int (nI (5 + n)))] [] (I, R, A, lo, dd) Φ := by
    refine ze_up ?_ ?_
    · exact vc_X0_pairCost_6 ⟨fun _ => h, fun z => absurd (by decide) z⟩
    · intro n hn ih
      refine vc_X0_pairCost_6 ⟨fun z => absurd z (nI_nlt (a := 8) (by omega) (by omega)), fun _ => s1_needs (Or.inl rfl) hb ha hRb hRa hE hwf hwu hmp hm (k := 5 + n) (by omega) hi hj (fun e => zk_r (vc_X0_pairCost_21 ⟨fun z => absurd z (by decide), fun _ => ⟨nI_in (by omega) (by decide), ?_⟩⟩)) (fun e => zk_r (vc_X0_pairCost_21 ⟨fun _ => ?_, fun z => absurd rfl z⟩))⟩
      · have e2 : zpcs (fun k => zneed v u sp.1 sn.1.1 k i j) co (n + 1) = zpcs (fun k => zneed v u sp.1 sn.1.1 k i j) co n + co (5 + n) := by
          show _ + (if _ then _ else _) = _
          rw [if_pos e]
        rw [nI_clamp (by omega), (hc (5 + n) (by omega)).1, nI_add, nI_1]
        rw [e2] at ih
        exact ih
      · have e2 : zpcs (fun k => zneed v u sp.1 sn.1.1 k i j) co (n + 1) = zpcs (fun k => zneed v u sp.1 sn.1.1 k i j) co n := by
          show _ + (if _ then _ else _) = _
          rw [if_neg (fun z => absurd (e.symm.trans z) (by decide))]
          rfl
        rw [nI_1]
        rw [e2] at ih
        exact ih
  exact loop 0 (Nat.zero_le _)
theorem s6_pairCost {ia ib : Nat} (ha : ia ≤ 1) (hb : ib ≤ 1) (hE : mEn ia ib v u sp sn I A) (hwf : zwf v) (hwu : zwf u) (hmp : zmo (vP v) (vP u) sp) (hm : zmo (vN v) (vN u) sn.1) (hc : mCo co A) (hi : i < vN v) (hj : j < vN u) (h : Φ (.inl (some (.int (nI (zpc v u sp sn co i j))))) (I, R, A, lo, dd) 0) : zC L xs mX6_pairCost [.ref 107, .int (nI i), .int (nI j)] (I, R, A, lo, dd) Φ := by
  refine zC_en (vc_X6_pairCost_0 ?_)
  have loop : ∀ n, n ≤ 4 → zW L xs mX6_pairCost 5 [some (.ref 107), some (.int (nI i)), some (.int (nI j)), some (.int (nI (zpcs (fun k => zneed v u sp.1 sn.1.1 k i j) co n))), some (.int (nI (5 + n)))] [] (I, R, A, lo, dd) Φ := by
    refine ze_up ?_ ?_
    · exact vc_X6_pairCost_5 ⟨fun _ => h, fun z => absurd (by decide) z⟩
    · intro n hn ih
      refine vc_X6_pairCost_5 ⟨fun z => absurd z (nI_nlt (a := 8) (by omega) (by omega)), fun _ => s6_needs ha hb hE hwf hwu hmp hm (k := 5 + n) (by omega) hi hj (fun e => zk_r (vc_X6_pairCost_21 ⟨fun z => absurd z (by decide), fun _ => ⟨nI_in (by omega) (by decide), ?_⟩⟩)) (fun e => zk_r (vc_X6_pairCost_21 ⟨fun _ => ?_, fun z => absurd rfl z⟩))⟩
      · have e2 : zpcs (fun k => zneed v u sp.1 sn.1.1 k i j) co (n + 1) = zpcs (fun k => zneed v u sp.1 sn.1.1 k i j) co n + co (5 + n) := by
          show _ + (if _ then _ else _) = _
          rw [if_pos e]
        rw [nI_clamp (by omega), (hc (5 + n) (by omega)).1, nI_add, nI_1]
        rw [e2] at ih
        exact ih
      · have e2 : zpcs (fun k => zneed v u sp.1 sn.1.1 k i j) co (n + 1) = zpcs (fun k => zneed v u sp.1 sn.1.1 k i j) co n := by
          show _ + (if _ then _ else _) = _
          rw [if_neg (fun z => absurd (e.symm.trans z) (by decide))]
          rfl
        rw [nI_1, show ((0 : Int32)) = nI 0 from rfl, nI_add]
        rw [e2] at ih
        exact ih
  exact loop 0 (Nat.zero_le _)
/-- what pairing two files saves -/
def zgain (v u : zV) (sp : zM) (sn : zMn) (co : Nat → Nat) (i j : Nat) : Int := ((co 9 + co 4 : Nat) : Int) - (zpc v u sp sn co i j : Int)
theorem s6_gain {ia ib : Nat} (ha : ia ≤ 1) (hb : ib ≤ 1) (hE : mEn ia ib v u sp sn I A) (hwf : zwf v) (hwu : zwf u) (hmp : zmo (vP v) (vP u) sp) (hm : zmo (vN v) (vN u) sn.1) (hc : mCo co A) (hi : i < vN v) (hj : j < vN u) (h : Φ (.inl (some (.int (iI (zgain v u sp sn co i j))))) (I, R, A, lo, dd) 0) : zC L xs mX6_gain [.ref 107, .int (nI i), .int (nI j)] (I, R, A, lo, dd) Φ := by
  refine zC_en (vc_X6_gain_0 (s6_pairCost ha hb hE hwf hwu hmp hm hc hi hj (zk_r (vc_X6_gain_20 ?_))))
  rw [(hc 9 (by omega)).1, (hc 4 (by omega)).1, nI_add, iI_n, iI_n, iI_sub]
  exact h
theorem zgain_b (hc : ∀ k, k < 11 → co k ≤ 99) : -396 ≤ zgain v u sp sn co i j ∧ zgain v u sp sn co i j ≤ 198 := by
  have h1 := zpcs_le (f := fun k => zneed v u sp.1 sn.1.1 k i j) hc 4 (Nat.le_refl _)
  have h9 := hc 9 (by omega)
  have h4 := hc 4 (by omega)
  have : zpc v u sp sn co i j ≤ 396 := h1
  unfold zgain
  omega
end
