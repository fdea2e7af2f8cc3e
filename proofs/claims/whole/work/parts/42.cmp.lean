/-! replay: the class's counting is the model's -/
theorem zcnt_add (f : Nat → Bool) (a b : Nat) : zcnt f (a + b) = zcnt f a + zcnt (fun i => f (a + i)) b := by
  induction b with
  | zero => rfl
  | succ b ih =>
    show zcnt f (a + b) + (if f (a + b) = true then 1 else 0) = zcnt f a + (zcnt (fun i => f (a + i)) b + (if f (a + b) = true then 1 else 0))
    rw [ih]
    omega
theorem zcnt_0 {f : Nat → Bool} {n : Nat} : zcnt f n = 0 ↔ ∀ k, k < n → f k = false := by
  induction n with
  | zero => exact ⟨fun _ k q => absurd q (Nat.not_lt_zero _), fun _ => rfl⟩
  | succ n ih =>
    unfold zcnt
    constructor
    · intro h k hk
      by_cases e : k = n
      · subst e
        cases q : f k with
        | false => rfl
        | true => rw [q, if_pos rfl] at h; omega
      · exact ih.mp (by omega) k (by omega)
    · intro h
      rw [h n (by omega), ih.mpr (fun k hk => h k (by omega))]
      rfl
def zct (p : zOp → Bool) (l : List zOp) : Nat := zcnt (fun k => p (zat l k)) l.length
def zcf (l : List zOp) (p : zOp → Bool) (n : Nat) : Nat := zcnt (fun i => p (zat l (n + i))) (l.length - n)
theorem zct_snoc (p : zOp → Bool) (l : List zOp) (e : zOp) : zct p (l ++ [e]) = zct p l + if p e = true then 1 else 0 := by
  unfold zct
  rw [List.length_append, show [e].length = 1 from rfl]
  show zcnt _ l.length + (if p (zat (l ++ [e]) l.length) = true then 1 else 0) = _
  rw [zat_e, zcnt_cong (fun i hi => by rw [zat_l hi])]
theorem zct_app (p : zOp → Bool) (l m : List zOp) : zct p (l ++ m) = zct p l + zct p m := by
  have h : ∀ m l, zct p (l ++ m) = zct p l + zct p m := by
    intro m
    suffices h : ∀ k (m : List zOp), m.length = k → ∀ l, zct p (l ++ m) = zct p l + zct p m from h _ m rfl
    intro k
    induction k with
    | zero =>
      intro m hm l
      rw [List.length_eq_zero_iff.mp hm, List.append_nil]
      rfl
    | succ k ih =>
      intro m hm l
      have hne : m ≠ [] := fun z => by rw [z] at hm; cases hm
      obtain ⟨m', e, rfl⟩ : ∃ m' e, m = m' ++ [e] := ⟨m.dropLast, m.getLast hne, (List.dropLast_concat_getLast hne).symm⟩
      rw [List.length_append, show [e].length = 1 from rfl] at hm
      rw [← List.append_assoc, zct_snoc, zct_snoc, ih m' (by omega)]
      omega
  exact h m l
theorem zct_no {p : zOp → Bool} {l : List zOp} (h : ∀ e, e ∈ l → p e = false) : zct p l = 0 := zcnt_0.mpr (fun k hk => h _ (zat_mem hk))
theorem zct_fm (p : zOp → Bool) (g : Nat → List zOp) (n : Nat) : zct p ((List.range n).flatMap g) = zsum (fun i => zct p (g i)) n := by
  induction n with
  | zero => rfl
  | succ n ih => rw [zfm_s, zct_app, ih]; rfl
theorem zct_one (p : zOp → Bool) (e : zOp) : zct p [e] = if p e = true then 1 else 0 := by
  have := zct_snoc p [] e
  rw [List.nil_append] at this
  rw [this]
  exact Nat.zero_add _
theorem zct_nil (p : zOp → Bool) : zct p [] = 0 := rfl
theorem zcf_split {l : List zOp} (p : zOp → Bool) {n : Nat} (h : n ≤ l.length) : zct p l = zcnt (fun k => p (zat l k)) n + zcf l p n := by
  unfold zct zcf
  rw [← zcnt_add (fun k => p (zat l k)), Nat.add_sub_cancel' h]
theorem zcf_0 {l : List zOp} {p : zOp → Bool} {n : Nat} : zcf l p n = 0 ↔ ∀ k, n ≤ k → k < l.length → p (zat l k) = false := by
  unfold zcf
  rw [zcnt_0]
  constructor
  · intro h k h1 h2
    have := h (k - n) (by omega)
    rw [show n + (k - n) = k by omega] at this
    exact this
  · intro h k hk
    exact h (n + k) (by omega) (by omega)
theorem zlf_iff {p : Nat → Bool} {m n : Nat} : zlf p m ≤ n ↔ ∀ k, n ≤ k → k < m → p k = false := by
  induction m with
  | zero => exact ⟨fun _ k _ q => absurd q (Nat.not_lt_zero _), fun _ => Nat.zero_le _⟩
  | succ m ih =>
    unfold zlf
    cases q : p m with
    | true =>
      rw [if_pos rfl]
      constructor
      · intro h k h1 h2
        omega
      · intro h
        refine Nat.lt_of_not_le (fun z => ?_)
        have := h m z (Nat.lt_succ_self _)
        rw [q] at this
        cases this
    | false =>
      rw [if_neg (by decide), ih]
      constructor
      · intro h k h1 h2
        by_cases e : k = m
        · rw [e]; exact q
        · exact h k h1 (by omega)
      · intro h k h1 h2
        exact h k h1 (by omega)
theorem zl_iff {l : List zOp} {p : zOp → Bool} {n : Nat} : zl p l ≤ n ↔ zcf l p n = 0 := by
  rw [zcf_0]
  exact zlf_iff
theorem zcf_s {l : List zOp} (p : zOp → Bool) {n : Nat} (h : n < l.length) : zcf l p n = (if p (zat l n) = true then 1 else 0) + zcf l p (n + 1) := by
  unfold zcf
  rw [show l.length - n = 1 + (l.length - (n + 1)) by omega, zcnt_add]
  rw [zcnt_cong (p := fun i => p (zat l (n + (1 + i)))) (q := fun i => p (zat l (n + 1 + i))) (fun i _ => by rw [Nat.add_assoc])]
  show (0 + if p (zat l (n + 0)) = true then 1 else 0) + _ = _
  rw [Nat.add_zero, Nat.zero_add]
theorem zcf_cong {l : List zOp} {p q : zOp → Bool} {n : Nat} (h : ∀ e, e ∈ l → p e = q e) : zcf l p n = zcf l q n := zcnt_cong (fun i hi => h _ (zat_mem (by omega)))
theorem zq13_f {e : zOp} {j : Nat} (h : ¬ (1 ≤ e.1 ∧ e.1 ≤ 3)) : zq13 j e = false := decide_eq_false (fun z => h ⟨z.1, z.2.1⟩)
theorem zq48_f {e : zOp} {j : Nat} (h : ¬ (4 ≤ e.1 ∧ e.1 ≤ 8)) : zq48 j e = false := decide_eq_false (fun z => h ⟨z.1, z.2.1⟩)
theorem zqf_f {e : zOp} {lo hi o : Nat} (h : ¬ (lo ≤ e.1 ∧ e.1 ≤ hi)) : zqf lo hi o e = false := decide_eq_false (fun z => h ⟨z.1, z.2.1⟩)
theorem zqf_t {e : zOp} {lo hi o : Nat} (h1 : lo ≤ e.1) (h2 : e.1 ≤ hi) (h3 : e.2.1 = some o) : zqf lo hi o e = true := decide_eq_true ⟨h1, h2, h3⟩
theorem zqf_n {e : zOp} {lo hi o : Nat} (h : e.2.1 ≠ some o) : zqf lo hi o e = false := decide_eq_false (fun z => h z.2.2)
/-- agreement: new ones against created ones and old ones -/
theorem zagr {l : List zOp} {s : zM} {N M n k0 : Nat} {q r : Nat → zOp → Bool} (hm : zmo N M s) (hn : n ≤ l.length) (H1 : ∀ e, e ∈ l → ∀ i j, s.1 i = some j → q j e = r i e) (H2 : ∀ e, e ∈ l → ∀ j, s.2 j = none → q j e = decide (e.1 = k0 ∧ e.2.2 = some j)) (H3 : ∀ e, e ∈ l → e.1 = k0 → ∃ j, j < M ∧ e.2.2 = some j) (H4 : ∀ j, j < M → zct (fun e => decide (e.1 = k0 ∧ e.2.2 = some j)) l = if s.2 j = none then 1 else 0) : zcnt (fun j => decide (zl (q j) l ≤ n)) M = zcnt (fun k => decide ((zat l k).1 = k0)) n + zcnt (fun i => decide (¬ s.1 i = none) && decide (zcf l (r i) n = 0)) N := by
  have a1 : zcnt (fun k => decide ((zat l k).1 = k0)) n = zsum (fun j => if s.2 j = none ∧ zl (q j) l ≤ n then 1 else 0) M := by
    rw [zcnt_sum, zsum_cong (g := fun k => zsum (fun j => if (zat l k).1 = k0 ∧ (zat l k).2.2 = some j then 1 else 0) M) (fun k hk => ?_), zsum_comm]
    · refine zsum_cong (fun j hj => ?_)
      have h4 := H4 j hj
      rw [zcf_split _ hn] at h4
      have e1 : zsum (fun k => if (zat l k).1 = k0 ∧ (zat l k).2.2 = some j then 1 else 0) n = zcnt (fun k => decide ((zat l k).1 = k0 ∧ (zat l k).2.2 = some j)) n := by
        rw [zcnt_sum]
        exact zsum_cong (fun k _ => by simp)
      rw [e1]
      by_cases e : s.2 j = none
      · rw [if_pos e] at h4
        have e2 : zl (q j) l ≤ n ↔ zcf l (fun e => decide (e.1 = k0 ∧ e.2.2 = some j)) n = 0 := by
          rw [zl_iff, zcf_cong (fun e he => H2 e he j ‹_›)]
        by_cases e3 : zcf l (fun e => decide (e.1 = k0 ∧ e.2.2 = some j)) n = 0
        · rw [if_pos ⟨e, e2.mpr e3⟩]
          omega
        · rw [if_neg (fun z => e3 (e2.mp z.2))]
          omega
      · rw [if_neg e] at h4
        rw [if_neg (fun z => e z.1)]
        omega
    · by_cases e : (zat l k).1 = k0
      · obtain ⟨j, hj, hj2⟩ := H3 _ (zat_mem (show k < l.length by omega)) e
        rw [if_pos (decide_eq_true e), zsum_cong (g := fun m => if j = m then 1 else 0) (fun m _ => by rw [hj2]; by_cases z : j = m <;> simp [e, z]), zsum_one (fun _ => 1) hj]
      · rw [if_neg (by simpa using e), zsum_cong (g := fun _ => 0) (fun m _ => if_neg (fun z => e z.1)), zsum_0]
  have a2 : zcnt (fun i => decide (¬ s.1 i = none) && decide (zcf l (r i) n = 0)) N = zsum (fun j => if s.2 j = none then 0 else if zl (q j) l ≤ n then 1 else 0) M := by
    rw [← zsum_re hm (fun j => if zl (q j) l ≤ n then 1 else 0), zcnt_sum]
    refine zsum_cong (fun i hi => ?_)
    cases e : s.1 i with
    | none => simp [zog]
    | some j =>
      have e2 : zl (q j) l ≤ n ↔ zcf l (r i) n = 0 := by
        rw [zl_iff, zcf_cong (fun x hx => H1 x hx i j e)]
      simp [zog, e2]
  rw [a1, a2, ← zsum_add, zcnt_sum]
  refine zsum_cong (fun j hj => ?_)
  by_cases e : s.2 j = none <;> by_cases e2 : zl (q j) l ≤ n <;> simp [e, e2]
/-- what an operation of the script is -/
theorem zops_mem {v u : zV} {sp sn : zM} {e : zOp} (h : e ∈ zops v u sp sn) : (∃ i, i < vP v ∧ e = (0, some i, none) ∧ sp.1 i = none) ∨ (∃ i j k, i < vP v ∧ sp.1 i = some j ∧ 1 ≤ k ∧ k ≤ 2 ∧ e = (k, some i, some j)) ∨ (∃ j, j < vP u ∧ e = (3, none, some j) ∧ sp.2 j = none) ∨ (∃ j, j < vN u ∧ e = (4, none, some j) ∧ sn.2 j = none) ∨ (∃ i j k, i < vN v ∧ sn.1 i = some j ∧ k < 4 ∧ e = (5 + k, some i, some j)) ∨ (∃ i, i < vN v ∧ e = (9, some i, none) ∧ sn.1 i = none ∧ ¬ sp.1 (vhom v i) = none) ∨ e = (10, none, none) := by
  unfold zops at h
  simp only [List.mem_append] at h
  rcases h with (((((h | h) | h) | h) | h) | h) | h
  · obtain ⟨i, hi, h⟩ := zfm_mem h; obtain ⟨h1, h2⟩ := zm0 h; exact Or.inl ⟨i, hi, h1, h2⟩
  · obtain ⟨i, hi, h⟩ := zfm_mem h; obtain ⟨j, k, h1, h2, h3, h4⟩ := zm12 h; exact Or.inr (Or.inl ⟨i, j, k, hi, h1, h2, h3, h4⟩)
  · obtain ⟨i, hi, h⟩ := zfm_mem h; obtain ⟨h1, h2⟩ := zm3 h; exact Or.inr (Or.inr (Or.inl ⟨i, hi, h1, h2⟩))
  · obtain ⟨i, hi, h⟩ := zfm_mem h; obtain ⟨h1, h2⟩ := zm4 h; exact Or.inr (Or.inr (Or.inr (Or.inl ⟨i, hi, h1, h2⟩)))
  · obtain ⟨i, hi, h⟩ := zfm_mem h; obtain ⟨j, k, h1, h2, h3⟩ := zm58 h; exact Or.inr (Or.inr (Or.inr (Or.inr (Or.inl ⟨i, j, k, hi, h1, h2, h3⟩))))
  · obtain ⟨i, hi, h⟩ := zfm_mem h; obtain ⟨h1, h2, h3⟩ := zm9 h; exact Or.inr (Or.inr (Or.inr (Or.inr (Or.inr (Or.inl ⟨_, by omega, h1, h2, h3⟩)))))
  · exact Or.inr (Or.inr (Or.inr (Or.inr (Or.inr (Or.inr (zm10 h))))))
theorem zct_ops (p : zOp → Bool) (v u : zV) (sp sn : zM) : zct p (zops v u sp sn) = zct p (zs1 v sp) + zct p (zs2 v u sp) + zct p (zs3 u sp) + zct p (zs4 u sn) + zct p (zs5 v u sp sn) + zct p (zs6 v sp sn) + zct p (zo10 v u) := by
  unfold zops
  simp only [zct_app]
/-- a kind that stands in one part only -/
theorem zct_k {v u : zV} {sp sn : zM} {p : zOp → Bool} {k0 : Nat} (hp : ∀ e, p e = true → e.1 = k0) : (k0 = 0 → zct p (zops v u sp sn) = zct p (zs1 v sp)) ∧ (k0 = 3 → zct p (zops v u sp sn) = zct p (zs3 u sp)) ∧ (k0 = 4 → zct p (zops v u sp sn) = zct p (zs4 u sn)) ∧ (k0 = 9 → zct p (zops v u sp sn) = zct p (zs6 v sp sn)) := by
  have hn : ∀ e, e.1 ≠ k0 → p e = false := fun e he => by
    cases q : p e with
    | false => rfl
    | true => exact absurd (hp e q) he
  have b1 : k0 ≠ 0 → zct p (zs1 v sp) = 0 := fun q => zct_no (fun e he => by obtain ⟨i, _, h⟩ := zfm_mem he; exact hn e (by rw [(zm0 h).1]; exact fun z => q z.symm))
  have b2 : ¬ (1 ≤ k0 ∧ k0 ≤ 2) → zct p (zs2 v u sp) = 0 := fun q => zct_no (fun e he => by obtain ⟨i, _, h⟩ := zfm_mem he; obtain ⟨j, k, h1, h2, h3, rfl⟩ := zm12 h; exact hn _ (fun z => q (by simp only at z; omega)))
  have b3 : k0 ≠ 3 → zct p (zs3 u sp) = 0 := fun q => zct_no (fun e he => by obtain ⟨i, _, h⟩ := zfm_mem he; exact hn e (by rw [(zm3 h).1]; exact fun z => q z.symm))
  have b4 : k0 ≠ 4 → zct p (zs4 u sn) = 0 := fun q => zct_no (fun e he => by obtain ⟨i, _, h⟩ := zfm_mem he; exact hn e (by rw [(zm4 h).1]; exact fun z => q z.symm))
  have b5 : ¬ (5 ≤ k0 ∧ k0 ≤ 8) → zct p (zs5 v u sp sn) = 0 := fun q => zct_no (fun e he => by obtain ⟨i, _, h⟩ := zfm_mem he; obtain ⟨j, k, h1, h2, rfl⟩ := zm58 h; exact hn _ (fun z => q (by simp only at z; omega)))
  have b6 : k0 ≠ 9 → zct p (zs6 v sp sn) = 0 := fun q => zct_no (fun e he => by obtain ⟨i, _, h⟩ := zfm_mem he; exact hn e (by rw [(zm9 h).1]; exact fun z => q z.symm))
  have b7 : k0 ≠ 10 → zct p (zo10 v u) = 0 := fun q => zct_no (fun e he => hn e (by rw [zm10 he]; exact fun z => q z.symm))
  rw [zct_ops]
  refine ⟨fun q => ?_, fun q => ?_, fun q => ?_, fun q => ?_⟩
  · rw [b2 (by omega), b3 (by omega), b4 (by omega), b5 (by omega), b6 (by omega), b7 (by omega)]
    omega
  · rw [b1 (by omega), b2 (by omega), b4 (by omega), b5 (by omega), b6 (by omega), b7 (by omega)]
    omega
  · rw [b1 (by omega), b2 (by omega), b3 (by omega), b5 (by omega), b6 (by omega), b7 (by omega)]
    omega
  · rw [b1 (by omega), b2 (by omega), b3 (by omega), b4 (by omega), b5 (by omega), b7 (by omega)]
    omega
theorem zagrP {v u : zV} {sp sn : zM} (hmp : zmo (vP v) (vP u) sp) {n : Nat} (hn : n ≤ (zops v u sp sn).length) : zcnt (fun j => decide (zl (zq13 j) (zops v u sp sn) ≤ n)) (vP u) = zcnt (fun k => decide ((zat (zops v u sp sn) k).1 = 3)) n + zcnt (fun i => decide (¬ sp.1 i = none) && decide (zcf (zops v u sp sn) (zqf 1 2 i) n = 0)) (vP v) := by
  refine zagr hmp hn ?_ ?_ ?_ ?_
  · intro e he i j hij
    have hji := (hmp.1 i j hij).2.2
    rcases zops_mem he with ⟨a, h0, rfl, h1⟩ | ⟨a, c, k, h0, h1, h2, h3, rfl⟩ | ⟨c, h0, rfl, h1⟩ | ⟨c, h0, rfl, h1⟩ | ⟨a, c, k, h0, h1, h2, rfl⟩ | ⟨a, h0, rfl, h1, h2⟩ | rfl
    · rw [zq13_f (by dsimp only; omega), zqf_f (by dsimp only; omega)]
    · unfold zq13 zqf
      rw [decide_eq_decide]
      have hca := (hmp.1 a c h1).2.2
      dsimp only
      constructor
      · rintro ⟨z1, z2, z3⟩
        have z4 : c = j := Option.some.inj z3
        rw [z4, hji] at hca
        exact ⟨h2, h3, hca.symm⟩
      · rintro ⟨z1, z2, z3⟩
        have z4 : a = i := Option.some.inj z3
        rw [z4, hij] at h1
        exact ⟨h2, by omega, h1.symm⟩
    · rw [zqf_n (by dsimp only; exact fun z => by cases z)]
      refine decide_eq_false (fun z => ?_)
      have z4 : c = j := Option.some.inj z.2.2
      rw [z4, hji] at h1
      cases h1
    · rw [zq13_f (by dsimp only; omega), zqf_f (by dsimp only; omega)]
    · rw [zq13_f (by dsimp only; omega), zqf_f (by dsimp only; omega)]
    · rw [zq13_f (by dsimp only; omega), zqf_f (by dsimp only; omega)]
    · rw [zq13_f (by dsimp only; omega), zqf_f (by dsimp only; omega)]
  · intro e he j hj
    rcases zops_mem he with ⟨a, h0, rfl, h1⟩ | ⟨a, c, k, h0, h1, h2, h3, rfl⟩ | ⟨c, h0, rfl, h1⟩ | ⟨c, h0, rfl, h1⟩ | ⟨a, c, k, h0, h1, h2, rfl⟩ | ⟨a, h0, rfl, h1, h2⟩ | rfl
    · rw [zq13_f (by dsimp only; omega), decide_eq_false (fun z => absurd z.1 (by dsimp only; omega))]
    · rw [decide_eq_false (fun z => absurd z.1 (by dsimp only; omega))]
      refine decide_eq_false (fun z => ?_)
      have z4 : c = j := Option.some.inj z.2.2
      have := (hmp.1 a c h1).2.2
      rw [z4, hj] at this
      cases this
    · unfold zq13
      rw [decide_eq_decide]
      exact ⟨fun z => ⟨rfl, z.2.2⟩, fun z => ⟨by dsimp only; omega, by dsimp only; omega, z.2⟩⟩
    · rw [zq13_f (by dsimp only; omega), decide_eq_false (fun z => absurd z.1 (by dsimp only; omega))]
    · rw [zq13_f (by dsimp only; omega), decide_eq_false (fun z => absurd z.1 (by dsimp only; omega))]
    · rw [zq13_f (by dsimp only; omega), decide_eq_false (fun z => absurd z.1 (by dsimp only; omega))]
    · rw [zq13_f (by dsimp only; omega), decide_eq_false (fun z => absurd z.1 (by dsimp only; omega))]
  · intro e he hk
    rcases zops_mem he with ⟨a, h0, rfl, h1⟩ | ⟨a, c, k, h0, h1, h2, h3, rfl⟩ | ⟨c, h0, rfl, h1⟩ | ⟨c, h0, rfl, h1⟩ | ⟨a, c, k, h0, h1, h2, rfl⟩ | ⟨a, h0, rfl, h1, h2⟩ | rfl
    · dsimp only at hk; omega
    · dsimp only at hk; omega
    · exact ⟨c, h0, rfl⟩
    · dsimp only at hk; omega
    · dsimp only at hk; omega
    · dsimp only at hk; omega
    · dsimp only at hk; omega
  · intro j hj
    rw [(zct_k (k0 := 3) (fun e he => (of_decide_eq_true he).1)).2.1 rfl, zs3, zct_fm, zsum_cong (g := fun i => if j = i then (if sp.2 i = none then 1 else 0) else 0) (fun i _ => ?_), zsum_one _ hj]
    unfold zo3
    split
    · rw [zct_one]
      by_cases z : j = i
      · rw [if_pos (decide_eq_true ⟨rfl, by rw [z]⟩), if_pos z]
      · rw [if_neg (by rw [decide_eq_false (fun y => z (Option.some.inj y.2).symm)]; decide), if_neg z]
    · rw [zct_nil]
      split <;> rfl
theorem zagrN {v u : zV} {sp sn : zM} (hm : zmo (vN v) (vN u) sn) {n : Nat} (hn : n ≤ (zops v u sp sn).length) : zcnt (fun j => decide (zl (zq48 j) (zops v u sp sn) ≤ n)) (vN u) = zcnt (fun k => decide ((zat (zops v u sp sn) k).1 = 4)) n + zcnt (fun i => decide (¬ sn.1 i = none) && decide (zcf (zops v u sp sn) (zqf 5 8 i) n = 0)) (vN v) := by
  refine zagr hm hn ?_ ?_ ?_ ?_
  · intro e he i j hij
    have hji := (hm.1 i j hij).2.2
    rcases zops_mem he with ⟨a, h0, rfl, h1⟩ | ⟨a, c, k, h0, h1, h2, h3, rfl⟩ | ⟨c, h0, rfl, h1⟩ | ⟨c, h0, rfl, h1⟩ | ⟨a, c, k, h0, h1, h2, rfl⟩ | ⟨a, h0, rfl, h1, h2⟩ | rfl
    · rw [zq48_f (by dsimp only; omega), zqf_f (by dsimp only; omega)]
    · rw [zq48_f (by dsimp only; omega), zqf_f (by dsimp only; omega)]
    · rw [zq48_f (by dsimp only; omega), zqf_f (by dsimp only; omega)]
    · rw [zqf_n (by dsimp only; exact fun z => by cases z)]
      refine decide_eq_false (fun z => ?_)
      have z4 : c = j := Option.some.inj z.2.2
      rw [z4, hji] at h1
      cases h1
    · unfold zq48 zqf
      rw [decide_eq_decide]
      have hca := (hm.1 a c h1).2.2
      dsimp only
      constructor
      · rintro ⟨z1, z2, z3⟩
        have z4 : c = j := Option.some.inj z3
        rw [z4, hji] at hca
        exact ⟨by omega, by omega, hca.symm⟩
      · rintro ⟨z1, z2, z3⟩
        have z4 : a = i := Option.some.inj z3
        rw [z4, hij] at h1
        exact ⟨by omega, by omega, h1.symm⟩
    · rw [zq48_f (by dsimp only; omega), zqf_f (by dsimp only; omega)]
    · rw [zq48_f (by dsimp only; omega), zqf_f (by dsimp only; omega)]
  · intro e he j hj
    rcases zops_mem he with ⟨a, h0, rfl, h1⟩ | ⟨a, c, k, h0, h1, h2, h3, rfl⟩ | ⟨c, h0, rfl, h1⟩ | ⟨c, h0, rfl, h1⟩ | ⟨a, c, k, h0, h1, h2, rfl⟩ | ⟨a, h0, rfl, h1, h2⟩ | rfl
    · rw [zq48_f (by dsimp only; omega), decide_eq_false (fun z => absurd z.1 (by dsimp only; omega))]
    · rw [zq48_f (by dsimp only; omega), decide_eq_false (fun z => absurd z.1 (by dsimp only; omega))]
    · rw [zq48_f (by dsimp only; omega), decide_eq_false (fun z => absurd z.1 (by dsimp only; omega))]
    · unfold zq48
      rw [decide_eq_decide]
      exact ⟨fun z => ⟨rfl, z.2.2⟩, fun z => ⟨by dsimp only; omega, by dsimp only; omega, z.2⟩⟩
    · rw [decide_eq_false (p := (5 + k = 4 ∧ _)) (fun z => absurd z.1 (by omega))]
      refine decide_eq_false (fun z => ?_)
      have z4 : c = j := Option.some.inj z.2.2
      have := (hm.1 a c h1).2.2
      rw [z4, hj] at this
      cases this
    · rw [zq48_f (by dsimp only; omega), decide_eq_false (fun z => absurd z.1 (by dsimp only; omega))]
    · rw [zq48_f (by dsimp only; omega), decide_eq_false (fun z => absurd z.1 (by dsimp only; omega))]
  · intro e he hk
    rcases zops_mem he with ⟨a, h0, rfl, h1⟩ | ⟨a, c, k, h0, h1, h2, h3, rfl⟩ | ⟨c, h0, rfl, h1⟩ | ⟨c, h0, rfl, h1⟩ | ⟨a, c, k, h0, h1, h2, rfl⟩ | ⟨a, h0, rfl, h1, h2⟩ | rfl
    · dsimp only at hk; omega
    · dsimp only at hk; omega
    · dsimp only at hk; omega
    · exact ⟨c, h0, rfl⟩
    · dsimp only at hk; omega
    · dsimp only at hk; omega
    · dsimp only at hk; omega
  · intro j hj
    rw [(zct_k (k0 := 4) (fun e he => (of_decide_eq_true he).1)).2.2.1 rfl, zs4, zct_fm, zsum_cong (g := fun i => if j = i then (if sn.2 i = none then 1 else 0) else 0) (fun i _ => ?_), zsum_one _ hj]
    unfold zo4
    split
    · rw [zct_one]
      by_cases z : j = i
      · rw [if_pos (decide_eq_true ⟨rfl, by rw [z]⟩), if_pos z]
      · rw [if_neg (by rw [decide_eq_false (fun y => z (Option.some.inj y.2).symm)]; decide), if_neg z]
    · rw [zct_nil]
      split <;> rfl
/-- a node of the old image is gone -/
def zgn (v : zV) (sp sn : zM) (l : List zOp) (n m : Nat) : Bool := if sp.1 (vhom v m) = none then decide (zcf l (zqf 0 0 (vhom v m)) n = 0) else decide (sn.1 m = none) && decide (zcf l (zqf 9 9 m) n = 0)
theorem zct0 {v u : zV} {sp sn : zM} {p : Nat} : zct (zqf 0 0 p) (zops v u sp sn) = if p < vP v ∧ sp.1 p = none then 1 else 0 := by
  rw [(zct_k (k0 := 0) (fun e he => by have := of_decide_eq_true he; omega)).1 rfl, zs1, zct_fm, zsum_cong (g := fun i => if p = i then (if sp.1 i = none then 1 else 0) else 0) (fun i _ => ?_)]
  · by_cases h : p < vP v
    · rw [zsum_one _ h]
      by_cases e : sp.1 p = none <;> simp [h, e]
    · rw [zsum_cong (g := fun _ => 0) (fun i hi => if_neg (by omega)), zsum_0, if_neg (fun z => h z.1)]
  · unfold zo0
    split
    · rw [zct_one]
      by_cases z : p = i
      · rw [if_pos (zqf_t (e := (0, some i, none)) (lo := 0) (hi := 0) (o := p) (Nat.le_refl _) (Nat.le_refl _) (by rw [z])), if_pos z]
      · rw [if_neg (by rw [zqf_n (by dsimp only; exact fun y => z (Option.some.inj y).symm)]; decide), if_neg z]
    · rw [zct_nil]
      split <;> rfl
theorem zct9 {v u : zV} {sp sn : zM} {m : Nat} : zct (zqf 9 9 m) (zops v u sp sn) = if m < vN v ∧ sn.1 m = none ∧ ¬ sp.1 (vhom v m) = none then 1 else 0 := by
  rw [(zct_k (k0 := 9) (fun e he => by have := of_decide_eq_true he; omega)).2.2.2 rfl, zs6, zd9, zct_fm]
  have e1 := zsum_rev (fun i => zct (zqf 9 9 m) (zo9 v sp.1 sn.1 i)) (vN v) (vN v) (Nat.le_refl _)
  rw [Nat.sub_self, show zsum (fun i => zct (zqf 9 9 m) (zo9 v sp.1 sn.1 i)) 0 = 0 from rfl, Nat.add_zero] at e1
  rw [e1, zsum_cong (g := fun i => if m = i then (if sn.1 i = none ∧ ¬ sp.1 (vhom v i) = none then 1 else 0) else 0) (fun i _ => ?_)]
  · by_cases h : m < vN v
    · rw [zsum_one _ h]
      by_cases e : sn.1 m = none ∧ ¬ sp.1 (vhom v m) = none
      · rw [if_pos e, if_pos ⟨h, e⟩]
      · rw [if_neg e, if_neg (fun z => e z.2)]
    · rw [zsum_cong (g := fun _ => 0) (fun i hi => if_neg (by omega)), zsum_0, if_neg (fun z => h z.1)]
  · unfold zo9
    split
    · rw [zct_one]
      by_cases z : m = i
      · rw [if_pos (zqf_t (e := (9, some i, none)) (lo := 9) (hi := 9) (o := m) (Nat.le_refl _) (Nat.le_refl _) (by rw [z])), if_pos z]
      · rw [if_neg (by rw [zqf_n (by dsimp only; exact fun y => z (Option.some.inj y).symm)]; decide), if_neg z]
    · rw [zct_nil]
      split <;> rfl
theorem zcnt_split {f g h : Nat → Bool} {n : Nat} (H : ∀ i, i < n → (if f i = true then 1 else 0) = (if g i = true then 1 else 0) + (if h i = true then 1 else 0)) : zcnt f n = zcnt g n + zcnt h n := by
  rw [zcnt_sum, zcnt_sum, zcnt_sum, ← zsum_add]
  exact zsum_cong H
theorem zpsok {v u : zV} {sp sn : zM} (hwf : zwf v) {n : Nat} (hn : n ≤ (zops v u sp sn).length) : zps v (zops v u sp sn) n = nI (zcnt (fun k => decide ((zat (zops v u sp sn) k).1 = 4)) n + zcnt (fun m => !(zgn v sp sn (zops v u sp sn) n m)) (vN v)) := by
  induction n with
  | zero =>
    show nI (vN v) = nI (0 + _)
    have : zcnt (fun m => !(zgn v sp sn (zops v u sp sn) 0 m)) (vN v) = zcnt (fun _ => true) (vN v) := zcnt_cong (fun m hm => by
      have h1 := hwf.2.2.1 m hm
      unfold zgn
      have e0 : ∀ p, zcf (zops v u sp sn) p 0 = zct p (zops v u sp sn) := fun p => by
        have := zcf_split p (Nat.zero_le (zops v u sp sn).length)
        rw [this]
        exact (Nat.zero_add _).symm
      rw [e0, e0, zct0, zct9]
      split
      · next q => rw [if_pos ⟨h1, q⟩]; rfl
      · next q =>
        by_cases e : sn.1 m = none
        · rw [if_pos ⟨hm, e, q⟩]; simp
        · simp [e])
    rw [this, zcnt_sum]
    have := zsum_const 1 (vN v)
    rw [Nat.mul_one] at this
    show nI (vN v) = nI (0 + zsum (fun _ => 1) (vN v))
    rw [this, Nat.zero_add]
  | succ n ih =>
    have ih := ih (by omega)
    have hmem := zat_mem (show n < (zops v u sp sn).length by omega)
    have hs : ∀ p, zcf (zops v u sp sn) p n = (if p (zat (zops v u sp sn) n) = true then 1 else 0) + zcf (zops v u sp sn) p (n + 1) := fun p => zcf_s p (by omega)
    have ht : ∀ p, zcf (zops v u sp sn) p n ≤ zct p (zops v u sp sn) := fun p => by have := zcf_split p (show n ≤ (zops v u sp sn).length by omega); omega
    have hcl := zops_mem hmem
    have c0 : ∀ p, zct (zqf 0 0 p) (zops v u sp sn) ≤ 1 := fun p => by rw [zct0]; split <;> omega
    have c9 : ∀ p, zct (zqf 9 9 p) (zops v u sp sn) ≤ 1 := fun p => by rw [zct9]; split <;> omega
    unfold zps
    rw [ih]
    show _ = nI ((zcnt _ n + if decide ((zat (zops v u sp sn) n).1 = 4) = true then 1 else 0) + _)
    generalize zat (zops v u sp sn) n = e at hcl hs ⊢
    have same : (∀ m, m < vN v → (zgn v sp sn (zops v u sp sn) n m = zgn v sp sn (zops v u sp sn) (n + 1) m)) → zcnt (fun m => !(zgn v sp sn (zops v u sp sn) n m)) (vN v) = zcnt (fun m => !(zgn v sp sn (zops v u sp sn) (n + 1) m)) (vN v) := fun h => zcnt_cong (fun m hm => by rw [h m hm])
    have nm : (∀ p, zqf 0 0 p e = false) → (∀ p, zqf 9 9 p e = false) → zcnt (fun m => !(zgn v sp sn (zops v u sp sn) n m)) (vN v) = zcnt (fun m => !(zgn v sp sn (zops v u sp sn) (n + 1) m)) (vN v) := fun h0 h9 => same (fun m hm => by
      unfold zgn
      rw [hs (zqf 0 0 (vhom v m)), hs (zqf 9 9 m), h0, h9]
      simp)
    rcases hcl with ⟨a, h0, rfl, h1⟩ | ⟨a, c, k, h0, h1, h2, h3, rfl⟩ | ⟨c, h0, rfl, h1⟩ | ⟨c, h0, rfl, h1⟩ | ⟨a, c, k, h0, h1, h2, rfl⟩ | ⟨a, h0, rfl, h1, h2⟩ | rfl
    · -- a partition goes
      have hsp : zcnt (fun m => !(zgn v sp sn (zops v u sp sn) n m)) (vN v) = zcnt (fun m => !(zgn v sp sn (zops v u sp sn) (n + 1) m)) (vN v) + zcnt (fun m => decide (some (vhom v m) = some a)) (vN v) := zcnt_split (fun m hm => by
        by_cases e : vhom v m = a
        · have a1 := hs (zqf 0 0 a)
          have a2 := ht (zqf 0 0 a)
          have a3 := c0 a
          rw [if_pos (zqf_t (e := (0, some a, none)) (lo := 0) (hi := 0) (o := a) (Nat.le_refl _) (Nat.le_refl _) rfl)] at a1
          have a4 : zcf (zops v u sp sn) (zqf 0 0 a) (n + 1) = 0 := by omega
          have a5 : ¬ zcf (zops v u sp sn) (zqf 0 0 a) n = 0 := by omega
          simp [zgn, e, h1, a4, a5]
        · have b1 := hs (zqf 0 0 (vhom v m))
          have b2 := hs (zqf 9 9 m)
          rw [zqf_n (by dsimp only; exact fun y => e (Option.some.inj y).symm), if_neg (by decide), Nat.zero_add] at b1
          rw [zqf_f (by dsimp only; omega), if_neg (by decide), Nat.zero_add] at b2
          simp only [zgn, b1, b2]
          simp [e])
      dsimp only
      rw [if_pos rfl, if_neg (by simp), Nat.add_zero, hsp, ze_sub (by omega)]
      congr 1
      omega
    · rw [nm (fun p => zqf_f (by dsimp only; omega)) (fun p => zqf_f (by dsimp only; omega))]
      dsimp only
      rw [if_neg (by omega), if_neg (by omega), if_neg (by omega), if_neg (by rw [decide_eq_true_eq]; omega)]
      rfl
    · rw [nm (fun p => zqf_f (by dsimp only; omega)) (fun p => zqf_f (by dsimp only; omega))]
      dsimp only
      rw [if_neg (by decide), if_neg (by decide), if_neg (by decide), if_neg (by simp)]
      rfl
    · rw [nm (fun p => zqf_f (by dsimp only; omega)) (fun p => zqf_f (by dsimp only; omega))]
      dsimp only
      rw [if_neg (by decide), if_pos rfl, if_pos (by simp), nI_1]
      congr 1
      omega
    · rw [nm (fun p => zqf_f (by dsimp only; omega)) (fun p => zqf_f (by dsimp only; omega))]
      dsimp only
      rw [if_neg (by omega), if_neg (by omega), if_neg (by omega), if_neg (by rw [decide_eq_true_eq]; omega)]
      rfl
    · -- a node goes
      have hsp : zcnt (fun m => !(zgn v sp sn (zops v u sp sn) n m)) (vN v) = zcnt (fun m => !(zgn v sp sn (zops v u sp sn) (n + 1) m)) (vN v) + zcnt (fun m => decide (m = a)) (vN v) := zcnt_split (fun m hm => by
        have b1 := hs (zqf 0 0 (vhom v m))
        rw [zqf_f (by dsimp only; omega), if_neg (by decide), Nat.zero_add] at b1
        by_cases e : m = a
        · subst e
          have a1 := hs (zqf 9 9 m)
          have a2 := ht (zqf 9 9 m)
          have a3 := c9 m
          rw [if_pos (zqf_t (e := (9, some m, none)) (lo := 9) (hi := 9) (o := m) (Nat.le_refl _) (Nat.le_refl _) rfl)] at a1
          have a4 : zcf (zops v u sp sn) (zqf 9 9 m) (n + 1) = 0 := by omega
          have a5 : ¬ zcf (zops v u sp sn) (zqf 9 9 m) n = 0 := by omega
          simp [zgn, h1, h2, a4, a5]
        · have b2 := hs (zqf 9 9 m)
          rw [zqf_n (by dsimp only; exact fun y => e (Option.some.inj y).symm), if_neg (by decide), Nat.zero_add] at b2
          simp only [zgn, b1, b2]
          simp [e])
      have h1c : zcnt (fun m => decide (m = a)) (vN v) = 1 := by
        rw [zcnt_sum, zsum_cong (g := fun i => if a = i then 1 else 0) (fun i _ => by by_cases z : a = i <;> simp [z]; exact fun y => z y.symm), zsum_one (fun _ => 1) h0]
      dsimp only
      rw [if_neg (by decide), if_neg (by decide), if_pos rfl, if_neg (by simp), Nat.add_zero, hsp, h1c, ← Nat.add_assoc]
      exact ze_dec _
    · rw [nm (fun p => zqf_f (by dsimp only; omega)) (fun p => zqf_f (by dsimp only; omega))]
      dsimp only
      rw [if_neg (by decide), if_neg (by decide), if_neg (by decide), if_neg (by simp)]
      rfl
