/-! PURE PART. numbers, loops -/
theorem ze_lit (n : Nat) : (OfNat.ofNat n : Int32) = nI n := rfl
theorem ze_inI {i n : Nat} (hi : i < 2 ^ 31) : z_in (nI i) n ↔ i < n := by
  show ¬ (nI i < 0 ∨ n ≤ (nI i).toNatClampNeg) ↔ _
  rw [nI_clamp hi]
  have := nI_pos hi
  constructor
  · intro h
    omega
  · intro h q
    rcases q with q | q
    · exact this q
    · omega
theorem ze_m1 {n : Nat} (h : n < 2 ^ 31) : (nI n = -1) ↔ False := by
  refine ⟨fun q => ?_, False.elim⟩
  have h1 := nI_toInt h
  rw [q] at h1
  have h2 : ((-1 : Int32)).toInt = -1 := by decide
  omega
theorem ze_m1' {n : Nat} (h : n < 2 ^ 31) : ((-1 : Int32) = nI n) ↔ False := by
  rw [eq_comm]
  exact ze_m1 h
theorem ze_lt0 {n : Nat} (h : n < 2 ^ 31) : (nI n < 0) ↔ False := ⟨fun q => nI_pos h q, False.elim⟩
theorem ze_sub {a b : Nat} (h : b ≤ a) : nI a - nI b = nI (a - b) := by
  have h1 : nI a = nI (a - b) + nI b := by rw [nI_add, Nat.sub_add_cancel h]
  rw [h1, Int32.add_sub_cancel]
theorem ze_up {P : Nat → Prop} {n : Nat} (hn : P n) (hs : ∀ i, i < n → P (i + 1) → P i) : ∀ i, i ≤ n → P i := by
  intro i hi
  obtain ⟨k, rfl⟩ := Nat.exists_eq_add_of_le hi
  clear hi
  induction k generalizing i with
  | zero => exact hn
  | succ k ih =>
    refine hs i (by omega) ?_
    have := ih (i + 1)
    rw [show i + 1 + k = i + (k + 1) by omega] at this
    exact this hn hs
def zpI (o : Option Nat) : Int32 := match o with
  | none => -1
  | some k => nI k
theorem zpI_none {o : Option Nat} (h : ∀ k, o = some k → k < 2 ^ 31) : (zpI o = -1) ↔ o = none := by
  cases o with
  | none => simp [zpI]
  | some k => simp [zpI, ze_m1 (h k rfl)]
theorem zpI_inj {o q : Option Nat} (h : ∀ k, o = some k → k < 2 ^ 31) (h' : ∀ k, q = some k → k < 2 ^ 31) : (zpI o = zpI q) ↔ o = q := by
  cases o with
  | none => cases q with
    | none => simp
    | some k => simp [zpI, ze_m1' (h' k rfl)]
  | some j => cases q with
    | none => simp [zpI, ze_m1 (h j rfl)]
    | some k => simp [zpI, nI_eq (h j rfl) (h' k rfl)]
/-- how many of the first n -/
def zcnt (p : Nat → Bool) : Nat → Nat
  | 0 => 0
  | n + 1 => zcnt p n + if p n then 1 else 0
theorem zcnt_le (p : Nat → Bool) (n : Nat) : zcnt p n ≤ n := by
  induction n with
  | zero => exact Nat.le_refl 0
  | succ n ih => unfold zcnt; split <;> omega
theorem zcnt_cong {p q : Nat → Bool} {n : Nat} (h : ∀ i, i < n → p i = q i) : zcnt p n = zcnt q n := by
  induction n with
  | zero => rfl
  | succ n ih => unfold zcnt; rw [ih (fun i hi => h i (by omega)), h n (by omega)]
theorem zup_s {α : Type} {f : Nat → Nat → α} {k j : Nat} {v : α} : z_up f k j v k j = v := if_pos ⟨rfl, rfl⟩
theorem zup_n {α : Type} {f : Nat → Nat → α} {k j a b : Nat} {v : α} (h : ¬ (a = k ∧ b = j)) : z_up f k j v a b = f a b := if_neg h
section
variable {L : Nat} {xs : Nat → Int32} {m pc : Nat} {lv : zL} {st : List Value} {σ : zSt} {Φ : zPo}
theorem zk_r {r : Option Value} {sw : List (Int32 × Nat)} (h : zW L xs m pc lv (r.toList ++ st) σ Φ) : z_kont sw (fun r τ Ψ => zW L xs m pc lv (r.toList ++ st) τ Ψ) Φ (.inl r) σ 0 := zw_k0 h
theorem zk_e {e : Nat} {t : Nat} {K : Option Value → zSt → zPo → Prop} (h : Φ (.inr e) σ t) : z_kont [] K Φ (.inr e) σ t := h
theorem zk_h {e : Nat} {t : Nat} {cst : Int32} {q : Int32 × Nat} {r : List (Int32 × Nat)} {K : Option Value → zSt → zPo → Prop} (he : z_hnd e (q :: r) = some cst) (h : Φ (.inl (some (.int cst))) σ t) : z_kont (q :: r) K Φ (.inr e) σ t := ⟨cst, he, h⟩
end
