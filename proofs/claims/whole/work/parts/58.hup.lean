/-! the class's best pairing: prices go up, one column more -/
theorem zcz (p : Nat → Bool) (n : Nat) : ((zcnt p n : Nat) : Int) = zsm (fun i => if p i then 1 else 0) n := by
  induction n with
  | zero => rfl
  | succ n ih =>
    show ((zcnt p n + (if p n then 1 else 0) : Nat) : Int) = zsm (fun i => if p i then 1 else 0) n + (if p n then 1 else 0)
    rw [← ih]
    split <;> rfl
theorem zcnt_mono {p q : Nat → Bool} {n : Nat} (h : ∀ i, i < n → p i = true → q i = true) : zcnt p n ≤ zcnt q n := by
  induction n with
  | zero => exact Nat.le_refl _
  | succ n ih =>
    have h1 := ih (fun i hi => h i (by omega))
    show zcnt p n + (if p n then 1 else 0) ≤ zcnt q n + (if q n then 1 else 0)
    cases e : p n with
    | false => simp; omega
    | true => rw [h n (by omega) e]; simp; omega
theorem zcnt_se {p q : Nat → Bool} {n a : Nat} (ha : a < n) (h : ∀ i, i ≠ a → q i = p i) (hp : p a = false) (hq : q a = true) : zcnt q n = zcnt p n + 1 := by
  induction n with
  | zero => omega
  | succ n ih =>
    show zcnt q n + (if q n then 1 else 0) = zcnt p n + (if p n then 1 else 0) + 1
    by_cases e : n = a
    · subst e
      rw [hp, hq, zcnt_cong (p := q) (q := p) (fun i hi => h i (by omega))]
      simp
    · rw [ih (by omega), h n e]
      omega
theorem zcnt_lo {i n : Nat} : zcnt (fun k => decide (1 ≤ k) && decide (k ≤ i)) n = min i (n - 1) := by
  induction n with
  | zero => show 0 = _; omega
  | succ n ih =>
    show zcnt _ n + (if (decide (1 ≤ n) && decide (n ≤ i)) = true then 1 else 0) = _
    rw [ih]
    by_cases q : 1 ≤ n ∧ n ≤ i
    · rw [if_pos (by simp [q.1, q.2])]; omega
    · rw [if_neg (by simp; omega)]; omega
theorem zcnt_mo {n m : Nat} {K : zM} (h : zmo n m K) : zcnt (fun i => (K.1 i).isSome) n = zcnt (fun j => (K.2 j).isSome) m := by
  have h1 := zsm_mo h (fun _ => 1)
  have e1 : zsm (fun i => zwo (fun _ => 1) (K.1 i)) n = zsm (fun i => if (K.1 i).isSome then 1 else 0) n := zsm_cong (fun i _ => by
    cases K.1 i <;> rfl)
  have e2 : zsm (fun j => if K.2 j = none then 0 else 1) m = zsm (fun j => if (K.2 j).isSome then 1 else 0) m := zsm_cong (fun j _ => by
    cases K.2 j <;> rfl)
  rw [e1, e2, ← zcz (fun i => (K.1 i).isSome), ← zcz (fun j => (K.2 j).isSome)] at h1
  omega
/-- the row's column is used -/
def zin (K : zM) (Q : Nat → Bool) (i : Nat) : Bool := match K.1 i with
  | none => false
  | some c => Q c
def zU (K : zM) (Q : Nat → Bool) (U : Nat → Int) (e : Int) (i : Nat) : Int := U i + cond (zin K Q i) e 0
def zVv (Q : Nat → Bool) (V : Nat → Int) (e : Int) (j : Nat) : Int := V j - cond (Q j) e 0
section
variable {L : Nat} {xs : Nat → Int32} {I : Nat → Nat → Int32} {R : Nat → Nat → Option Nat} {A : Nat → Nat → Int32} {lo : Int64} {dd : UInt64} {Φ : zPo} {s : Nat} {x : Nat → Nat → Int} {U V : Nat → Int} {K : zM} {Q : Nat → Bool} {sl : Nat → Int} {cf : Nat → Nat}
theorem s0_raisePrices (hs : s ≤ 24) (hI : I 72 4 = nI s) (hm : zHm s x U V K A) (hK : zmo (s + 1) (s + 1) K) (hK0 : K.1 0 = none) (hQ : ∀ j, j ≤ s → A 106 j = nI (if Q j then 1 else 0)) (hQK : ∀ j, j ≤ s → Q j = true → K.2 j ≠ none) (hsl : ∀ j, 1 ≤ j → j ≤ s → Q j = false → A 105 j = iI (sl j)) {e : Int} (h : ∀ A' : Nat → Nat → Int32, (∀ c, c ≠ 101 → c ≠ 102 → c ≠ 105 → A' c = A c) → zHm s x (zU K Q U e) (zVv Q V e) K A' → (∀ j, 1 ≤ j → j ≤ s → Q j = false → A' 105 j = iI (sl j - e)) → Φ (.inl none) (I, R, A', lo, dd) 0) : zC L xs mX0_raisePrices [.ref 72, .int (iI e)] (I, R, A, lo, dd) Φ := by
  refine zC_en (vc_X0_raisePrices_0 ?_)
  have loop : ∀ j, j ≤ s + 1 → ∀ A' : Nat → Nat → Int32, (∀ c, c ≠ 101 → c ≠ 102 → c ≠ 105 → A' c = A c) → (∀ i, 1 ≤ i → i ≤ s → A' 101 i = iI (zU K (fun c => Q c && decide (c < j)) U e i)) → (∀ k, 1 ≤ k → k ≤ s → A' 102 k = iI (zVv (fun c => Q c && decide (c < j)) V e k)) → (∀ k, 1 ≤ k → k ≤ s → Q k = false → A' 105 k = iI (sl k - if k < j then e else 0)) → zW L xs mX0_raisePrices 2 [some (.ref 72), some (.int (iI e)), some (.int (nI j))] [] (I, R, A', lo, dd) Φ := by
    refine ze_up ?_ ?_
    · intro A' fr h1 h2 h5
      refine vc_X0_raisePrices_2 ⟨fun _ => ?_, fun z => absurd (by rw [hI]; exact nI_lt (by omega) (by omega)) z⟩
      have hq : ∀ c, c ≤ s → (Q c && decide (c < s + 1)) = Q c := fun c hc => by rw [decide_eq_true (by omega), Bool.and_true]
      refine h A' fr ⟨fun i j i1 i2 j1 j2 => by rw [fr _ (by omega) (by omega) (by omega)]; exact hm.1 i j i1 i2 j1 j2, fun i i1 i2 => ?_, fun k k1 k2 => ?_, fun k k1 => by rw [fr _ (by decide) (by decide) (by decide)]; exact hm.2.2.2 k k1⟩ (fun k k1 k2 k3 => ?_)
      · rw [h1 i i1 i2]
        unfold zU zin
        cases e1 : K.1 i with
        | none => rfl
        | some c =>
          have := (hK.1 i c e1).2.1
          dsimp only
          rw [hq c (by omega)]
      · rw [h2 k k1 k2]
        unfold zVv
        dsimp only
        rw [hq k k2]
      · rw [h5 k k1 k2 k3, if_pos (by omega)]
    · intro j hj ih A' fr h1 h2 h5
      have hQj : A' 106 j = nI (if Q j then 1 else 0) := by rw [fr 106 (by decide) (by decide) (by decide)]; exact hQ j (by omega)
      have h3 : A' 103 j = nI ((K.2 j).getD 0) := by rw [fr 103 (by decide) (by decide) (by decide)]; exact hm.2.2.2 j (by omega)
      refine vc_X0_raisePrices_2 ⟨fun z => absurd z (by rw [hI]; exact nI_nlt (by omega) (by omega)), fun _ => ?_⟩
      rw [nI_clamp (by omega), nI_1, hQj]
      refine ⟨nI_in (by omega) (by omega), fun q => ?_, fun q => ?_⟩
      · have hq : Q j = false := by
          cases e : Q j with
          | false => rfl
          | true => rw [e] at q; exact absurd q (by decide)
        have hq2 : ∀ c, (Q c && decide (c < j + 1)) = (Q c && decide (c < j)) := fun c => by
          by_cases y : c = j
          · rw [y, hq]; rfl
          · congr 1
            exact decide_eq_decide.mpr (by omega)
        refine ⟨nI_in (by omega) (by omega), nI_in (by omega) (by omega), ih _ (fun c c1 c2 c3 => by funext k; rw [zup_n (fun z => c3 z.1)]; exact congrFun (fr c c1 c2 c3) k) (fun i i1 i2 => ?_) (fun k k1 k2 => ?_) (fun k k1 k2 k3 => ?_)⟩
        · rw [zup_n (by omega), h1 i i1 i2]
          unfold zU zin
          cases K.1 i with
          | none => rfl
          | some c => dsimp only; rw [hq2 c]
        · rw [zup_n (by omega), h2 k k1 k2]
          unfold zVv
          dsimp only
          rw [hq2 k]
        · by_cases y : k = j
          · rw [y, zup_s, h5 j (by omega) (by omega) hq, if_neg (by omega), if_pos (by omega), iI_sub]
            congr 1
            omega
          · rw [zup_n (by omega), h5 k k1 k2 k3]
            congr 2
            by_cases w : k < j
            · rw [if_pos w, if_pos (by omega)]
            · rw [if_neg w, if_neg (by omega)]
      · have hq : Q j = true := by
          cases e : Q j with
          | true => rfl
          | false => rw [e] at q; exact absurd rfl q
        cases er : K.2 j with
        | none => exact absurd er (hQK j (by omega) hq)
        | some r =>
          obtain ⟨r1, r2, r3⟩ := hK.2 r j er
          have hr1 : 1 ≤ r := Nat.pos_of_ne_zero (fun z => by rw [z, hK0] at r3; cases r3)
          rw [er] at h3
          replace h3 : A' 103 j = nI r := h3
          rw [h3, nI_clamp (by omega)]
          refine ⟨nI_in (by omega) (by omega), nI_in (by omega) (by omega), nI_in (by omega) (by omega), nI_in (by omega) (by omega), nI_in (by omega) (by omega), ih _ (fun c c1 c2 c3 => by funext k; rw [zup_n (fun z => c2 z.1), zup_n (fun z => c1 z.1)]; exact congrFun (fr c c1 c2 c3) k) (fun i i1 i2 => ?_) (fun k k1 k2 => ?_) (fun k k1 k2 k3 => ?_)⟩
          · rw [zup_n (by omega)]
            by_cases y : i = r
            · rw [y, zup_s, h1 r hr1 (by omega), iI_add]
              unfold zU zin
              rw [r3]
              dsimp only
              rw [hq, decide_eq_false (by omega), decide_eq_true (by omega)]
              show iI ((U r + 0) + e) = iI (U r + e)
              congr 1
              omega
            · rw [zup_n (by omega), h1 i i1 i2]
              unfold zU zin
              cases e1 : K.1 i with
              | none => rfl
              | some c =>
                have hc := (hK.1 i c e1).2.2
                have hne : c ≠ j := fun z => by rw [z, er] at hc; cases hc; exact y rfl
                dsimp only
                rw [show decide (c < j + 1) = decide (c < j) from decide_eq_decide.mpr (by omega)]
          · by_cases y : k = j
            · rw [y, zup_s, zup_n (by omega), h2 j (by omega) (by omega), iI_sub]
              unfold zVv
              dsimp only
              rw [hq, decide_eq_false (by omega), decide_eq_true (by omega)]
              congr 1
              show V j - 0 - e = V j - e
              omega
            · rw [zup_n (by omega), zup_n (by omega), h2 k k1 k2]
              unfold zVv
              dsimp only
              rw [show decide (k < j + 1) = decide (k < j) from decide_eq_decide.mpr (by omega)]
          · have hne : k ≠ j := fun z => by rw [z, hq] at k3; cases k3
            rw [zup_n (by omega), zup_n (by omega), h5 k k1 k2 k3]
            congr 2
            by_cases w : k < j
            · rw [if_pos w, if_pos (by omega)]
            · rw [if_neg w, if_neg (by omega)]
  have hq0 : ∀ c, (Q c && decide (c < 0)) = false := fun c => by rw [decide_eq_false (by omega), Bool.and_false]
  refine loop 0 (Nat.zero_le _) A (fun _ _ _ _ => rfl) (fun i i1 i2 => ?_) (fun k k1 k2 => ?_) (fun k k1 k2 k3 => ?_)
  · rw [hm.2.1 i i1 i2]
    unfold zU zin
    cases K.1 i with
    | none => show _ = iI (U i + 0); congr 1; omega
    | some c => dsimp only; rw [hq0 c]; show _ = iI (U i + 0); congr 1; omega
  · rw [hm.2.2.1 k k1 k2]
    unfold zVv
    dsimp only
    rw [hq0 k]
    show _ = iI (V k - 0)
    congr 1
    omega
  · rw [hsl k k1 k2 k3, if_neg (by omega)]
    congr 1
    omega
end
