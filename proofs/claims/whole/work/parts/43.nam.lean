/-! names: codes, their letters -/
theorem ze_div {a b : Nat} (ha : a < 2 ^ 31) (hb : b < 2 ^ 31) : nI a / nI b = nI (a / b) := by
  apply Int32.toInt_inj.mp
  rw [Int32.toInt_div_of_ne_right _ _ (fun q => (ze_m1 hb).mp q), nI_toInt ha, nI_toInt hb, nI_toInt (Nat.lt_of_le_of_lt (Nat.div_le_self _ _) ha)]
  exact (Int.ofNat_tdiv a b).symm
theorem ze_mod {c : Nat} (h : c < 2 ^ 31) : nI c - nI c / nI 27 * nI 27 = nI (c % 27) := by
  rw [ze_div h (by decide), pk_mul, ze_sub (by omega)]
  congr 1
  omega
theorem ze_npos {x : Int32} (q : 0 < x) : ¬ x < 0 := by
  intro z
  rw [Int32.lt_iff_toInt_lt] at q z
  omega
def zgood (r : Nat) : Prop := ∀ k, 27 ^ k ≤ r → r / 27 ^ k % 27 ≠ 0
theorem zgood_0 : zgood 0 := fun k h => absurd h (Nat.not_le_of_gt (Nat.pow_pos (by decide)))
theorem zgood_s {r : Nat} (h : 0 < r) : zgood r ↔ r % 27 ≠ 0 ∧ zgood (r / 27) := by
  have e : ∀ k, r / 27 ^ (k + 1) = r / 27 / 27 ^ k := fun k => by rw [Nat.div_div_eq_div_mul, Nat.pow_succ, Nat.mul_comm]
  have g : ∀ k, 27 ^ (k + 1) ≤ r ↔ 27 ^ k ≤ r / 27 := fun k => by rw [Nat.le_div_iff_mul_le (by decide), Nat.pow_succ]
  constructor
  · intro q
    refine ⟨?_, fun k hk => ?_⟩
    · have := q 0 (by rw [Nat.pow_zero]; exact h)
      rw [Nat.pow_zero, Nat.div_one] at this
      exact this
    · rw [← e]
      exact q (k + 1) ((g k).mpr hk)
  · rintro ⟨q1, q2⟩ k hk
    cases k with
    | zero => rw [Nat.pow_zero, Nat.div_one]; exact q1
    | succ k => rw [e]; exact q2 k ((g k).mp hk)
theorem zok_iff {c : Nat} : zok c ↔ 0 < c ∧ c < 387420489 ∧ zgood c := Iff.rfl
section
variable {L : Nat} {xs : Nat → Int32} {I : Nat → Nat → Int32} {R : Nat → Nat → Option Nat} {A : Nat → Nat → Int32} {lo : Int64} {dd : UInt64} {Φ : zPo}
theorem znm_c {c : Nat} (h : c < 2 ^ 31) : znm (nI c) ↔ zok c := by
  constructor
  · rintro ⟨d, e, hd⟩
    have : c = d := (nI_eq h (by have := hd.2.1; omega)).mp e
    rw [this]
    exact hd
  · exact fun q => ⟨c, rfl, q⟩
theorem s5_isNameCode {x : Int32} (h1 : znm x → Φ (.inl (some (.int 1))) (I, R, A, lo, dd) 0) (h0 : ¬ znm x → Φ (.inl (some (.int 0))) (I, R, A, lo, dd) 0) : zC L xs mX5_isNameCode [.int x] (I, R, A, lo, dd) Φ := by
  refine zC_en (vc_X5_isNameCode_0 ?_)
  refine ⟨fun q => ?_, fun q => h0 (fun ⟨c, e, hc⟩ => q (by rw [e]; exact nI_lt (a := 0) hc.1 (by have := hc.2.1; omega)))⟩
  obtain ⟨c, hc, rfl⟩ := nI_of (ze_npos q)
  have hc0 : 0 < c := (nI_ltI (a := 0) (by decide) hc).mp q
  rw [znm_c hc, zok_iff] at h1 h0
  simp (disch := omega) only [ze_lit, pk_mul, nI_add, nI_clamp, ze_inI, nI_ltI, nI_eq]
  refine ⟨fun q2 => ?_, fun q2 => h0 (fun z => q2 z.2.1)⟩
  have key : ∀ m, m ≤ 6 → ∀ r, r < 27 ^ m → (zgood r → Φ (.inl (some (.int 1))) (I, R, A, lo, dd) 0) → (¬ zgood r → Φ (.inl (some (.int 0))) (I, R, A, lo, dd) 0) → zW L xs mX5_isNameCode 17 [some (.int (nI c)), some (.int (nI r)), some (.int (nI (6 - m)))] [] (I, R, A, lo, dd) Φ := by
    intro m
    induction m with
    | zero =>
      intro _ r hr g1 g0
      obtain rfl : r = 0 := by rw [Nat.pow_zero] at hr; omega
      exact vc_X5_isNameCode_17 ⟨fun z => absurd z (by decide), fun _ => g1 zgood_0⟩
    | succ m ih =>
      intro hm r hr g1 g0
      have hr31 : r < 2 ^ 31 := Nat.lt_of_lt_of_le hr (Nat.le_trans (Nat.pow_le_pow_right (by decide) hm) (by decide))
      have hd : r / 27 ≤ r := Nat.div_le_self _ _
      refine vc_X5_isNameCode_17 ?_
      rw [show ((27 : Int32)) = nI 27 from rfl, ze_mod hr31, ze_div hr31 (by decide)]
      simp (disch := omega) only [ze_lit, pk_mul, nI_add, nI_clamp, ze_inI, nI_ltI, nI_eq]
      refine ⟨fun _ => ⟨fun q3 => ⟨fun q4 => g0 (fun z => ((zgood_s q3).mp z).1 q4), fun q4 => ?_⟩, fun q3 => g1 (by rw [show r = 0 by omega]; exact zgood_0)⟩, fun z => absurd (by omega) z⟩
      rw [show 6 - (m + 1) + 1 = 6 - m by omega]
      exact ih (by omega) (r / 27) (by rw [Nat.pow_succ] at hr; omega) (fun z => g1 ((zgood_s q3).mpr ⟨q4, z⟩)) (fun z => g0 (fun y => z ((zgood_s q3).mp y).2))
  exact key 6 (Nat.le_refl _) c q2 (fun z => h1 ⟨hc0, q2, z⟩) (fun z => h0 (fun y => z y.2.2))
theorem s6_isName {x : Int32} (h1 : znm x → Φ (.inl (some (.int 1))) (I, R, A, lo, dd) 0) (h0 : ¬ znm x → Φ (.inl (some (.int 0))) (I, R, A, lo, dd) 0) : zC L xs mX6_isName [.int x] (I, R, A, lo, dd) Φ := by
  refine zC_en (vc_X6_isName_0 ?_)
  refine ⟨fun q => ?_, fun q => ?_⟩
  · obtain ⟨c, hc, rfl⟩ := nI_of (ze_npos q)
    have hc0 : 0 < c := (nI_ltI (a := 0) (by decide) hc).mp q
    rw [znm_c hc, zok_iff] at h1 h0
    have keyF : ∀ m, m ≤ 7 → ∀ r, r < 27 ^ m → r < 2 ^ 31 → Φ (.inl (some (.int 0))) (I, R, A, lo, dd) 0 → zW L xs mX6_isName 14 [some (.int (nI c)), some (.int (nI r)), some (.int (nI (7 - m))), some (.int 0)] [] (I, R, A, lo, dd) Φ := by
      intro m
      induction m with
      | zero =>
        intro _ r hr _ g0
        obtain rfl : r = 0 := by rw [Nat.pow_zero] at hr; omega
        exact vc_X6_isName_14 ⟨fun z => absurd z (by decide), fun _ => ⟨fun _ => g0, fun z => absurd rfl z⟩⟩
      | succ m ih =>
        intro hm r hr hr31 g0
        have hd : r / 27 ≤ r := Nat.div_le_self _ _
        refine vc_X6_isName_14 ⟨fun _ => ⟨fun _ => ?_, fun z => absurd rfl z⟩, fun _ => ⟨fun _ => g0, fun z => absurd rfl z⟩⟩
        rw [show ((27 : Int32)) = nI 27 from rfl, ze_div hr31 (by decide), nI_1, show 7 - (m + 1) + 1 = 7 - m by omega]
        exact ih (by omega) (r / 27) (by rw [Nat.pow_succ] at hr; omega) (by omega) g0
    have key : ∀ m, m ≤ 7 → ∀ r, r < 27 ^ m → r < 2 ^ 31 → (zgood r ∧ 1 ≤ m ∧ r < 27 ^ (m - 1) → Φ (.inl (some (.int 1))) (I, R, A, lo, dd) 0) → (¬ (zgood r ∧ 1 ≤ m ∧ r < 27 ^ (m - 1)) → Φ (.inl (some (.int 0))) (I, R, A, lo, dd) 0) → zW L xs mX6_isName 14 [some (.int (nI c)), some (.int (nI r)), some (.int (nI (7 - m))), some (.int 1)] [] (I, R, A, lo, dd) Φ := by
      intro m
      induction m with
      | zero =>
        intro _ r hr _ g1 g0
        obtain rfl : r = 0 := by rw [Nat.pow_zero] at hr; omega
        exact vc_X6_isName_14 ⟨fun z => absurd z (by decide), fun _ => ⟨fun z => absurd z (by decide), fun _ => ⟨fun _ => g0 (fun z => absurd z.2.1 (by decide)), fun z => absurd (by decide) z⟩⟩⟩
      | succ m ih =>
        intro hm r hr hr31 g1 g0
        have hd : r / 27 ≤ r := Nat.div_le_self _ _
        refine vc_X6_isName_14 ?_
        rw [show ((27 : Int32)) = nI 27 from rfl, ze_mod hr31, ze_div hr31 (by decide)]
        simp (disch := omega) only [ze_lit, pk_mul, nI_add, nI_clamp, ze_inI, nI_ltI, nI_eq]
        refine ⟨fun q3 => ⟨fun z => absurd z (by decide), fun _ => ⟨fun q4 => ?_, fun q4 => ?_⟩⟩, fun q3 => ⟨fun z => absurd z (by decide), fun _ => ⟨fun z => absurd z (by omega), fun _ => g1 ⟨by rw [show r = 0 by omega]; exact zgood_0, by omega, by rw [show r = 0 by omega]; exact Nat.pow_pos (by decide)⟩⟩⟩⟩
        · rw [show 7 - (m + 1) + 1 = 7 - m by omega]
          have hiff : (zgood r ∧ 1 ≤ m + 1 ∧ r < 27 ^ (m + 1 - 1)) ↔ (zgood (r / 27) ∧ 1 ≤ m ∧ r / 27 < 27 ^ (m - 1)) := by
            rw [zgood_s q3, Nat.add_sub_cancel]
            cases m with
            | zero =>
              rw [Nat.pow_zero]
              exact ⟨fun z => absurd z.2.2 (by omega), fun z => absurd z.2.1 (by decide)⟩
            | succ m =>
              rw [Nat.add_sub_cancel, Nat.pow_succ]
              exact ⟨fun z => ⟨z.1.2, by omega, by omega⟩, fun z => ⟨⟨by omega, z.1⟩, by omega, by omega⟩⟩
          exact ih (by omega) (r / 27) (by rw [Nat.pow_succ] at hr; omega) (by omega) (fun z => g1 (hiff.mpr z)) (fun z => g0 (fun y => z (hiff.mp y)))
        · rw [show 7 - (m + 1) + 1 = 7 - m by omega]
          exact keyF m (by omega) (r / 27) (by rw [Nat.pow_succ] at hr; omega) (by omega) (g0 (fun z => ((zgood_s q3).mp z.1).1 (by omega)))
    refine key 7 (Nat.le_refl _) c (by omega) hc (fun z => h1 ⟨hc0, z.2.2, z.1⟩) (fun z => h0 (fun y => z ⟨y.2.2, by decide, y.2.1⟩))
  · have hn : ¬ znm x := fun ⟨c, e, hc⟩ => q (by rw [e]; exact nI_lt (a := 0) hc.1 (by have := hc.2.1; omega))
    exact vc_X6_isName_14 ⟨fun z => absurd z q, fun _ => ⟨fun _ => h0 hn, fun z => absurd rfl z⟩⟩
end
/-- the letters of a code -/
def zdl (c : Nat) : Nat → List Nat
  | 0 => []
  | m + 1 => (if 0 < c / 27 ^ m % 27 then [c / 27 ^ m % 27 + 96] else []) ++ zdl c m
def znb (x : Int32) : List Nat := zdl x.toNatClampNeg 6
theorem zdl_le (c m : Nat) : (zdl c m).length ≤ m := by
  induction m with
  | zero => exact Nat.le_refl _
  | succ m ih =>
    unfold zdl
    rw [List.length_append]
    split
    · rw [show [c / 27 ^ m % 27 + 96].length = 1 from rfl]; omega
    · rw [show ([] : List Nat).length = 0 from rfl]; omega
def cPa (l : List Nat) (I A : Nat → Nat → Int32) : Prop := I 0 9 = nI l.length ∧ ∀ k, k < l.length → A 46 k = nI (l.getD k 0)
def mPa (l : List Nat) (I A : Nat → Nat → Int32) : Prop := I 107 12 = nI l.length ∧ ∀ k, k < l.length → A 111 k = nI (l.getD k 0)
theorem zgetD_l {l m : List Nat} {k : Nat} (h : k < l.length) : (l ++ m).getD k 0 = l.getD k 0 := by
  rw [List.getD_eq_getElem?_getD, List.getD_eq_getElem?_getD, List.getElem?_append_left h]
theorem zgetD_e {l : List Nat} {e : Nat} : (l ++ [e]).getD l.length 0 = e := by
  rw [List.getD_eq_getElem?_getD]
  simp
theorem cPa_put {l : List Nat} {e : Nat} {x : Int32} {I A : Nat → Nat → Int32} (h : cPa l I A) (hx : x = nI e) : cPa (l ++ [e]) (z_up I 0 9 (nI (l.length + 1))) (z_up A 46 l.length x) := by
  refine ⟨by rw [zup_s, List.length_append]; rfl, fun k hk => ?_⟩
  rw [List.length_append, show [e].length = 1 from rfl] at hk
  by_cases q : k = l.length
  · rw [q, zup_s, zgetD_e, hx]
  · rw [zup_n (fun z => q z.2), zgetD_l (by omega)]
    exact h.2 k (by omega)
theorem mPa_put {l : List Nat} {e : Nat} {x : Int32} {I A : Nat → Nat → Int32} (h : mPa l I A) (hx : x = nI e) : mPa (l ++ [e]) (z_up I 107 12 (nI (l.length + 1))) (z_up A 111 l.length x) := by
  refine ⟨by rw [zup_s, List.length_append]; rfl, fun k hk => ?_⟩
  rw [List.length_append, show [e].length = 1 from rfl] at hk
  by_cases q : k = l.length
  · rw [q, zup_s, zgetD_e, hx]
  · rw [zup_n (fun z => q z.2), zgetD_l (by omega)]
    exact h.2 k (by omega)
/-- only one slot and one row are written -/
def zOne (k s a : Nat) (I A I' A' : Nat → Nat → Int32) : Prop := (∀ c j, ¬ (c = k ∧ j = s) → I' c j = I c j) ∧ (∀ c, c ≠ a → A' c = A c)
theorem zOne_rf (k s a : Nat) (I A : Nat → Nat → Int32) : zOne k s a I A I A := ⟨fun _ _ _ => rfl, fun _ _ => rfl⟩
theorem zOne_put {k s a n : Nat} {x y : Int32} {I A I' A' : Nat → Nat → Int32} (h : zOne k s a I A I' A') : zOne k s a I A (z_up I' k s x) (z_up A' a n y) := by
  refine ⟨fun c j hj => by rw [zup_n hj]; exact h.1 c j hj, fun c hc => ?_⟩
  funext j
  rw [zup_n (fun q => hc q.1)]
  exact congrFun (h.2 c hc) j
theorem zOne_tr {k s a : Nat} {I A I' A' I'' A'' : Nat → Nat → Int32} (h : zOne k s a I A I' A') (g : zOne k s a I' A' I'' A'') : zOne k s a I A I'' A'' := ⟨fun c j hj => (g.1 c j hj).trans (h.1 c j hj), fun c hc => (g.2 c hc).trans (h.2 c hc)⟩
section
variable {L : Nat} {xs : Nat → Int32} {I : Nat → Nat → Int32} {R : Nat → Nat → Option Nat} {A : Nat → Nat → Int32} {lo : Int64} {dd : UInt64} {Φ : zPo}
theorem s5_putName {c : Nat} (hc : c < 2 ^ 31) {l : List Nat} (hl : cPa l I A) (hL : l.length + 6 ≤ 41) (h : ∀ I' A' : Nat → Nat → Int32, zOne 0 9 46 I A I' A' → cPa (l ++ zdl c 6) I' A' → Φ (.inl none) (I', R, A', lo, dd) 0) : zC L xs mX5_putName [.ref 0, .int (nI c)] (I, R, A, lo, dd) Φ := by
  refine zC_en (vc_X5_putName_0 ?_)
  have key : ∀ m, m ≤ 6 → ∀ x2 : Nat, x2 = 27 ^ m / 27 → ∀ zx (l : List Nat), l.length + m ≤ 41 → ∀ I' A' : Nat → Nat → Int32, zOne 0 9 46 I A I' A' → cPa l I' A' → (∀ I'' A'' : Nat → Nat → Int32, zOne 0 9 46 I A I'' A'' → cPa (l ++ zdl c m) I'' A'' → Φ (.inl none) (I'', R, A'', lo, dd) 0) → zW L xs mX5_putName 4 [some (.ref 0), some (.int (nI c)), some (.int (nI x2)), zx] [] (I', R, A', lo, dd) Φ := by
    intro m
    induction m with
    | zero =>
      intro _ x2 hx zx l _ I' A' h1 h2 k
      obtain rfl : x2 = 0 := hx
      have hk := k I' A' h1 (by simpa [zdl] using h2)
      exact vc_X5_putName_4 ⟨fun z => absurd z (by decide), fun _ => hk⟩
    | succ m ih =>
      intro hm x2 hx zx l hll I' A' h1 h2 k
      rw [Nat.pow_succ, Nat.mul_div_cancel _ (by decide)] at hx
      subst hx
      have hp : 0 < 27 ^ m := Nat.pow_pos (by decide)
      have hp31 : 27 ^ m < 2 ^ 31 := Nat.lt_of_le_of_lt (Nat.pow_le_pow_right (by decide) (show m ≤ 5 by omega)) (by decide)
      have hdc : c / 27 ^ m ≤ c := Nat.div_le_self _ _
      have hpd : 27 ^ m / 27 ≤ 27 ^ m := Nat.div_le_self _ _
      have hmd : c / 27 ^ m % 27 < 27 := Nat.mod_lt _ (by decide)
      refine vc_X5_putName_4 ?_
      rw [show ((27 : Int32)) = nI 27 from rfl, ze_div hc hp31, ze_mod (by omega), ze_div hp31 (by decide), h2.1]
      unfold zdl at k
      have h97 : (97 : Int32) + nI (c / 27 ^ m % 27) - 1 = nI (c / 27 ^ m % 27 + 96) := by
        show nI 97 + nI _ - nI 1 = _
        rw [nI_add, ze_sub (by omega)]
        congr 1
        omega
      rw [h97]
      simp (disch := omega) only [ze_lit, pk_mul, nI_add, nI_clamp, ze_inI, nI_ltI, nI_eq]
      refine ⟨fun _ => ⟨by omega, fun q => ⟨fun q2 => ⟨by omega, ?_⟩, fun z => absurd (by omega) z⟩, fun q => ?_⟩, fun z => absurd hp z⟩
      · rw [if_pos q] at k
        refine ih (by omega) _ rfl _ (l ++ [c / 27 ^ m % 27 + 96]) (by rw [List.length_append, show [c / 27 ^ m % 27 + 96].length = 1 from rfl]; omega) _ _ (zOne_put h1) (cPa_put h2 rfl) (fun I'' A'' g1 g2 => k I'' A'' g1 (by rw [← List.append_assoc]; exact g2))
      · rw [if_neg q, List.nil_append] at k
        exact ih (by omega) _ rfl _ l (by omega) _ _ h1 h2 k
  exact key 6 (Nat.le_refl _) 14348907 (by decide) none l (by omega) I A (zOne_rf _ _ _ _ _) hl h
theorem s6_forms {c : Nat} (hc : zok c) {l : List Nat} (hl : mPa l I A) (hL : l.length + 6 ≤ 50) (h : ∀ I' A' : Nat → Nat → Int32, zOne 107 12 111 I A I' A' → mPa (l ++ zdl c 6) I' A' → Φ (.inl none) (I', R, A', lo, dd) 0) : zC L xs mX6_forms [.ref 107, .int (nI c)] (I, R, A, lo, dd) Φ := by
  obtain ⟨hc0, hc6, hg⟩ := hc
  refine zC_en (vc_X6_forms_0 ?_)
  have hc31 : c < 2 ^ 31 := by omega
  -- digits in front are 0
  have hz : ∀ m, m ≤ 6 → ∀ k, k ≤ m → c < 27 ^ k → zdl c m = zdl c k := by
    intro m
    induction m with
    | zero => intro _ k hk _; rw [show k = 0 by omega]
    | succ m ih =>
      intro hm k hk hck
      by_cases e : k = m + 1
      · rw [e]
      · have : c / 27 ^ m = 0 := Nat.div_eq_of_lt (Nat.lt_of_lt_of_le hck (Nat.pow_le_pow_right (by decide) (by omega)))
        show (if 0 < c / 27 ^ m % 27 then [c / 27 ^ m % 27 + 96] else []) ++ zdl c m = _
        rw [this, if_neg (by decide), List.nil_append]
        exact ih (by omega) k (by omega) hck
  -- second loop
  have key2 : ∀ m, m ≤ 6 → (∀ j, j < m → 27 ^ j ≤ c) → ∀ x2 : Int32, ∀ x3 : Nat, x3 = 27 ^ m / 27 → ∀ (l : List Nat), l.length + m ≤ 50 → ∀ I' A' : Nat → Nat → Int32, zOne 107 12 111 I A I' A' → mPa l I' A' → (∀ I'' A'' : Nat → Nat → Int32, zOne 107 12 111 I A I'' A'' → mPa (l ++ zdl c m) I'' A'' → Φ (.inl none) (I'', R, A'', lo, dd) 0) → zW L xs mX6_forms 20 [some (.ref 107), some (.int (nI c)), some (.int x2), some (.int (nI x3))] [] (I', R, A', lo, dd) Φ := by
    intro m
    induction m with
    | zero =>
      intro _ _ x2 x3 hx l _ I' A' h1 h2 k
      obtain rfl : x3 = 0 := hx
      have hk := k I' A' h1 (by simpa [zdl] using h2)
      exact vc_X6_forms_20 ⟨fun z => absurd z (by decide), fun _ => hk⟩
    | succ m ih =>
      intro hm hj x2 x3 hx l hll I' A' h1 h2 k
      rw [Nat.pow_succ, Nat.mul_div_cancel _ (by decide)] at hx
      subst hx
      have hp : 0 < 27 ^ m := Nat.pow_pos (by decide)
      have hp31 : 27 ^ m < 2 ^ 31 := Nat.lt_of_le_of_lt (Nat.pow_le_pow_right (by decide) (show m ≤ 5 by omega)) (by decide)
      have hdc : c / 27 ^ m ≤ c := Nat.div_le_self _ _
      have hpd : 27 ^ m / 27 ≤ 27 ^ m := Nat.div_le_self _ _
      have hmd : c / 27 ^ m % 27 < 27 := Nat.mod_lt _ (by decide)
      have hne := hg m (hj m (by omega))
      refine vc_X6_forms_20 ?_
      rw [show ((27 : Int32)) = nI 27 from rfl, ze_div hc31 hp31, ze_mod (by omega), ze_div hp31 (by decide), h2.1]
      unfold zdl at k
      rw [if_pos (Nat.pos_of_ne_zero hne)] at k
      simp (disch := omega) only [ze_lit, pk_mul, nI_add, nI_clamp, ze_inI, nI_ltI, nI_eq]
      refine ⟨fun _ => ⟨by omega, by omega, ?_⟩, fun z => absurd hp z⟩
      refine ih (by omega) (fun j hj' => hj j (by omega)) _ _ rfl (l ++ [c / 27 ^ m % 27 + 96]) (by rw [List.length_append, show [c / 27 ^ m % 27 + 96].length = 1 from rfl]; omega) _ _ (zOne_put h1) (mPa_put h2 rfl) (fun I'' A'' g1 g2 => k I'' A'' g1 (by rw [← List.append_assoc]; exact g2))
  -- first loop
  have key1 : ∀ i k, k + i = 5 → (∀ j, j ≤ k → 27 ^ j ≤ c) → ∀ zx, zW L xs mX6_forms 2 [some (.ref 107), some (.int (nI c)), some (.int (nI (27 ^ k))), zx] [] (I, R, A, lo, dd) Φ := by
    intro i
    induction i with
    | zero =>
      intro k hk hj zx
      obtain rfl : k = 5 := by omega
      have hdc : c / 27 ^ 5 ≤ c := Nat.div_le_self _ _
      refine vc_X6_forms_2 ?_
      rw [ze_div hc31 (by decide)]
      simp (disch := omega) only [ze_lit, pk_mul, nI_add, nI_clamp, ze_inI, nI_ltI, nI_eq]
      refine ⟨by decide, fun _ => key2 6 (Nat.le_refl _) (fun j hj' => hj j (by omega)) _ _ (by decide) l (by omega) I A (zOne_rf _ _ _ _ _) hl h, fun z => absurd (by omega) z⟩
    | succ i ih =>
      intro k hk hj zx
      have hp : 0 < 27 ^ k := Nat.pow_pos (by decide)
      have hp31 : 27 ^ k < 2 ^ 31 := Nat.lt_of_le_of_lt (Nat.pow_le_pow_right (by decide) (show k ≤ 5 by omega)) (by decide)
      have hdc : c / 27 ^ k ≤ c := Nat.div_le_self _ _
      refine vc_X6_forms_2 ?_
      rw [ze_div hc31 hp31]
      simp (disch := omega) only [ze_lit, pk_mul, nI_add, nI_clamp, ze_inI, nI_ltI, nI_eq]
      refine ⟨by omega, fun q => ?_, fun q => ?_⟩
      · have hck : c < 27 ^ (k + 1) := by
          rw [Nat.pow_succ, Nat.mul_comm]
          exact (Nat.div_lt_iff_lt_mul hp).mp q
        refine key2 (k + 1) (by omega) (fun j hj' => hj j (by omega)) _ _ (by rw [Nat.pow_succ, Nat.mul_div_cancel _ (by decide)]) l (by omega) I A (zOne_rf _ _ _ _ _) hl ?_
        rw [← hz 6 (Nat.le_refl _) (k + 1) (by omega) hck]
        exact h
      · rw [← Nat.pow_succ]
        refine ih (k + 1) (by omega) (fun j hj' => ?_) _
        by_cases e : j = k + 1
        · rw [e, Nat.pow_succ, Nat.mul_comm]
          exact (Nat.le_div_iff_mul_le hp).mp (Nat.le_of_not_lt q)
        · exact hj j (by omega)
  exact key1 5 0 rfl (fun j hj => by rw [show j = 0 by omega, Nat.pow_zero]; exact hc0) none
end
