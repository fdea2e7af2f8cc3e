/-! the model's tokens -/
theorem lN_inj63 {a b : Nat} (ha : a < 2 ^ 63) (hb : b < 2 ^ 63) : lN a = lN b ↔ a = b := by
  constructor
  · intro q
    have h1 := congrArg Int64.toInt q
    rw [show lN a = Int64.ofNat a from rfl, show lN b = Int64.ofNat b from rfl, Int64.toInt_ofNat_of_lt ha, Int64.toInt_ofNat_of_lt hb] at h1
    omega
  · intro q; rw [q]
/-- the value of a word, its letters from behind -/
def zvr : List Nat → Nat
  | [] => 0
  | c :: r => zvr r * 27 + (c - 96)
theorem zval_iff {t : zT} {s : Nat} : ∀ (wr : List Nat) (n : Nat), (∀ c, c ∈ wr → 97 ≤ c ∧ c ≤ 122) → (∀ j, j < n → 97 ≤ t.1 (s + j) ∧ t.1 (s + j) ≤ 122) → (zval t s n = zvr wr ↔ n = wr.length ∧ ∀ j, j < n → t.1 (s + j) = wr.getD (n - 1 - j) 0) := by
  intro wr
  induction wr with
  | nil =>
    intro n hw ht
    cases n with
    | zero => exact ⟨fun _ => ⟨rfl, fun j hj => absurd hj (Nat.not_lt_zero _)⟩, fun _ => rfl⟩
    | succ n =>
      have := ht n (by omega)
      refine ⟨fun q => ?_, fun q => by cases q.1⟩
      replace q : zval t s n * 27 + (t.1 (s + n) - 96) = 0 := q
      omega
  | cons c r ih =>
    intro n hw ht
    have hc := hw c (List.mem_cons_self ..)
    cases n with
    | zero =>
      refine ⟨fun q => ?_, fun q => by cases q.1⟩
      replace q : 0 = zvr r * 27 + (c - 96) := q
      omega
    | succ n =>
      have hn := ht n (by omega)
      have ih' := ih n (fun x hx => hw x (List.mem_cons_of_mem _ hx)) (fun j hj => ht j (by omega))
      show zval t s n * 27 + (t.1 (s + n) - 96) = zvr r * 27 + (c - 96) ↔ _
      constructor
      · intro q
        have e1 : zval t s n = zvr r := by omega
        have e2 : t.1 (s + n) = c := by omega
        obtain ⟨i1, i2⟩ := ih'.mp e1
        refine ⟨by rw [i1]; rfl, fun j hj => ?_⟩
        by_cases e : j = n
        · rw [e, show n + 1 - 1 - n = 0 by omega, e2]
          rfl
        · rw [i2 j (by omega), show n + 1 - 1 - j = (n - 1 - j) + 1 by omega]
          rfl
      · rintro ⟨i1, i2⟩
        have e2 : t.1 (s + n) = c := by
          have := i2 n (by omega)
          rw [show n + 1 - 1 - n = 0 by omega] at this
          exact this
        have e1 : zval t s n = zvr r := ih'.mpr ⟨by
          have : (c :: r).length = r.length + 1 := rfl
          omega, fun j hj => by
          have := i2 j (by omega)
          rw [show n + 1 - 1 - j = (n - 1 - j) + 1 by omega] at this
          exact this⟩
        rw [e1, e2]
def zwv (t : zT) (s : Nat) : Int64 := if 9 < zrun t 1 s - s then -1 else lN (zval t s (zrun t 1 s - s))
def zwn : Nat → Nat := fun k => match k with
  | 200 => 85817
  | 201 => 4536598667450
  | 202 => 124988
  | 203 => 3177
  | 204 => 34821
  | _ => 0
theorem zwn_ok : ∀ k, k < 205 → 200 ≤ k → zvr (zwl k).reverse = zwn k ∧ zwn k < 2 ^ 60 ∧ 0 < zwn k ∧ (zwl k).length ≤ 9 ∧ 0 < (zwl k).length ∧ (∀ c, c ∈ (zwl k).reverse → 97 ≤ c ∧ c ≤ 122) ∧ (∀ j, j < (zwl k).length → (zwl k).reverse.getD ((zwl k).length - 1 - j) 0 = (zwl k).getD j 0) := by decide +kernel
theorem zletters {t : zT} {s : Nat} : ∀ j, j < zrun t 1 s - s → 97 ≤ t.1 (s + j) ∧ t.1 (s + j) ≤ 122 := fun j hj => zbk_1.mp (zrun_in (k := s) (by omega) (by omega))
theorem zval63 {t : zT} {s : Nat} (h : zrun t 1 s - s ≤ 9) : zval t s (zrun t 1 s - s) < 2 ^ 60 := Nat.lt_of_lt_of_le (zval_lt zletters) (Nat.le_trans (Nat.pow_le_pow_right (by decide) h) (by decide))
theorem ziw_iff {t : zT} {s k : Nat} (hk : 200 ≤ k ∧ k < 205) : zwv t s = lN (zwn k) ↔ ziw t s (zwl k) := by
  obtain ⟨a1, a2, a3, a4, a5, a6, a7⟩ := zwn_ok k hk.2 hk.1
  unfold zwv
  by_cases q : 9 < zrun t 1 s - s
  · rw [if_pos q]
    refine ⟨fun z => ?_, fun z => ?_⟩
    · have h1 := congrArg Int64.toInt z
      rw [show lN (zwn k) = Int64.ofNat (zwn k) from rfl, Int64.toInt_ofNat_of_lt (by omega)] at h1
      have h2 : ((-1 : Int64)).toInt = -1 := by decide
      omega
    · have := z.2.1
      omega
  · rw [if_neg q]
    have hv := zval63 (t := t) (s := s) (by omega)
    rw [lN_inj63 (by omega) (by omega), ← a1, zval_iff _ _ a6 zletters, List.length_reverse]
    constructor
    · rintro ⟨z1, z2⟩
      refine ⟨?_, z1, fun j hj => ?_⟩
      · unfold ztk
        have hl := zrun_ge t 1 s
        have hs : s < t.2 := by
          refine Decidable.byContradiction (fun y => ?_)
          have := zrun_st (t := t) (c := 1) (k := s) (Or.inr (by omega))
          omega
        have hb : zbk (t.1 s) = 1 := by
          have := zrun_in (t := t) (c := 1) (k := s) (j := s) (Nat.le_refl _) (by omega)
          exact this
        rw [if_pos hs, if_neg (fun y => by omega), hb]
      · rw [z2 j (by omega), z1]
        exact a7 j hj
    · rintro ⟨z0, z1, z2⟩
      refine ⟨z1, fun j hj => ?_⟩
      rw [z2 j (by omega), z1]
      exact (a7 j (by omega)).symm
/-- the model stands at k; only 5 to 10 change -/
def mTx (t : zT) (I A : Nat → Nat → Int32) : Prop := I 107 4 = nI t.2 ∧ t.2 ≤ 800 ∧ ∀ i, i < t.2 → A 110 i = nI (t.1 i) ∧ t.1 i < 256
/-- slots 5 to 10 change; 6 and 7 only where 8 is set -/
def zMd (I I' : Nat → Nat → Int32) : Prop := (∀ c j, ¬ (c = 107 ∧ 5 ≤ j ∧ j ≤ 10) → I' c j = I c j) ∧ (I' 107 8 = 0 → I 107 8 = 0 ∧ I' 107 6 = I 107 6 ∧ I' 107 7 = I 107 7)
def zMq (I I' : Nat → Nat → Int32) : Prop := (∀ c j, ¬ (c = 107 ∧ 5 ≤ j ∧ j ≤ 10) → I' c j = I c j) ∧ I' 107 8 = 1
theorem zMd_rf (I : Nat → Nat → Int32) : zMd I I := ⟨fun _ _ _ => rfl, fun q => ⟨q, rfl, rfl⟩⟩
theorem zMd_tr {I I' I'' : Nat → Nat → Int32} (h : zMd I I') (g : zMd I' I'') : zMd I I'' := ⟨fun c j q => (g.1 c j q).trans (h.1 c j q), fun q => ⟨(h.2 (g.2 q).1).1, (g.2 q).2.1.trans (h.2 (g.2 q).1).2.1, (g.2 q).2.2.trans (h.2 (g.2 q).1).2.2⟩⟩
theorem zMd_fu {I I' : Nat → Nat → Int32} {j : Nat} {x : Int32} (h : ∀ c j, ¬ (c = 107 ∧ 5 ≤ j ∧ j ≤ 10) → I' c j = I c j) (hj : 5 ≤ j ∧ j ≤ 10) : ∀ c k, ¬ (c = 107 ∧ 5 ≤ k ∧ k ≤ 10) → z_up I' 107 j x c k = I c k := fun c k q => by
  rw [zup_n (fun z => q ⟨z.1, by omega, by omega⟩)]
  exact h c k q
theorem zMd_up {I I' : Nat → Nat → Int32} {j : Nat} {x : Int32} (h : zMd I I') (hj : (5 ≤ j ∧ j ≤ 10) ∧ ¬ (6 ≤ j ∧ j ≤ 8)) : zMd I (z_up I' 107 j x) := by
  refine ⟨zMd_fu h.1 hj.1, fun q => ?_⟩
  rw [zup_n (by omega)] at q
  rw [zup_n (by omega), zup_n (by omega)]
  exact h.2 q
theorem zMd_8 {I I' : Nat → Nat → Int32} (h : zMd I I') (_ : True) : zMq I (z_up I' 107 8 1) := ⟨zMd_fu h.1 (by decide), zup_s⟩
theorem zMd_6 {I I' : Nat → Nat → Int32} {x : Int32} (h : zMq I I') (_ : True) : zMq I (z_up I' 107 6 x) := ⟨zMd_fu h.1 (by decide), by rw [zup_n (by omega)]; exact h.2⟩
theorem zMd_7 {I I' : Nat → Nat → Int32} {x : Int32} (h : zMq I I') (_ : True) : zMd I (z_up I' 107 7 x) := ⟨zMd_fu h.1 (by decide), fun q => absurd (by rw [zup_n (by omega)] at q; exact h.2.symm.trans q) (by decide)⟩
theorem zMd_5 {I I' : Nat → Nat → Int32} (h : ∀ c j, ¬ (c = 107 ∧ j = 5) → I' c j = I c j) : zMd I I' := ⟨fun c j q => h c j (fun z => q ⟨z.1, by omega, by omega⟩), fun q => ⟨by rw [← h 107 8 (by omega)]; exact q, h 107 6 (by omega), h 107 7 (by omega)⟩⟩
theorem mTx_fr {t : zT} {I A I' A' : Nat → Nat → Int32} (h : mTx t I A) (g : zMd I I') (hA : A' 110 = A 110) : mTx t I' A' := by
  refine ⟨by rw [g.1 107 4 (by omega)]; exact h.1, h.2.1, fun i hi => ?_⟩
  rw [hA]
  exact h.2.2 i hi
def zMb (m c p : Nat) (I : Nat → Nat → Int32) : Prop := I 107 8 = 1 ∧ I 107 6 = nI c ∧ I 107 7 = nI p ∧ ∃ a, I 107 5 = nI a ∧ a ≤ m
section
variable {L : Nat} {xs : Nat → Int32} {I : Nat → Nat → Int32} {R : Nat → Nat → Option Nat} {A : Nat → Nat → Int32} {lo : Int64} {dd : UInt64} {Φ : zPo} {t : zT} {k : Nat}
theorem s6_here (hT : mTx t I A) (hk : k ≤ t.2) (h5 : I 107 5 = nI k) (h : ∀ I' : Nat → Nat → Int32, (∀ c j, ¬ (c = 107 ∧ j = 5) → I' c j = I c j) → I' 107 5 = nI (zsk t k) → Φ (.inl (some (.int (if zsk t k < t.2 then nI (t.1 (zsk t k)) else -1)))) (I', R, A, lo, dd) 0) : zC L xs mX6_here [.ref 107] (I, R, A, lo, dd) Φ := by
  obtain ⟨hT1, hT2, hT3⟩ := hT
  refine zC_en ?_
  have key : ∀ i, i ≤ t.2 → zsk t k = zsk t i → ∀ I' : Nat → Nat → Int32, (∀ c j, ¬ (c = 107 ∧ j = 5) → I' c j = I c j) → I' 107 5 = nI i → zW L xs mX6_here 0 [some (.ref 107)] [] (I', R, A, lo, dd) Φ := by
    refine ze_up ?_ ?_
    · intro hs I' hI e5
      have e4 : I' 107 4 = nI t.2 := by rw [hI 107 4 (by omega)]; exact hT1
      have hs' : zsk t k = t.2 := hs.trans (zrun_st (Or.inr (Nat.le_refl _)))
      refine vc_X6_here_0 ?_
      simp (disch := omega) only [ze_lit, pk_mul, nI_add, nI_clamp, ze_inI, nI_ltI, nI_eq, e5, e4]
      refine ⟨fun q => absurd q (Nat.lt_irrefl _), fun _ => ⟨fun q => absurd q (Nat.lt_irrefl _), fun _ => ?_⟩⟩
      have := h I' hI (by rw [hs']; exact e5)
      rw [hs', if_neg (Nat.lt_irrefl _)] at this
      exact this
    · intro i hi ih hs I' hI e5
      have e4 : I' 107 4 = nI t.2 := by rw [hI 107 4 (by omega)]; exact hT1
      obtain ⟨t1, t2⟩ := hT3 i hi
      have hgo : zbk (t.1 i) = 5 → zW L xs mX6_here 0 [some (.ref 107)] [] (z_up I' 107 5 (nI (i + 1)), R, A, lo, dd) Φ := fun q => ih (by rw [hs]; exact zrun_go hi q) _ (fun c j hc => by rw [zup_n hc]; exact hI c j hc) zup_s
      refine vc_X6_here_0 ?_
      simp (disch := omega) only [ze_lit, pk_mul, nI_add, nI_clamp, ze_inI, nI_ltI, nI_eq, e5, e4, t1]
      refine ⟨fun _ => ⟨by omega, fun q => hgo (by unfold zbk; rw [if_neg (by omega), if_neg (by omega), if_neg (by omega), if_pos (by omega)]), fun q => ⟨by omega, fun q2 => hgo (by unfold zbk; rw [if_neg (by omega), if_neg (by omega), if_neg (by omega), if_pos (by omega)]), fun q2 => ⟨fun _ => ⟨by omega, ?_⟩, fun z => absurd hi z⟩⟩⟩, fun z => absurd hi z⟩
      have hs' : zsk t k = i := hs.trans (zrun_st (Or.inl (by
        unfold zbk
        (repeat' split) <;> omega)))
      have := h I' hI (by rw [hs']; exact e5)
      rw [hs', if_pos hi] at this
      exact this
  exact key k hk rfl I (fun _ _ _ => rfl) h5
theorem s6_wordEnd (hT : mTx t I A) {a : Nat} (ha : a ≤ 2000) (h5 : I 107 5 = nI a) (h : Φ (.inl (some (.int (nI (zrun t 1 a))))) (I, R, A, lo, dd) 0) : zC L xs mX6_wordEnd [.ref 107] (I, R, A, lo, dd) Φ := by
  obtain ⟨hT1, hT2, hT3⟩ := hT
  refine zC_en (vc_X6_wordEnd_0 ?_)
  rw [h5]
  by_cases q : a ≤ t.2
  · have key : ∀ i, i ≤ t.2 → zrun t 1 a = zrun t 1 i → zW L xs mX6_wordEnd 5 [some (.ref 107), some (.int (nI i))] [] (I, R, A, lo, dd) Φ := by
      refine ze_up ?_ ?_
      · intro hs
        rw [hs, zrun_st (Or.inr (Nat.le_refl _))] at h
        refine vc_X6_wordEnd_5 ?_
        simp (disch := omega) only [ze_lit, pk_mul, nI_add, nI_clamp, ze_inI, nI_ltI, nI_eq, hT1]
        exact ⟨fun q => absurd q (Nat.lt_irrefl _), fun _ => h⟩
      · intro i hi ih hs
        obtain ⟨t1, t2⟩ := hT3 i hi
        have hst : zbk (t.1 i) ≠ 1 → Φ (.inl (some (.int (nI i)))) (I, R, A, lo, dd) 0 := fun q => by
          rw [hs, zrun_st (Or.inl q)] at h
          exact h
        refine vc_X6_wordEnd_5 ?_
        simp (disch := omega) only [ze_lit, pk_mul, nI_add, nI_clamp, ze_inI, nI_ltI, nI_eq, hT1, t1]
        exact ⟨fun _ => ⟨by omega, fun q => hst (fun z => by have := zbk_1.mp z; omega), fun q => ⟨fun q2 => hst (fun z => by have := zbk_1.mp z; omega), fun q2 => ih (by rw [hs]; exact zrun_go hi (zbk_1.mpr ⟨by omega, by omega⟩))⟩⟩, fun z => absurd hi z⟩
    exact key a q rfl
  · rw [zrun_st (Or.inr (by omega))] at h
    refine vc_X6_wordEnd_5 ?_
    simp (disch := omega) only [ze_lit, pk_mul, nI_add, nI_clamp, ze_inI, nI_ltI, nI_eq, hT1]
    exact ⟨fun z => absurd z (by omega), fun _ => h⟩
theorem s6_word (hT : mTx t I A) (hk : k ≤ t.2) (h5 : I 107 5 = nI k) (h : ∀ I' : Nat → Nat → Int32, (∀ c j, ¬ (c = 107 ∧ j = 5) → I' c j = I c j) → I' 107 5 = nI (zsk t k) → Φ (.inl (some (.long (zwv t (zsk t k))))) (I', R, A, lo, dd) 0) : zC L xs mX6_word [.ref 107] (I, R, A, lo, dd) Φ := by
  have hT' := hT
  obtain ⟨hT1, hT2, hT3⟩ := hT
  have hs1 := (zsk_at hk).1
  refine zC_en (vc_X6_word_0 (s6_here hT' hk h5 (fun I' hI e5 => zk_r (vc_X6_word_6 ?_))))
  have hfin := h I' hI e5
  have hTI : mTx t I' A := mTx_fr hT' (zMd_5 hI) rfl
  generalize zsk t k = s at *
  have hrl := zrun_le (c := 1) hs1
  have hrg := zrun_ge t 1 s
  -- the loop over the letters
  have loop : ∀ n, n ≤ zrun t 1 s - s → zW L xs mX6_word 28 [some (.ref 107), some (.long (if 9 < zrun t 1 s - s ∧ 0 < n then -1 else lN (zval t s n))), none, some (.int (nI (zrun t 1 s))), some (.int (nI (s + n)))] [] (I', R, A, lo, dd) Φ := by
    refine ze_up ?_ ?_
    · refine vc_X6_word_28 ?_
      simp (disch := omega) only [ze_lit, pk_mul, nI_add, nI_clamp, ze_inI, nI_ltI, nI_eq]
      refine ⟨fun q => absurd q (by omega), fun _ => ?_⟩
      unfold zwv at hfin
      by_cases q : 9 < zrun t 1 s - s
      · rw [if_pos ⟨q, by omega⟩]; rw [if_pos q] at hfin; exact hfin
      · rw [if_neg (fun z => q z.1)]; rw [if_neg q] at hfin; exact hfin
    · intro n hn ih
      obtain ⟨t1, t2⟩ := hT3 (s + n) (by omega)
      have hl := zletters (t := t) (s := s) n hn
      refine vc_X6_word_28 ?_
      rw [e5, ze_sub hrg]
      simp (disch := omega) only [ze_lit, pk_mul, nI_add, nI_clamp, ze_inI, nI_ltI, nI_eq, t1]
      refine ⟨fun _ => ⟨fun q => ?_, fun q => ⟨by omega, ?_⟩⟩, fun z => absurd (by omega) z⟩
      · rw [if_pos ⟨q, by omega⟩] at ih
        exact ih
      · rw [if_neg (fun z => q z.1)] at ih
        rw [if_neg (fun z => q z.1), nI_l (by omega)]
        have e : (27 : Int64) * lN (zval t s n) + lN (t.1 (s + n)) - 96 = lN (zval t s (n + 1)) := by
          show lN 27 * lN (zval t s n) + lN (t.1 (s + n)) - lN 96 = _
          rw [lN_mul, lN_add, lN_sub (by omega)]
          show lN (27 * zval t s n + t.1 (s + n) - 96) = lN (zval t s n * 27 + (t.1 (s + n) - 96))
          congr 1
          omega
        rw [e]
        exact ih
  by_cases q : s < t.2
  · rw [if_pos q]
    have hb := (hT3 s q).2
    refine ⟨fun z => ((ze_m1 (by omega)).mp z).elim, fun _ => s6_wordEnd hTI (by omega) e5 (zk_r (vc_X6_word_21 ?_))⟩
    rw [e5]
    have := loop 0 (Nat.zero_le _)
    rw [if_neg (fun z => absurd z.2 (by decide))] at this
    exact this
  · rw [if_neg q]
    refine ⟨fun _ => ?_, fun z => absurd rfl z⟩
    rw [e5]
    have hr : zrun t 1 s = s := zrun_st (Or.inr (by omega))
    have := loop 0 (Nat.zero_le _)
    rw [if_neg (fun z => absurd z.2 (by decide)), hr] at this
    exact this
theorem s6_takes (hT : mTx t I A) (hk : k ≤ t.2) (h5 : I 107 5 = nI k) (h8 : I 107 8 = 0) {w : Nat} (hw : 200 ≤ w ∧ w < 205) (h1 : ∀ I' : Nat → Nat → Int32, ziw t (zsk t k) (zwl w) → (∀ c j, ¬ (c = 107 ∧ j = 5) → I' c j = I c j) → I' 107 5 = nI (ztx t (zsk t k)) → Φ (.inl (some (.int 1))) (I', R, A, lo, dd) 0) (h0 : ∀ I' : Nat → Nat → Int32, ¬ ziw t (zsk t k) (zwl w) → (∀ c j, ¬ (c = 107 ∧ j = 5) → I' c j = I c j) → I' 107 5 = nI (zsk t k) → Φ (.inl (some (.int 0))) (I', R, A, lo, dd) 0) : zC L xs mX6_takes [.ref 107, .long (lN (zwn w))] (I, R, A, lo, dd) Φ := by
  have hs1 := (zsk_at hk).1
  have hT2 := hT.2.1
  refine zC_en (vc_X6_takes_0 ⟨fun _ => s6_word hT hk h5 (fun I' hI e5 => zk_r (vc_X6_takes_11 ?_)), fun z => absurd h8 z⟩)
  rw [lg_cmp_eq, ziw_iff hw]
  refine ⟨fun q => ?_, fun q => h0 I' q hI e5⟩
  have hTI : mTx t I' A := mTx_fr hT (zMd_5 hI) rfl
  refine s6_wordEnd hTI (by omega) e5 (zk_r (vc_X6_takes_23 (h1 _ q (fun c j hc => by rw [zup_n hc]; exact hI c j hc) ?_)))
  rw [zup_s, (zat_word q.1).2.2.1]
theorem s6_takes_bad {x : Int64} (h8 : ¬ I 107 8 = 0) (h : Φ (.inl (some (.int 0))) (I, R, A, lo, dd) 0) : zC L xs mX6_takes [.ref 107, .long x] (I, R, A, lo, dd) Φ := zC_en (vc_X6_takes_0 ⟨fun z => absurd z h8, fun _ => h⟩)
theorem zis_here {t : zT} {s c : Nat} (hc : zbk c = 3) (hb : ∀ i, i < t.2 → t.1 i < 256) : ((if s < t.2 then nI (t.1 s) else -1) = nI c) ↔ zis t s c := by
  have hc2 : c < 256 := by
    unfold zbk at hc
    (repeat' split at hc) <;> omega
  unfold zis
  by_cases q : s < t.2
  · rw [if_pos q, nI_eq (by have := hb s q; omega) (by omega)]
    refine ⟨fun z => ⟨?_, z⟩, fun z => z.2⟩
    unfold ztk
    rw [if_pos q, z, hc]
    exact if_neg (by omega)
  · rw [if_neg q]
    exact ⟨fun z => ((ze_m1' (by omega)).mp z).elim, fun z => absurd (zat_sym z.1).1 q⟩
theorem s6_symbol (hT : mTx t I A) (hk : k ≤ t.2) (h5 : I 107 5 = nI k) (h8 : I 107 8 = 0) {c : Nat} (hc : zbk c = 3) (h1 : ∀ I' : Nat → Nat → Int32, zis t (zsk t k) c → (∀ c j, ¬ (c = 107 ∧ j = 5) → I' c j = I c j) → I' 107 5 = nI (ztx t (zsk t k)) → Φ (.inl none) (I', R, A, lo, dd) 0) (h0 : ∀ I' : Nat → Nat → Int32, ¬ zis t (zsk t k) c → zMd I I' → zMb 801 1 (zsk t k) I' → Φ (.inl none) (I', R, A, lo, dd) 0) : zC L xs mX6_symbol [.ref 107, .int (nI c)] (I, R, A, lo, dd) Φ := by
  have hs1 := (zsk_at hk).1
  have hT2 := hT.2.1
  refine zC_en (vc_X6_symbol_0 ⟨fun _ => s6_here hT hk h5 (fun I' hI e5 => zk_r (vc_X6_symbol_11 ?_)), fun z => absurd h8 z⟩)
  rw [zis_here hc (fun i hi => (hT.2.2 i hi).2)]
  refine ⟨fun q => h1 _ q (fun c j hc => by rw [zup_n hc]; exact hI c j hc) ?_, fun q => ⟨fun _ => h0 _ q (zMd_up (zMd_7 (zMd_6 (zMd_8 (zMd_5 hI) (by decide)) (by decide)) (by decide)) (by decide)) ?_, fun z => absurd (by rw [hI 107 8 (by omega)]; exact h8) z⟩⟩
  · rw [zup_s, e5, nI_1, (zat_sym q.1).2.2]
  · refine ⟨by rw [zup_n (by omega), zup_n (by omega), zup_n (by omega), zup_s], by rw [zup_n (by omega), zup_n (by omega), zup_s]; rfl, by rw [zup_n (by omega), zup_s]; exact e5, zsk t k + 1, ?_, by omega⟩
    rw [zup_s, zup_n (by omega), zup_n (by omega), zup_n (by omega), e5, nI_1]
theorem s6_symbol_bad {m cc p : Nat} (hm : m < 2000) (hb : zMb m cc p I) {x : Int32} (h : ∀ I' : Nat → Nat → Int32, zMd I I' → zMb (m + 1) cc p I' → Φ (.inl none) (I', R, A, lo, dd) 0) : zC L xs mX6_symbol [.ref 107, .int x] (I, R, A, lo, dd) Φ := by
  obtain ⟨h8, h6, h7, a, h5, ha⟩ := hb
  refine zC_en (vc_X6_symbol_0 ⟨fun z => absurd z (by rw [h8]; decide), fun _ => h _ (zMd_up (zMd_rf _) (by decide)) ⟨by rw [zup_n (by omega)]; exact h8, by rw [zup_n (by omega)]; exact h6, by rw [zup_n (by omega)]; exact h7, a + 1, by rw [zup_s, h5, nI_1], by omega⟩⟩)
theorem s6_number_bad {x y : Int32} (h8 : ¬ I 107 8 = 0) (h : Φ (.inl (some (.int x))) (I, R, A, lo, dd) 0) : zC L xs mX6_number [.ref 107, .int x, .int y] (I, R, A, lo, dd) Φ := zC_en (vc_X6_number_0 ⟨fun z => absurd z h8, fun _ => h⟩)
theorem s6_name_bad (h8 : ¬ I 107 8 = 0) (h : Φ (.inl (some (.int 0))) (I, R, A, lo, dd) 0) : zC L xs mX6_name [.ref 107] (I, R, A, lo, dd) Φ := zC_en (vc_X6_name_0 ⟨fun z => absurd z h8, fun _ => h⟩)
theorem s6_name (hT : mTx t I A) (hk : k ≤ t.2) (h5 : I 107 5 = nI k) (h8 : I 107 8 = 0) (h1 : ∀ (I' : Nat → Nat → Int32) n, zrname t (zsk t k) = .inr n → zMd I I' → I' 107 5 = nI (ztx t (zsk t k)) → I' 107 8 = 0 → I' 107 10 = nI (zsk t k) → Φ (.inl (some (.int (nI n)))) (I', R, A, lo, dd) 0) (h0 : ∀ (I' : Nat → Nat → Int32) c p x, zrname t (zsk t k) = .inl (c, p) → zMd I I' → zMb 801 c p I' → Φ (.inl (some (.int x))) (I', R, A, lo, dd) 0) : zC L xs mX6_name [.ref 107] (I, R, A, lo, dd) Φ := by
  have hs := zsk_at hk
  have hs1 := hs.1
  have hT2 := hT.2.1
  refine zC_en (vc_X6_name_0 ⟨fun _ => s6_word hT hk h5 (fun I1 hI1 e1 => zk_r (vc_X6_name_13 ?_)), fun z => absurd h8 z⟩)
  have hd1 : zMd I I1 := zMd_5 hI1
  have hd2 : zMd I (z_up I1 107 10 (I1 107 5)) := zMd_up hd1 (by decide)
  have e2 : z_up I1 107 10 (I1 107 5) 107 5 = nI (zsk t k) := by rw [zup_n (by omega)]; exact e1
  have e3 : z_up I1 107 10 (I1 107 5) 107 10 = nI (zsk t k) := by rw [zup_s]; exact e1
  have e4 : z_up I1 107 10 (I1 107 5) 107 8 = 0 := by rw [zup_n (by omega), hI1 107 8 (by omega)]; exact h8
  generalize z_up I1 107 10 (I1 107 5) = I2 at *
  have hT2' := mTx_fr (A' := A) hT hd2 rfl
  refine s6_wordEnd hT2' (by omega) e2 (zk_r (vc_X6_name_26 ?_))
  refine s6_here hT2' hs1 e2 (fun I3 hI3 e5 => zk_r (vc_X6_name_31 ?_))
  rw [zsk_sk hk] at e5 ⊢
  have hd3 : zMd I I3 := zMd_tr hd2 (zMd_5 hI3)
  have e8 : I3 107 8 = 0 := by rw [hI3 107 8 (by omega)]; exact e4
  have e10 : I3 107 10 = nI (zsk t k) := by rw [hI3 107 10 (by omega)]; exact e3
  have hrg := zrun_ge t 1 (zsk t k)
  have hrl := zrun_le (c := 1) hs1
  have bad : ¬ (ztk t (zsk t k) = 1 ∧ zrun t 1 (zsk t k) - zsk t k ≤ 6) → ((I3 107 8 : Int32) = 0 → Φ (.inl (some (.int 0))) (z_up (z_up (z_up I3 107 8 1) 107 6 1) 107 7 (I3 107 5), R, A, lo, dd) 0) ∧ (¬ (I3 107 8 : Int32) = 0 → Φ (.inl (some (.int 0))) (I3, R, A, lo, dd) 0) := by
    intro q
    refine ⟨fun _ => h0 _ 1 (zsk t k) 0 (if_neg q) (zMd_7 (zMd_6 (zMd_8 hd3 (by decide)) (by decide)) (by decide)) ⟨by rw [zup_n (by omega), zup_n (by omega), zup_s], by rw [zup_n (by omega), zup_s]; rfl, by rw [zup_s]; exact e5, zsk t k, by rw [zup_n (by omega), zup_n (by omega), zup_n (by omega)]; exact e5, by omega⟩, fun z => absurd e8 z⟩
  have hkind : zsk t k < t.2 → ((ztk t (zsk t k) = 1) ↔ 0 < zrun t 1 (zsk t k) - zsk t k) := by
    intro q
    constructor
    · intro z
      have := (zat_word z).2.2.2
      omega
    · intro z
      have hb := zrun_in (t := t) (c := 1) (k := zsk t k) (j := zsk t k) (Nat.le_refl _) (by omega)
      unfold ztk
      rw [if_pos q, if_neg (fun y => by omega), hb]
  rw [e5, ze_sub hrg]
  by_cases q : zsk t k < t.2
  · rw [if_pos q]
    have hb := (hT.2.2 _ q).2
    refine ⟨fun z => ((ze_m1 (by omega)).mp z).elim, fun _ => ⟨fun z => ?_, fun z => ⟨fun z2 => ?_, fun z2 => ?_⟩⟩⟩
    · have z' : zrun t 1 (zsk t k) - zsk t k < 1 := (nI_ltI (b := 1) (by omega) (by decide)).mp z
      rw [← e5]
      exact bad (fun y => by have := (hkind q).mp y.1; omega)
    · have z' : 6 < zrun t 1 (zsk t k) - zsk t k := (nI_ltI (a := 6) (by decide) (by omega)).mp z2
      rw [← e5]
      exact bad (fun y => by omega)
    · have z1 : ¬ zrun t 1 (zsk t k) - zsk t k < 1 := fun y => z (nI_lt y (by decide))
      have z2' : ¬ 6 < zrun t 1 (zsk t k) - zsk t k := fun y => z2 (nI_lt y (by omega))
      have hk1 := (hkind q).mpr (by omega)
      have hv : (zwv t (zsk t k)).toInt32 = nI (zval t (zsk t k) (zrun t 1 (zsk t k) - zsk t k)) := by
        unfold zwv
        rw [if_neg (by omega), lN_i]
      rw [hv]
      refine h1 _ _ (if_pos ⟨hk1, by omega⟩) (zMd_up hd3 (by decide)) (by rw [zup_s, (zat_word hk1).2.2.1]) (by rw [zup_n (by omega)]; exact e8) (by rw [zup_n (by omega)]; exact e10)
  · rw [if_neg q]
    refine ⟨fun _ => ?_, fun z => absurd rfl z⟩
    rw [← e5]
    exact bad (fun y => q (zat_word y.1).1)
theorem s6_number (hT : mTx t I A) (hk : k ≤ t.2) (h5 : I 107 5 = nI k) (h8 : I 107 8 = 0) {lw hi : Nat} (hlw : lw ≤ 99999) (hhi : hi ≤ 99999) (h1 : ∀ (I' : Nat → Nat → Int32) n, zrnum t lw hi (zsk t k) = .inr n → zMd I I' → I' 107 5 = nI (ztx t (zsk t k)) → I' 107 8 = 0 → I' 107 9 = nI (zsk t k) → I' 107 10 = I 107 10 → Φ (.inl (some (.int (nI n)))) (I', R, A, lo, dd) 0) (h0 : ∀ (I' : Nat → Nat → Int32) c p x, zrnum t lw hi (zsk t k) = .inl (c, p) → zMd I I' → zMb 801 c p I' → Φ (.inl (some (.int x))) (I', R, A, lo, dd) 0) : zC L xs mX6_number [.ref 107, .int (nI lw), .int (nI hi)] (I, R, A, lo, dd) Φ := by
  have hs := zsk_at hk
  have hs1 := hs.1
  have hT2 := hT.2.1
  have hT3 := hT.2.2
  refine zC_en (vc_X6_number_0 ⟨fun _ => s6_here hT hk h5 (fun I1 hI1 e1 => zk_r (vc_X6_number_13 ?_)), fun z => absurd h8 z⟩)
  have e18 : I1 107 8 = 0 := by rw [hI1 107 8 (by omega)]; exact h8
  have e14 : I1 107 4 = nI t.2 := by rw [hI1 107 4 (by omega)]; exact hT.1
  have hd1 : zMd I I1 := zMd_5 hI1
  have e110 : I1 107 10 = I 107 10 := hI1 107 10 (by omega)
  generalize zsk t k = s at *
  have hrg := zrun_ge t 2 s
  have hrl := zrun_le (c := 2) hs1
  -- wrong at s
  have err : ∀ (c : Nat) (x : Int32) (I' : Nat → Nat → Int32) (y : Nat), zrnum t lw hi s = .inl (c, s) → (∀ c j, ¬ (c = 107 ∧ j = 5) → I' c j = I1 c j) → I' 107 5 = nI y → y ≤ 800 → ((I' 107 8 : Int32) = 0 → Φ (.inl (some (.int x))) (z_up (z_up (z_up (z_up I' 107 8 1) 107 6 (nI c)) 107 7 (nI s)) 107 9 (nI s), R, A, lo, dd) 0) ∧ (¬ (I' 107 8 : Int32) = 0 → Φ (.inl (some (.int x))) (z_up I' 107 9 (nI s), R, A, lo, dd) 0) := by
    intro c x I' y hc hI' e5 hy
    refine ⟨fun _ => h0 _ c s x hc (zMd_up (zMd_7 (zMd_6 (zMd_8 (zMd_tr hd1 (zMd_5 hI')) (by decide)) (by decide)) (by decide)) (by decide)) ⟨by rw [zup_n (by omega), zup_n (by omega), zup_n (by omega), zup_s], by rw [zup_n (by omega), zup_n (by omega), zup_s], by rw [zup_n (by omega), zup_s], y, by rw [zup_n (by omega), zup_n (by omega), zup_n (by omega), zup_n (by omega)]; exact e5, by omega⟩, fun z => absurd (by rw [hI' 107 8 (by omega)]; exact e18) z⟩
  by_cases qd : s < t.2 ∧ zbk (t.1 s) = 2
  · -- digits
    obtain ⟨q1, q2⟩ := qd
    have hdig : ∀ j, j < zrun t 2 s - s → 48 ≤ t.1 (s + j) ∧ t.1 (s + j) ≤ 57 := fun j hj => zbk_2.mp (zrun_in (k := s) (by omega) (by omega))
    have hb := zbk_2.mp q2
    have hgt : s < zrun t 2 s := by rw [zrun_go q1 q2]; exact zrun_ge _ _ _
    have hvb : ∀ n, n ≤ 5 → n ≤ zrun t 2 s - s → znum t s n < 100000 := fun n h5 hn => Nat.lt_of_lt_of_le (znum_lt (fun j hj => hdig j (by omega))) (Nat.le_trans (Nat.pow_le_pow_right (by decide) h5) (by decide))
    -- the end
    have fin : ∀ I' : Nat → Nat → Int32, (∀ c j, ¬ (c = 107 ∧ j = 5) → I' c j = I1 c j) → I' 107 5 = nI (zrun t 2 s) → ((1 : Int32) = 0 → (((I' 107 8) : Int32) = 0 → Φ (.inl (some (.int (nI (znum t s (min 5 (zrun t 2 s - s))))))) ((z_up (z_up (z_up (z_up I' 107 8 1) 107 6 1) 107 7 (nI s)) 107 9 (nI s)), R, A, lo, dd) 0) ∧ (¬ ((I' 107 8) : Int32) = 0 → Φ (.inl (some (.int (nI (znum t s (min 5 (zrun t 2 s - s))))))) ((z_up I' 107 9 (nI s)), R, A, lo, dd) 0)) ∧ (¬ (1 : Int32) = 0 → ((5 : Int32) < ((I' 107 5) - nI s) → (((I' 107 8) : Int32) = 0 → Φ (.inl (some (.int (nI (znum t s (min 5 (zrun t 2 s - s))))))) ((z_up (z_up (z_up (z_up I' 107 8 1) 107 6 1) 107 7 (nI s)) 107 9 (nI s)), R, A, lo, dd) 0) ∧ (¬ ((I' 107 8) : Int32) = 0 → Φ (.inl (some (.int (nI (znum t s (min 5 (zrun t 2 s - s))))))) ((z_up I' 107 9 (nI s)), R, A, lo, dd) 0)) ∧ (¬ (5 : Int32) < ((I' 107 5) - nI s) → ((nI (znum t s (min 5 (zrun t 2 s - s))) : Int32) < nI lw → (((I' 107 8) : Int32) = 0 → Φ (.inl (some (.int (nI (znum t s (min 5 (zrun t 2 s - s))))))) ((z_up (z_up (z_up (z_up I' 107 8 1) 107 6 2) 107 7 (nI s)) 107 9 (nI s)), R, A, lo, dd) 0) ∧ (¬ ((I' 107 8) : Int32) = 0 → Φ (.inl (some (.int (nI (znum t s (min 5 (zrun t 2 s - s))))))) ((z_up I' 107 9 (nI s)), R, A, lo, dd) 0)) ∧ (¬ (nI (znum t s (min 5 (zrun t 2 s - s))) : Int32) < nI lw → ((nI hi : Int32) < nI (znum t s (min 5 (zrun t 2 s - s))) → (((I' 107 8) : Int32) = 0 → Φ (.inl (some (.int (nI (znum t s (min 5 (zrun t 2 s - s))))))) ((z_up (z_up (z_up (z_up I' 107 8 1) 107 6 2) 107 7 (nI s)) 107 9 (nI s)), R, A, lo, dd) 0) ∧ (¬ ((I' 107 8) : Int32) = 0 → Φ (.inl (some (.int (nI (znum t s (min 5 (zrun t 2 s - s))))))) ((z_up I' 107 9 (nI s)), R, A, lo, dd) 0)) ∧ (¬ (nI hi : Int32) < nI (znum t s (min 5 (zrun t 2 s - s))) → Φ (.inl (some (.int (nI (znum t s (min 5 (zrun t 2 s - s))))))) ((z_up I' 107 9 (nI s)), R, A, lo, dd) 0)))) := by
      intro I' hI' e5
      have hvm := hvb (min 5 (zrun t 2 s - s)) (by omega) (by omega)
      refine ⟨fun z => absurd z (by decide), fun _ => ⟨fun z => ?_, fun z => ⟨fun z2 => ?_, fun z2 => ⟨fun z3 => ?_, fun z3 => ?_⟩⟩⟩⟩
      · rw [e5, ze_sub hrg] at z
        have z' : 5 < zrun t 2 s - s := (nI_ltI (a := 5) (by decide) (by omega)).mp z
        refine err 1 _ I' _ ?_ hI' e5 (by omega)
        refine if_neg (fun y => ?_)
        unfold ztk at y
        rw [if_pos q1, if_pos ⟨q2, z'⟩] at y
        cases y
      all_goals
        have z' : ¬ 5 < zrun t 2 s - s := fun y => z (by rw [e5, ze_sub hrg]; exact nI_lt y (by omega))
        have hmin : min 5 (zrun t 2 s - s) = zrun t 2 s - s := by omega
        have htk : ztk t s = 2 := by
          unfold ztk
          rw [if_pos q1, if_neg (fun y => z' y.2), q2]
      · have z2' := (nI_ltI (by omega) (by omega)).mp z2
        rw [hmin] at z2'
        exact err 2 _ I' _ (by unfold zrnum; rw [if_pos htk, if_pos (Or.inl z2')]) hI' e5 (by omega)
      · have z3' := (nI_ltI (by omega) (by omega)).mp z3
        rw [hmin] at z3'
        exact err 2 _ I' _ (by unfold zrnum; rw [if_pos htk, if_pos (Or.inr z3')]) hI' e5 (by omega)
      · rw [hmin] at hvm z2 z3 ⊢
        have z2' : ¬ znum t s (zrun t 2 s - s) < lw := fun y => z2 (nI_lt y (by omega))
        have z3' : ¬ hi < znum t s (zrun t 2 s - s) := fun y => z3 (nI_lt y (by omega))
        refine h1 _ _ (by unfold zrnum; rw [if_pos htk, if_neg (by omega)]) (zMd_up (zMd_tr hd1 (zMd_5 hI')) (by decide)) ?_ ?_ zup_s ?_
        · rw [zup_n (by omega), e5, (zat_num htk).2.2.1]
        · rw [zup_n (by omega), hI' 107 8 (by omega)]; exact e18
        · rw [zup_n (by omega), hI' 107 10 (by omega)]; exact e110
    have loop : ∀ n, n ≤ zrun t 2 s - s → ∀ I' : Nat → Nat → Int32, (∀ c j, ¬ (c = 107 ∧ j = 5) → I' c j = I1 c j) → I' 107 5 = nI (s + n) → zW L xs mX6_number 30 [some (.ref 107), some (.int (nI lw)), some (.int (nI hi)), some (.int 1), some (.int (nI s)), some (.int (nI (znum t s (min 5 n))))] [] (I', R, A, lo, dd) Φ := by
      refine ze_up ?_ ?_
      · intro I' hI' e5
        have hf := fin I' hI' (by rw [e5]; congr 1; omega)
        have e4 : I' 107 4 = nI t.2 := by rw [hI' 107 4 (by omega)]; exact e14
        refine vc_X6_number_30 ⟨fun z => absurd z (by decide), fun _ => ⟨fun q => ?_, fun _ => hf⟩⟩
        rw [e5, e4] at q
        have q' : s + (zrun t 2 s - s) < t.2 := (nI_ltI (by omega) (by omega)).mp q
        obtain ⟨t1, t2⟩ := hT3 (s + (zrun t 2 s - s)) q'
        have hne : zbk (t.1 (s + (zrun t 2 s - s))) ≠ 2 := by
          have := zrun_end (t := t) (c := 2) (k := s) hs1 (by omega)
          rw [show s + (zrun t 2 s - s) = zrun t 2 s by omega]
          exact this
        rw [e5, nI_clamp (by omega), t1]
        rw [e5] at hf
        refine ⟨nI_in (by omega) (by decide), fun _ => hf, fun z1 => ⟨fun _ => hf, fun z2 => absurd (zbk_2.mpr ⟨?_, ?_⟩) hne⟩⟩
        · exact Nat.le_of_not_lt (fun y => z1 (nI_lt y (by decide)))
        · exact Nat.le_of_not_lt (fun y => z2 (nI_lt y (by omega)))
      · intro n hn ih I' hI' e5
        have e4 : I' 107 4 = nI t.2 := by rw [hI' 107 4 (by omega)]; exact e14
        obtain ⟨t1, t2⟩ := hT3 (s + n) (by omega)
        have hd := hdig n hn
        refine vc_X6_number_30 ?_
        rw [e5, e4, ze_sub (show s ≤ s + n by omega), Nat.add_sub_cancel_left]
        simp (disch := omega) only [ze_lit, pk_mul, nI_add, nI_clamp, ze_inI, nI_ltI, nI_eq, t1]
        refine ⟨fun z => absurd z (by decide), fun _ => ⟨fun _ => ⟨by omega, fun z => absurd z (by omega), fun _ => ⟨fun z => absurd z (by omega), fun _ => ?_⟩⟩, fun z => absurd (by omega) z⟩⟩
        have hI2 : ∀ c j, ¬ (c = 107 ∧ j = 5) → z_up I' 107 5 (nI (s + n + 1)) c j = I1 c j := fun c j hc => by rw [zup_n hc]; exact hI' c j hc
        refine ⟨fun q5 => ⟨by omega, ?_⟩, fun q5 => ?_⟩
        · have := ih _ hI2 zup_s
          rw [show min 5 (n + 1) = min 5 n + 1 by omega] at this
          have e : nI (10 * znum t s (min 5 n) + t.1 (s + n)) - nI 48 = nI (znum t s (min 5 n + 1)) := by
            rw [ze_sub (by omega)]
            show _ = nI (znum t s (min 5 n) * 10 + (t.1 (s + min 5 n) - 48))
            rw [show min 5 n = n by omega]
            congr 1
            omega
          rw [e]
          exact this
        · have := ih _ hI2 zup_s
          rw [show min 5 (n + 1) = min 5 n by omega] at this
          exact this
    rw [if_pos q1, e1]
    refine ⟨fun z => absurd ((nI_ltI (b := 48) (by omega) (by decide)).mp z) (by omega), fun _ => ⟨fun z => absurd ((nI_ltI (a := 57) (by decide) (by omega)).mp z) (by omega), fun _ => ?_⟩⟩
    have := loop 0 (Nat.zero_le _) I1 (fun _ _ _ => rfl) e1
    exact this
  · -- no digit
    have htk : ztk t s ≠ 2 := fun z => qd ⟨(zat_num z).1, (zat_num z).2.1⟩
    have hzr : zrnum t lw hi s = .inl (1, s) := if_neg htk
    have e := err 1 0 I1 s hzr (fun _ _ _ => rfl) e1 (by omega)
    have hW : zW L xs mX6_number 30 [some (.ref 107), some (.int (nI lw)), some (.int (nI hi)), some (.int 0), some (.int (nI s)), some (.int 0)] [] (I1, R, A, lo, dd) Φ := vc_X6_number_30 ⟨fun _ => ⟨fun _ => e, fun z => absurd rfl z⟩, fun z => absurd rfl z⟩
    rw [e1]
    by_cases q1 : s < t.2
    · rw [if_pos q1]
      have hb := (hT3 s q1).2
      refine ⟨fun _ => hW, fun z => ⟨fun _ => hW, fun z2 => absurd ⟨q1, zbk_2.mpr ⟨?_, ?_⟩⟩ qd⟩⟩
      · exact Nat.le_of_not_lt (fun y => z (nI_lt y (by decide)))
      · exact Nat.le_of_not_lt (fun y => z2 (nI_lt y (by omega)))
    · rw [if_neg q1]
      exact ⟨fun _ => hW, fun z => absurd (by decide) z⟩
end
