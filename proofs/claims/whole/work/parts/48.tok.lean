/-! texts: tokens; the class's Reader -/
def zbk (x : Nat) : Nat := if 97 ≤ x ∧ x ≤ 122 then 1 else if 48 ≤ x ∧ x ≤ 57 then 2 else if x = 59 ∨ x = 123 ∨ x = 125 then 3 else if x = 10 ∨ x = 32 then 5 else 4
abbrev zT : Type := (Nat → Nat) × Nat
def zrun (t : zT) (c k : Nat) : Nat := k + zwh (fun j => decide (zbk (t.1 j) = c)) k (t.2 - k)
def zsk (t : zT) (k : Nat) : Nat := zrun t 5 k
def ztk (t : zT) (s : Nat) : Nat := if s < t.2 then (if zbk (t.1 s) = 2 ∧ 5 < zrun t 2 s - s then 4 else zbk (t.1 s)) else 0
def ztx (t : zT) (s : Nat) : Nat := if s < t.2 then (if zbk (t.1 s) = 1 then zrun t 1 s else if zbk (t.1 s) = 2 then zrun t 2 s else s + 1) else s
def znx (t : zT) (s : Nat) : Nat := zsk t (ztx t s)
/-- a place where a token begins, or the end -/
def zat0 (t : zT) (s : Nat) : Prop := s ≤ t.2 ∧ (s < t.2 → zbk (t.1 s) ≠ 5)
theorem zbk_le (x : Nat) : 1 ≤ zbk x ∧ zbk x ≤ 5 := by unfold zbk; (repeat' split) <;> omega
theorem zrun_ge (t : zT) (c k : Nat) : k ≤ zrun t c k := Nat.le_add_right _ _
theorem zrun_le {t : zT} {c k : Nat} (h : k ≤ t.2) : zrun t c k ≤ t.2 := by
  have := zwh_le (fun j => decide (zbk (t.1 j) = c)) k (t.2 - k)
  unfold zrun
  omega
theorem zrun_go {t : zT} {c k : Nat} (h : k < t.2) (hc : zbk (t.1 k) = c) : zrun t c k = zrun t c (k + 1) := by
  unfold zrun
  rw [show t.2 - k = (t.2 - (k + 1)) + 1 by omega, zwh_go (by simpa using hc)]
  omega
theorem zrun_st {t : zT} {c k : Nat} (h : zbk (t.1 k) ≠ c ∨ t.2 ≤ k) : zrun t c k = k := by
  unfold zrun
  rcases h with h | h
  · rw [zwh_st (by simpa using h)]; rfl
  · rw [show t.2 - k = 0 by omega]; rfl
theorem zrun_in {t : zT} {c k j : Nat} (h1 : k ≤ j) (h2 : j < zrun t c k) : zbk (t.1 j) = c := by
  have := zwh_t (f := fun j => decide (zbk (t.1 j) = c)) k (t.2 - k) (j - k) (by unfold zrun at h2; omega)
  rw [show k + (j - k) = j by omega] at this
  simpa using this
theorem zrun_end {t : zT} {c k : Nat} (hk : k ≤ t.2) (h : zrun t c k < t.2) : zbk (t.1 (zrun t c k)) ≠ c := by
  have := zwh_f (f := fun j => decide (zbk (t.1 j) = c)) k (t.2 - k) (by unfold zrun at h; omega)
  have h2 : decide (zbk (t.1 (zrun t c k)) = c) = false := this
  simpa using h2
theorem zsk_at {t : zT} {k : Nat} (h : k ≤ t.2) : zat0 t (zsk t k) := ⟨zrun_le h, fun q => zrun_end h q⟩
theorem zsk_id {t : zT} {s : Nat} (h : zat0 t s) : zsk t s = s := by
  refine zrun_st ?_
  by_cases q : s < t.2
  · exact Or.inl (h.2 q)
  · exact Or.inr (by omega)
theorem zsk_sk {t : zT} {k : Nat} (h : k ≤ t.2) : zsk t (zsk t k) = zsk t k := zsk_id (zsk_at h)
theorem ztx_le {t : zT} {s : Nat} (h : s ≤ t.2) : ztx t s ≤ t.2 := by
  unfold ztx
  split
  · split
    · exact zrun_le h
    · split
      · exact zrun_le h
      · omega
  · exact h
theorem ztx_gt {t : zT} {s : Nat} (h : s < t.2) : s < ztx t s := by
  unfold ztx
  rw [if_pos h]
  split
  · next q => rw [zrun_go h q]; exact zrun_ge _ _ _
  · split
    · next q => rw [zrun_go h q]; exact zrun_ge _ _ _
    · omega
theorem znx_at {t : zT} {s : Nat} (h : s ≤ t.2) : zat0 t (znx t s) := zsk_at (ztx_le h)
theorem znx_gt {t : zT} {s : Nat} (h : s < t.2) : s < znx t s := Nat.lt_of_lt_of_le (ztx_gt h) (zrun_ge _ _ _)
theorem zat_word {t : zT} {s : Nat} (h : ztk t s = 1) : s < t.2 ∧ zbk (t.1 s) = 1 ∧ ztx t s = zrun t 1 s ∧ s < zrun t 1 s := by
  unfold ztk at h
  split at h
  · next q =>
    split at h
    · cases h
    · refine ⟨q, h, by unfold ztx; rw [if_pos q, if_pos h], ?_⟩
      rw [zrun_go q h]
      exact zrun_ge _ _ _
  · cases h
theorem zat_num {t : zT} {s : Nat} (h : ztk t s = 2) : s < t.2 ∧ zbk (t.1 s) = 2 ∧ ztx t s = zrun t 2 s ∧ zrun t 2 s - s ≤ 5 ∧ s < zrun t 2 s := by
  unfold ztk at h
  split at h
  · next q =>
    split at h
    · cases h
    · next q2 =>
      refine ⟨q, h, by unfold ztx; rw [if_pos q, if_neg (by omega), if_pos h], by omega, ?_⟩
      rw [zrun_go q h]
      exact zrun_ge _ _ _
  · cases h
theorem zat_sym {t : zT} {s : Nat} (h : ztk t s = 3) : s < t.2 ∧ zbk (t.1 s) = 3 ∧ ztx t s = s + 1 := by
  unfold ztk at h
  split at h
  · next q =>
    split at h
    · cases h
    · next q2 => exact ⟨q, h, by unfold ztx; rw [if_pos q, if_neg (by omega), if_neg (by omega)]⟩
  · cases h
/-- values of words and numbers -/
def zval (t : zT) (s : Nat) : Nat → Nat
  | 0 => 0
  | n + 1 => zval t s n * 27 + (t.1 (s + n) - 96)
def znum (t : zT) (s : Nat) : Nat → Nat
  | 0 => 0
  | n + 1 => znum t s n * 10 + (t.1 (s + n) - 48)
theorem zbk_1 {x : Nat} : zbk x = 1 ↔ 97 ≤ x ∧ x ≤ 122 := by
  unfold zbk
  constructor
  · intro h
    split at h
    · assumption
    · (repeat' split at h) <;> omega
  · intro h
    rw [if_pos h]
theorem zbk_2 {x : Nat} : zbk x = 2 ↔ 48 ≤ x ∧ x ≤ 57 := by
  unfold zbk
  constructor
  · intro h
    split at h
    · omega
    · split at h
      · assumption
      · (repeat' split at h) <;> omega
  · intro h
    rw [if_neg (by omega), if_pos h]
theorem zval_lt {t : zT} {s n : Nat} (h : ∀ j, j < n → 97 ≤ t.1 (s + j) ∧ t.1 (s + j) ≤ 122) : zval t s n < 27 ^ n := by
  induction n with
  | zero => exact Nat.zero_lt_one
  | succ n ih =>
    have h1 := ih (fun j hj => h j (by omega))
    have h2 := h n (by omega)
    show zval t s n * 27 + (t.1 (s + n) - 96) < 27 ^ (n + 1)
    rw [Nat.pow_succ]
    omega
theorem znum_lt {t : zT} {s n : Nat} (h : ∀ j, j < n → 48 ≤ t.1 (s + j) ∧ t.1 (s + j) ≤ 57) : znum t s n < 10 ^ n := by
  induction n with
  | zero => exact Nat.zero_lt_one
  | succ n ih =>
    have h1 := ih (fun j hj => h j (by omega))
    have h2 := h n (by omega)
    show znum t s n * 10 + (t.1 (s + n) - 48) < 10 ^ (n + 1)
    rw [Nat.pow_succ]
    omega
theorem zval_good {t : zT} {s n : Nat} (h : ∀ j, j < n → 97 ≤ t.1 (s + j) ∧ t.1 (s + j) ≤ 122) : zgood (zval t s n) := by
  induction n with
  | zero => exact zgood_0
  | succ n ih =>
    have h2 := h n (by omega)
    show zgood (zval t s n * 27 + (t.1 (s + n) - 96))
    rw [zgood_s (by omega)]
    refine ⟨by omega, ?_⟩
    rw [show (zval t s n * 27 + (t.1 (s + n) - 96)) / 27 = zval t s n by omega]
    exact ih (fun j hj => h j (by omega))
/-- the token at s is the word -/
def ziw (t : zT) (s : Nat) (w : List Nat) : Prop := ztk t s = 1 ∧ zrun t 1 s - s = w.length ∧ ∀ j, j < w.length → t.1 (s + j) = w.getD j 0
def zis (t : zT) (s c : Nat) : Prop := ztk t s = 3 ∧ t.1 s = c
def zwl : Nat → List Nat := fun k => match k with
  | 200 => [100, 105, 115, 107]
  | 201 => [112, 97, 114, 116, 105, 116, 105, 111, 110]
  | 202 => [102, 105, 108, 101]
  | 203 => [100, 105, 114]
  | 204 => [97, 116, 116, 114]
  | _ => []
theorem zwl_txt : ∀ k, k < 205 → 200 ≤ k → (z_txt k).length = (zwl k).length ∧ (zwl k).length ≤ 9 ∧ ∀ j, j < (zwl k).length → (z_txt k).getD j 0 = nI ((zwl k).getD j 0) ∧ (zwl k).getD j 0 < 256 := by decide +kernel
/-- the class stands before the token at s of text t -/
def cTx (t : zT) (I A : Nat → Nat → Int32) : Prop := I 2 1 = nI t.2 ∧ t.2 ≤ 800 ∧ ∀ i, i < t.2 → A 1 i = nI (t.1 i) ∧ t.1 i < 256
def cTk (t : zT) (s : Nat) (I : Nat → Nat → Int32) : Prop := zat0 t s ∧ I 2 5 = nI s ∧ I 2 6 = nI (ztx t s) ∧ I 2 4 = nI (ztk t s)
/-- only these slots of the reader change -/
def zRd (I I' : Nat → Nat → Int32) : Prop := ∀ c j, ¬ (c = 2 ∧ 4 ≤ j ∧ j ≤ 9) → I' c j = I c j
theorem zRd_rf (I : Nat → Nat → Int32) : zRd I I := fun _ _ _ => rfl
theorem zRd_tr {I I' I'' : Nat → Nat → Int32} (h : zRd I I') (g : zRd I' I'') : zRd I I'' := fun c j q => (g c j q).trans (h c j q)
theorem zRd_up {I I' : Nat → Nat → Int32} {j : Nat} {x : Int32} (h : zRd I I') (hj : 4 ≤ j ∧ j ≤ 9) : zRd I (z_up I' 2 j x) := fun c k q => by
  rw [zup_n (fun z => q ⟨z.1, by omega, by omega⟩)]
  exact h c k q
theorem cTx_fr {t : zT} {I A I' A' : Nat → Nat → Int32} (h : cTx t I A) (g : zRd I I') (hA : A' 1 = A 1) : cTx t I' A' := by
  refine ⟨by rw [g 2 1 (by omega)]; exact h.1, h.2.1, fun i hi => ?_⟩
  rw [hA]
  exact h.2.2 i hi
/-- an advance changes 4, 5, 6 alone -/
def zAd (I I' : Nat → Nat → Int32) : Prop := ∀ c j, ¬ (c = 2 ∧ 4 ≤ j ∧ j ≤ 6) → I' c j = I c j
theorem zAd_up {I I' : Nat → Nat → Int32} {j : Nat} {x : Int32} (h : zAd I I') (hj : 4 ≤ j ∧ j ≤ 6) : zAd I (z_up I' 2 j x) := fun c k q => by
  rw [zup_n (fun z => q ⟨z.1, by omega, by omega⟩)]
  exact h c k q
theorem zAd_rd {I I' : Nat → Nat → Int32} (h : zAd I I') : zRd I I' := fun c j q => h c j (fun z => q ⟨z.1, by omega, by omega⟩)
section
variable {L : Nat} {xs : Nat → Int32} {I : Nat → Nat → Int32} {R : Nat → Nat → Option Nat} {A : Nat → Nat → Int32} {lo : Int64} {dd : UInt64} {Φ : zPo} {t : zT} {s : Nat}
theorem s3_byteKind {x : Nat} (hx : x < 256) (h : Φ (.inl (some (.int (nI (zbk x))))) (I, R, A, lo, dd) 0) : zC L xs mX3_byteKind [.int (nI x)] (I, R, A, lo, dd) Φ := by
  refine zC_en (vc_X3_byteKind_0 ?_)
  simp (disch := omega) only [ze_lit, pk_mul, nI_add, nI_clamp, ze_inI, nI_ltI, nI_eq]
  unfold zbk at h
  repeat' (first | refine And.intro ?_ ?_ | intro _)
  all_goals first
    | omega
    | (rw [if_pos (by omega)] at h; exact h)
    | (rw [if_neg (by omega), if_pos (by omega)] at h; exact h)
    | (rw [if_neg (by omega), if_neg (by omega), if_pos (by omega)] at h; exact h)
    | (rw [if_neg (by omega), if_neg (by omega), if_neg (by omega), if_pos (by omega)] at h; exact h)
    | (rw [if_neg (by omega), if_neg (by omega), if_neg (by omega), if_neg (by omega)] at h; exact h)
theorem s3_advance (hR : R 2 0 = some 1) (hT : cTx t I A) {k : Nat} (hk : k ≤ t.2) (h6 : I 2 6 = nI k) (h : ∀ I' : Nat → Nat → Int32, zAd I I' → cTk t (zsk t k) I' → Φ (.inl none) (I', R, A, lo, dd) 0) : zC L xs mX3_advance [.ref 2] (I, R, A, lo, dd) Φ := by
  obtain ⟨hT1, hT2, hT3⟩ := hT
  refine zC_en (vc_X3_advance_0 ?_)
  have hs := zsk_at hk
  have hend := zrun_le (c := 5) hk
  -- the token itself
  have fin : ∀ I' : Nat → Nat → Int32, zAd I I' → I' 2 5 = nI (zsk t k) → (((I' 2 5 : Int32) < I' 2 1 → z_in (I' 2 5) 800 ∧ (zC L xs mX3_byteKind [.int (A 1 (Int32.toNatClampNeg (I' 2 5)))] (I', R, A, lo, dd) (z_kont [] (fun r τ Ψ => zW L xs mX3_advance 86 [some (.ref 2)] (r.toList ++ [.ref 2]) τ Ψ) Φ))) ∧ (¬ (I' 2 5 : Int32) < I' 2 1 → Φ (.inl none) (z_up I' 2 4 0, R, A, lo, dd) 0)) ∨ True := fun _ _ _ => Or.inr trivial
  clear fin
  have tok : ∀ I' : Nat → Nat → Int32, zAd I I' → I' 2 5 = nI (zsk t k) → I' 2 6 = nI (zsk t k) → zsk t k < t.2 → zW L xs mX3_advance 86 [some (.ref 2)] [.int (nI (zbk (t.1 (zsk t k)))), .ref 2] (I', R, A, lo, dd) Φ := by
    intro I' hI e5 e6 hlt
    generalize zsk t k = s at *
    have hb := zbk_le (t.1 s)
    have e1 : I' 2 1 = nI t.2 := by rw [hI 2 1 (by omega)]; exact hT1
    refine vc_X3_advance_86 ?_
    simp (disch := omega) only [ze_lit, pk_mul, nI_add, nI_clamp, ze_inI, nI_ltI, nI_eq, zup_s, zup_n, e5, e6]
    have hnw : zbk (t.1 s) ≠ 1 → zbk (t.1 s) ≠ 2 → Φ (.inl none) (z_up (z_up I' 2 4 (nI (zbk (t.1 s)))) 2 6 (nI (s + 1)), R, A, lo, dd) 0 := by
      intro q1 q2
      refine h _ (zAd_up (zAd_up hI (by decide)) (by decide)) ⟨hs, by rw [zup_n (by omega), zup_n (by omega)]; exact e5, ?_, ?_⟩
      · rw [zup_s]; unfold ztx; rw [if_pos hlt, if_neg q1, if_neg q2]
      · rw [zup_n (by omega), zup_s]; unfold ztk; rw [if_pos hlt, if_neg (fun z => q2 z.1)]
    have hrun : ∀ c, zbk (t.1 s) = c → (c = 1 ∨ c = 2) → zW L xs mX3_advance 115 [some (.ref 2)] [] (z_up (z_up I' 2 4 (nI c)) 2 6 (nI (s + 1)), R, A, lo, dd) Φ := by
      intro c hc hc12
      have hrl := zrun_le (c := c) (show s + 1 ≤ t.2 by omega)
      have hre : zrun t c s = zrun t c (s + 1) := zrun_go hlt hc
      have hfin : ∀ I'' : Nat → Nat → Int32, zAd I I'' → I'' 2 5 = nI s → I'' 2 6 = nI (zrun t c s) → I'' 2 4 = nI c → (((I'' 2 4) : Int32) = 2 → ((5 : Int32) < ((I'' 2 6) - (I'' 2 5)) → Φ (.inl none) ((z_up I'' 2 4 4), R, A, lo, dd) 0) ∧ (¬ (5 : Int32) < ((I'' 2 6) - (I'' 2 5)) → Φ (.inl none) (I'', R, A, lo, dd) 0)) ∧ (¬ ((I'' 2 4) : Int32) = 2 → Φ (.inl none) (I'', R, A, lo, dd) 0) := by
        intro I'' hI'' e5 e6 e4
        rw [e4, e5, e6, ze_sub (zrun_ge _ _ _)]
        have hx : ztx t s = zrun t c s := by
          unfold ztx
          rw [if_pos hlt]
          rcases hc12 with z | z
          · rw [if_pos (by omega), z]
          · rw [if_neg (by omega), if_pos (by omega), z]
        simp (disch := omega) only [ze_lit, pk_mul, nI_add, nI_clamp, ze_inI, nI_ltI, nI_eq]
        refine ⟨fun q => ⟨fun q2 => ?_, fun q2 => ?_⟩, fun q => ?_⟩
        · refine h _ (zAd_up hI'' (by decide)) ⟨hs, by rw [zup_n (by omega)]; exact e5, by rw [zup_n (by omega), hx]; exact e6, ?_⟩
          rw [zup_s]; unfold ztk; rw [if_pos hlt, if_pos ⟨by omega, by rw [q] at q2; exact q2⟩]
        · refine h _ hI'' ⟨hs, e5, by rw [hx]; exact e6, ?_⟩
          rw [e4]; unfold ztk; rw [if_pos hlt, if_neg (fun z => q2 (by rw [q]; exact z.2)), hc]
        · refine h _ hI'' ⟨hs, e5, by rw [hx]; exact e6, ?_⟩
          rw [e4]; unfold ztk; rw [if_pos hlt, if_neg (fun z => q (by omega)), hc]
      have key : ∀ i, i ≤ t.2 → s + 1 ≤ i → zrun t c (s + 1) = zrun t c i → ∀ I'' : Nat → Nat → Int32, zAd I I'' → I'' 2 5 = nI s → I'' 2 6 = nI i → I'' 2 4 = nI c → zW L xs mX3_advance 115 [some (.ref 2)] [] (I'', R, A, lo, dd) Φ := by
        refine ze_up ?_ ?_
        · intro hsi hr I'' hI'' e5 e6 e4
          have hf := hfin I'' hI'' e5 (by rw [hre, hr, zrun_st (Or.inr (Nat.le_refl _))]; exact e6) e4
          refine vc_X3_advance_115 hR ⟨fun q => ?_, fun _ => hf⟩
          rw [e6, hI'' 2 1 (by omega), hT1] at q
          exact absurd q (nI_nlt (Nat.le_refl _) (by omega))
        · intro i hi ih hsi hr I'' hI'' e5 e6 e4
          have e1 : I'' 2 1 = nI t.2 := by rw [hI'' 2 1 (by omega)]; exact hT1
          obtain ⟨t1, t2⟩ := hT3 i hi
          refine vc_X3_advance_115 hR ⟨fun _ => ?_, fun q => absurd (by rw [e6, e1]; exact nI_lt hi (by omega)) q⟩
          rw [e6, nI_clamp (by omega), t1]
          refine ⟨nI_in (by omega) (by decide), s3_byteKind t2 (zk_r (vc_X3_advance_138 ?_))⟩
          have hbi := zbk_le (t.1 i)
          rw [e4, nI_eq (by omega) (by omega)]
          refine ⟨fun q => ?_, fun q => ?_⟩
          · rw [e6, nI_1]
            exact ih (by omega) (by rw [hr, zrun_go hi q]) _ (zAd_up hI'' (by decide)) (by rw [zup_n (by omega)]; exact e5) zup_s (by rw [zup_n (by omega)]; exact e4)
          · have hf := hfin I'' hI'' e5 (by rw [hre, hr, zrun_st (Or.inl q)]; exact e6) e4
            rw [e4] at hf
            exact hf
      refine key (s + 1) (by omega) (Nat.le_refl _) rfl _ (zAd_up (zAd_up hI (by decide)) (by decide)) (by rw [zup_n (by omega), zup_n (by omega)]; exact e5) zup_s (by rw [zup_n (by omega), zup_s])
    refine ⟨fun q => ?_, fun q => ⟨fun q2 => ?_, fun q2 => ⟨fun q3 => absurd q3 q2, fun q3 => hnw q q2⟩⟩⟩
    · rw [q]; exact hrun 1 q (Or.inl rfl)
    · rw [q2]; exact hrun 2 q2 (Or.inr rfl)
  -- blanks
  have key : ∀ i, i ≤ t.2 → zsk t k = zsk t i → ∀ I' : Nat → Nat → Int32, zAd I I' → I' 2 5 = nI i → zW L xs mX3_advance 8 [some (.ref 2)] [] (I', R, A, lo, dd) Φ := by
    refine ze_up ?_ ?_
    · intro hsk I' hI e5
      have e1 : I' 2 1 = nI t.2 := by rw [hI 2 1 (by omega)]; exact hT1
      have hsk' : zsk t k = t.2 := hsk.trans (zrun_st (Or.inr (Nat.le_refl _)))
      refine vc_X3_advance_8 hR ?_
      simp (disch := omega) only [ze_lit, pk_mul, nI_add, nI_clamp, ze_inI, nI_ltI, nI_eq, zup_s, zup_n, e5, e1]
      refine ⟨fun q => absurd q (Nat.lt_irrefl _), fun _ => ⟨fun q => absurd q (Nat.lt_irrefl _), fun _ => ?_⟩⟩
      refine h _ (zAd_up (zAd_up hI (by decide)) (by decide)) ⟨hs, by rw [hsk', zup_n (by omega), zup_n (by omega)]; exact e5, ?_, ?_⟩
      · rw [zup_n (by omega), zup_s, hsk']; unfold ztx; rw [if_neg (Nat.lt_irrefl _)]
      · rw [zup_s, hsk']; unfold ztk; rw [if_neg (Nat.lt_irrefl _)]
    · intro i hi ih hsk I' hI e5
      have e1 : I' 2 1 = nI t.2 := by rw [hI 2 1 (by omega)]; exact hT1
      obtain ⟨t1, t2⟩ := hT3 i hi
      have hbi := zbk_le (t.1 i)
      refine vc_X3_advance_8 hR ?_
      simp (disch := omega) only [ze_lit, pk_mul, nI_add, nI_clamp, ze_inI, nI_ltI, nI_eq, zup_s, zup_n, e5, e1, t1]
      refine ⟨fun _ => ⟨by omega, s3_byteKind t2 (zk_r (vc_X3_advance_31 hR ?_))⟩, fun q => absurd hi q⟩
      simp (disch := omega) only [ze_lit, pk_mul, nI_add, nI_clamp, ze_inI, nI_ltI, nI_eq, zup_s, zup_n, e5, e1, t1]
      refine ⟨fun q => ih (by rw [hsk]; exact zrun_go hi q) _ (zAd_up hI (by decide)) zup_s, fun q => ?_⟩
      have hsk' : zsk t k = i := hsk.trans (zrun_st (Or.inl q))
      refine ⟨fun _ => ⟨by omega, s3_byteKind t2 (zk_r ?_)⟩, fun z => absurd hi z⟩
      have := tok (z_up I' 2 6 (nI i)) (zAd_up hI (by decide)) (by rw [hsk', zup_n (by omega)]; exact e5) (by rw [hsk', zup_s]) (by omega)
      rw [hsk'] at this
      exact this
  rw [h6]
  exact key k hk rfl _ (zAd_up (fun _ _ _ => rfl) (by decide)) zup_s
theorem s3_isWord (hR : R 2 0 = some 1) (hT : cTx t I A) (hs : cTk t s I) {w : Nat} (hw : 200 ≤ w ∧ w < 205) (h1 : ziw t s (zwl w) → Φ (.inl (some (.int 1))) (I, R, A, lo, dd) 0) (h0 : ¬ ziw t s (zwl w) → Φ (.inl (some (.int 0))) (I, R, A, lo, dd) 0) : zC L xs mX3_isWord [.ref 2, .ref w] (I, R, A, lo, dd) Φ := by
  obtain ⟨hT1, hT2, hT3⟩ := hT
  obtain ⟨hs0, hs5, hs6, hs4⟩ := hs
  obtain ⟨l1, l2, l3⟩ := zwl_txt w hw.2 hw.1
  have htk : ztk t s ≤ 5 := by
    unfold ztk
    have := zbk_le (t.1 s)
    split
    · split <;> omega
    · omega
  refine zC_en (vc_X3_isWord_0 hw.1 hw.2 ?_)
  have hx := ztx_le hs0.1
  have hsx : s ≤ ztx t s := by
    by_cases q : s < t.2
    · exact Nat.le_of_lt (ztx_gt q)
    · unfold ztx; rw [if_neg q]; exact Nat.le_refl _
  have hs1 := hs0.1
  rw [hs4, hs5, hs6, ze_sub hsx, show Int32.ofNat (z_txt w).length = nI (zwl w).length by rw [l1]; rfl]
  simp (disch := omega) only [ze_lit, pk_mul, nI_add, nI_clamp, ze_inI, nI_ltI, nI_eq]
  refine ⟨fun q1 => ⟨fun q2 => ?_, fun q2 => h0 (fun z => q2 ?_)⟩, fun q1 => h0 (fun z => q1 z.1)⟩
  · obtain ⟨a1, a2, a3, a4⟩ := zat_word q1
    rw [a3] at q2
    have key : ∀ j, j ≤ (zwl w).length → (∀ i, i < j → t.1 (s + i) = (zwl w).getD i 0) → zW L xs mX3_isWord 28 [some (.ref 2), some (.ref w), some (.int (nI j))] [] (I, R, A, lo, dd) Φ := by
      refine ze_up ?_ ?_
      · intro hj
        refine vc_X3_isWord_28 hw.1 hw.2 hR ?_
        rw [show Int32.ofNat (z_txt w).length = nI (zwl w).length by rw [l1]; rfl]
        simp (disch := omega) only [ze_lit, pk_mul, nI_add, nI_clamp, ze_inI, nI_ltI, nI_eq]
        exact ⟨fun q => absurd q (Nat.lt_irrefl _), fun _ => h1 ⟨q1, q2, hj⟩⟩
      · intro j hj ih hjj
        obtain ⟨t1, t2⟩ := hT3 (s + j) (by have := zrun_le (c := 1) hs1; omega)
        obtain ⟨l4, l5⟩ := l3 j hj
        refine vc_X3_isWord_28 hw.1 hw.2 hR ?_
        rw [show Int32.ofNat (z_txt w).length = nI (zwl w).length by rw [l1]; rfl, l1, hs5]
        replace l4 : (z_txt w).getD j (nI 0) = nI ((zwl w).getD j 0) := l4
        simp (disch := omega) only [ze_lit, pk_mul, nI_add, nI_clamp, ze_inI, nI_ltI, nI_eq, t1, l4]
        refine ⟨fun _ => ⟨by omega, by omega, fun q => ih (lt_s hjj q), fun q => h0 (fun z => q (z.2.2 j hj))⟩, fun q => absurd hj q⟩
    exact key 0 (Nat.zero_le _) (fun i q => absurd q (Nat.not_lt_zero _))
  · obtain ⟨a1, a2, a3, a4⟩ := zat_word q1
    rw [a3]
    exact z.2.1
/-- an error is noted -/
def zEr (c p : Nat) (I I' : Nat → Nat → Int32) : Prop := zRd I I' ∧ I' 2 8 = nI c ∧ I' 2 9 = nI p
theorem zEr_up {c p : Nat} {I I' : Nat → Nat → Int32} (h : zRd I I') : zEr c p I (z_up (z_up I' 2 8 (nI c)) 2 9 (nI p)) := ⟨zRd_up (zRd_up h (by decide)) (by decide), by rw [zup_n (by omega), zup_s], zup_s⟩
def zrnum (t : zT) (lw hi s : Nat) : (Nat × Nat) ⊕ Nat := if ztk t s = 2 then (if znum t s (zrun t 2 s - s) < lw ∨ hi < znum t s (zrun t 2 s - s) then .inl (2, s) else .inr (znum t s (zrun t 2 s - s))) else .inl (1, s)
def zrname (t : zT) (s : Nat) : (Nat × Nat) ⊕ Nat := if ztk t s = 1 ∧ zrun t 1 s - s ≤ 6 then .inr (zval t s (zrun t 1 s - s)) else .inl (1, s)
/-- values change slot 7 alone -/
def zVl (I I' : Nat → Nat → Int32) : Prop := ∀ c j, ¬ (c = 2 ∧ j = 7) → I' c j = I c j
theorem zVl_rd {I I' : Nat → Nat → Int32} (h : zVl I I') : zRd I I' := fun c j q => h c j (fun z => q ⟨z.1, by omega, by omega⟩)
theorem zVl_tk {t : zT} {s : Nat} {I I' : Nat → Nat → Int32} (h : zVl I I') (g : cTk t s I) : cTk t s I' := ⟨g.1, by rw [h 2 5 (by omega)]; exact g.2.1, by rw [h 2 6 (by omega)]; exact g.2.2.1, by rw [h 2 4 (by omega)]; exact g.2.2.2⟩
theorem s3_checkNumber (hR : R 2 0 = some 1) (hT : cTx t I A) (hs : cTk t s I) {lw hi : Nat} (hlw : lw ≤ 99999) (hhi : hi ≤ 99999) (h1 : ∀ I' n, zrnum t lw hi s = .inr n → zVl I I' → I' 2 7 = nI n → lw ≤ n → n ≤ hi → Φ (.inl (some (.int 1))) (I', R, A, lo, dd) 0) (h0 : ∀ I' c p, zrnum t lw hi s = .inl (c, p) → zEr c p I I' → Φ (.inl (some (.int 0))) (I', R, A, lo, dd) 0) : zC L xs mX3_checkNumber [.ref 2, .int (nI lw), .int (nI hi)] (I, R, A, lo, dd) Φ := by
  have hs' := hs
  obtain ⟨hT1, hT2, hT3⟩ := hT
  obtain ⟨hs0, hs5, hs6, hs4⟩ := hs
  have htk : ztk t s ≤ 5 := by
    unfold ztk
    have := zbk_le (t.1 s)
    split
    · split <;> omega
    · omega
  refine zC_en (vc_X3_checkNumber_0 ?_)
  simp (disch := omega) only [ze_lit, pk_mul, nI_add, nI_clamp, ze_inI, nI_ltI, nI_eq, hs4, zup_n, hs5]
  refine ⟨fun q1 => ?_, fun q1 => h0 _ 1 s (if_neg q1) (zEr_up (zRd_rf _))⟩
  obtain ⟨a1, a2, a3, a4, a5⟩ := zat_num q1
  have hrl := zrun_le (c := 2) hs0.1
  have hdig : ∀ j, j < zrun t 2 s - s → 48 ≤ t.1 (s + j) ∧ t.1 (s + j) ≤ 57 := fun j hj => zbk_2.mp (zrun_in (k := s) (by omega) (by omega))
  have hb : ∀ n, n ≤ zrun t 2 s - s → znum t s n < 100000 := fun n hn => by
    have h1 := znum_lt (t := t) (s := s) (n := n) (fun j hj => hdig j (by omega))
    exact Nat.lt_of_lt_of_le h1 (Nat.le_trans (Nat.pow_le_pow_right (by decide) (show n ≤ 5 by omega)) (by decide))
  have key : ∀ n, n ≤ zrun t 2 s - s → ∀ I' : Nat → Nat → Int32, zVl I I' → I' 2 7 = nI (znum t s n) → zW L xs mX3_checkNumber 24 [some (.ref 2), some (.int (nI lw)), some (.int (nI hi)), some (.int (nI (s + n)))] [] (I', R, A, lo, dd) Φ := by
    refine ze_up ?_ ?_
    · intro I' hI e7
      have e6 : I' 2 6 = nI (zrun t 2 s) := by rw [hI 2 6 (by omega), hs6, a3]
      have e5 : I' 2 5 = nI s := by rw [hI 2 5 (by omega)]; exact hs5
      have hbn := hb _ (Nat.le_refl _)
      have hzr : ∀ c : Prop, ¬ (c ∧ ¬ c) := fun c z => z.2 z.1
      refine vc_X3_checkNumber_24 hR ?_
      simp (disch := omega) only [ze_lit, pk_mul, nI_add, nI_clamp, ze_inI, nI_ltI, nI_eq, e6, e7, zup_n, e5]
      refine ⟨fun q => absurd q (by omega), fun _ => ⟨fun q => h0 _ 2 s (by unfold zrnum; rw [if_pos q1, if_pos (Or.inl q)]) (zEr_up (zVl_rd hI)), fun q => ⟨fun q2 => h0 _ 2 s (by unfold zrnum; rw [if_pos q1, if_pos (Or.inr q2)]) (zEr_up (zVl_rd hI)), fun q2 => h1 _ _ (by unfold zrnum; rw [if_pos q1, if_neg (by omega)]) hI e7 (by omega) (by omega)⟩⟩⟩
    · intro n hn ih I' hI e7
      have e6 : I' 2 6 = nI (zrun t 2 s) := by rw [hI 2 6 (by omega), hs6, a3]
      obtain ⟨t1, t2⟩ := hT3 (s + n) (by omega)
      have hd := hdig n hn
      have hbn := hb n (by omega)
      refine vc_X3_checkNumber_24 hR ?_
      simp (disch := omega) only [ze_lit, pk_mul, nI_add, nI_clamp, ze_inI, nI_ltI, nI_eq, e6, e7, t1]
      refine ⟨fun _ => ⟨by omega, ?_⟩, fun q => absurd (by omega) q⟩
      rw [ze_sub (by omega)]
      refine ih _ (fun c j q => by rw [zup_n q]; exact hI c j q) ?_
      rw [zup_s]
      show _ = nI (znum t s n * 10 + (t.1 (s + n) - 48))
      congr 1
      omega
  exact key 0 (Nat.zero_le _) _ (fun c j q => by rw [zup_n q]) zup_s
theorem s3_checkName (hR : R 2 0 = some 1) (hT : cTx t I A) (hs : cTk t s I) (h1 : ∀ I' n, zrname t s = .inr n → zVl I I' → I' 2 7 = nI n → zok n → Φ (.inl (some (.int 1))) (I', R, A, lo, dd) 0) (h0 : ∀ I' c p, zrname t s = .inl (c, p) → zEr c p I I' → Φ (.inl (some (.int 0))) (I', R, A, lo, dd) 0) : zC L xs mX3_checkName [.ref 2] (I, R, A, lo, dd) Φ := by
  obtain ⟨hT1, hT2, hT3⟩ := hT
  obtain ⟨hs0, hs5, hs6, hs4⟩ := hs
  have htk : ztk t s ≤ 5 := by
    unfold ztk
    have := zbk_le (t.1 s)
    split
    · split <;> omega
    · omega
  have hx := ztx_le hs0.1
  have hsx : s ≤ ztx t s := by
    by_cases q : s < t.2
    · exact Nat.le_of_lt (ztx_gt q)
    · unfold ztx; rw [if_neg q]; exact Nat.le_refl _
  refine zC_en (vc_X3_checkName_0 ?_)
  rw [hs4, hs5, hs6, ze_sub hsx]
  simp (disch := omega) only [ze_lit, pk_mul, nI_add, nI_clamp, ze_inI, nI_ltI, nI_eq, zup_n, hs5]
  refine ⟨fun q1 => ?_, fun q1 => h0 _ 1 s (if_neg (fun z => q1 z.1)) (zEr_up (zRd_rf _))⟩
  obtain ⟨a1, a2, a3, a4⟩ := zat_word q1
  rw [a3]
  refine ⟨fun q2 => h0 _ 1 s (if_neg (fun z => by omega)) (zEr_up (zRd_rf _)), fun q2 => ?_⟩
  have hrl := zrun_le (c := 1) hs0.1
  have hdig : ∀ j, j < zrun t 1 s - s → 97 ≤ t.1 (s + j) ∧ t.1 (s + j) ≤ 122 := fun j hj => zbk_1.mp (zrun_in (k := s) (by omega) (by omega))
  have hb : ∀ n, n ≤ zrun t 1 s - s → zval t s n < 387420489 := fun n hn => by
    have h1 := zval_lt (t := t) (s := s) (n := n) (fun j hj => hdig j (by omega))
    exact Nat.lt_of_lt_of_le h1 (Nat.le_trans (Nat.pow_le_pow_right (by decide) (show n ≤ 6 by omega)) (by decide))
  have key : ∀ n, n ≤ zrun t 1 s - s → ∀ I' : Nat → Nat → Int32, zVl I I' → I' 2 7 = nI (zval t s n) → zW L xs mX3_checkName 38 [some (.ref 2), some (.int (nI (s + n)))] [] (I', R, A, lo, dd) Φ := by
    refine ze_up ?_ ?_
    · intro I' hI e7
      have e6 : I' 2 6 = nI (zrun t 1 s) := by rw [hI 2 6 (by omega), hs6, a3]
      refine vc_X3_checkName_38 hR ?_
      simp (disch := omega) only [ze_lit, pk_mul, nI_add, nI_clamp, ze_inI, nI_ltI, nI_eq, e6]
      refine ⟨fun q => absurd q (by omega), fun _ => h1 I' _ (if_pos ⟨q1, by omega⟩) hI e7 ⟨?_, hb _ (Nat.le_refl _), zval_good hdig⟩⟩
      rw [show zrun t 1 s - s = (zrun t 1 s - s - 1) + 1 by omega]
      have := hdig (zrun t 1 s - s - 1) (by omega)
      show 0 < zval t s (zrun t 1 s - s - 1) * 27 + (t.1 (s + (zrun t 1 s - s - 1)) - 96)
      omega
    · intro n hn ih I' hI e7
      have e6 : I' 2 6 = nI (zrun t 1 s) := by rw [hI 2 6 (by omega), hs6, a3]
      obtain ⟨t1, t2⟩ := hT3 (s + n) (by omega)
      have hd := hdig n hn
      have hbn := hb n (by omega)
      refine vc_X3_checkName_38 hR ?_
      simp (disch := omega) only [ze_lit, pk_mul, nI_add, nI_clamp, ze_inI, nI_ltI, nI_eq, e6, e7, t1]
      refine ⟨fun _ => ⟨by omega, ?_⟩, fun q => absurd (by omega) q⟩
      rw [ze_sub (by omega), nI_add]
      refine ih _ (fun c j q => by rw [zup_n q]; exact hI c j q) ?_
      rw [zup_s]
      show _ = nI (zval t s n * 27 + (t.1 (s + n) - 96))
      congr 1
      omega
  exact key 0 (Nat.zero_le _) _ (fun c j q => by rw [zup_n q]) zup_s
theorem s3_readSymbol (hR : R 2 0 = some 1) (hT : cTx t I A) (hs : cTk t s I) {c : Nat} (hc : c < 256) (h1 : ∀ I', zis t s c → zAd I I' → cTk t (znx t s) I' → Φ (.inl (some (.int 1))) (I', R, A, lo, dd) 0) (h0 : ∀ I', ¬ zis t s c → zEr 1 s I I' → Φ (.inl (some (.int 0))) (I', R, A, lo, dd) 0) : zC L xs mX3_readSymbol [.ref 2, .int (nI c)] (I, R, A, lo, dd) Φ := by
  have hT' := hT
  obtain ⟨hT1, hT2, hT3⟩ := hT
  obtain ⟨hs0, hs5, hs6, hs4⟩ := hs
  have htk : ztk t s ≤ 5 := by
    unfold ztk
    have := zbk_le (t.1 s)
    split
    · split <;> omega
    · omega
  refine zC_en (vc_X3_readSymbol_0 hR ?_)
  rw [hs4]
  have hs1 := hs0.1
  refine ⟨fun q1 => ?_, fun q1 => ?_⟩
  · have q1' : ztk t s = 3 := (nI_eq (by omega) (by decide)).mp q1
    obtain ⟨a1, a2, a3⟩ := zat_sym q1'
    obtain ⟨t1, t2⟩ := hT3 s a1
    simp (disch := omega) only [ze_lit, pk_mul, nI_add, nI_clamp, ze_inI, nI_ltI, nI_eq, hs5, t1, zup_n]
    refine ⟨by omega, fun q2 => ?_, fun q2 => h0 _ (fun z => q2 z.2) (zEr_up (zRd_rf _))⟩
    refine s3_advance hR hT' (ztx_le hs1) hs6 (fun I' g1 g2 => zk_r (vc_X3_readSymbol_18 (h1 I' ⟨q1', q2⟩ g1 g2)))
  · rw [zup_n (by omega), hs5]
    exact h0 _ (fun z => q1 (by rw [z.1]; rfl)) (zEr_up (zRd_rf _))
end
