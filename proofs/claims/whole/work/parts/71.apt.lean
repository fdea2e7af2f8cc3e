/-! append and truncate on both sides -/
theorem zn_of {x : Int32} (h : ¬ x < 0) : x = nI x.toNatClampNeg ∧ x.toNatClampNeg < 2 ^ 31 := by
  rw [Int32.lt_iff_toInt_lt] at h
  have h0 : (0 : Int32).toInt = 0 := rfl
  have h1 : x.toNatClampNeg = x.toInt.toNat := rfl
  refine ⟨Int32.toInt.inj ?_, x.toNatClampNeg_lt⟩
  show _ = (Int32.ofNat x.toNatClampNeg).toInt
  rw [Int32.toInt_ofNat_of_lt x.toNatClampNeg_lt, h1]
  omega
theorem zap5_2 (t : zT) (x1 x2 x3 x4 x5 : Int32) : (zap5 t x1 x2 x3 x4 x5).2 = t.2 + 20 := rfl
section
variable {L : Nat} {xs : Nat → Int32} {I : Nat → Nat → Int32} {R : Nat → Nat → Option Nat} {A : Nat → Nat → Int32} {lo : Int64} {dd : UInt64} {Φ : zPo} {t : zT} {x1 x2 x3 x4 x5 : Int32}
theorem s5_append (hT : cTt t I A) (h1 : t.2 + 20 ≤ 800 → ∀ I' A' : Nat → Nat → Int32, (∀ c j, ¬ (c = 0 ∧ j = 1) → I' c j = I c j) → (∀ c, c ≠ 1 → A' c = A c) → cTt (zap5 t x1 x2 x3 x4 x5) I' A' → Φ (.inl (some (.int (nI (t.2 + 20))))) (I', R, A', lo, dd) 0) (h0 : ¬ t.2 + 20 ≤ 800 → Φ (.inr 2) (I, R, A, lo, dd) 1) : zC L xs mX5_append [.ref 0, .int x1, .int x2, .int x3, .int x4, .int x5] (I, R, A, lo, dd) Φ := by
  have hT2 := hT.2.1
  refine zC_en (vc_X5_append_0 ?_)
  rw [hT.1, show (20 : Int32) = nI 20 from rfl, nI_add]
  refine ⟨fun q => h0 (fun z => absurd ((nI_ltI (a := 800) (by decide) (by omega)).mp q) (by omega)), fun q => ?_⟩
  have h8 : t.2 + 20 ≤ 800 := Nat.le_of_not_lt (fun z => q (nI_lt z (by omega)))
  refine s5_putBytes hT (by omega) (fun I1 A1 i1 a1 T1 => zk_r (vc_X5_append_28 ?_))
  refine s5_putBytes T1 (by show t.2 + 4 + 4 ≤ 800; omega) (fun I2 A2 i2 a2 T2 => zk_r (vc_X5_append_33 ?_))
  refine s5_putBytes T2 (by show t.2 + 4 + 4 + 4 ≤ 800; omega) (fun I3 A3 i3 a3 T3 => zk_r (vc_X5_append_38 ?_))
  refine s5_putBytes T3 (by show t.2 + 4 + 4 + 4 + 4 ≤ 800; omega) (fun I4 A4 i4 a4 T4 => zk_r (vc_X5_append_44 ?_))
  refine s5_putBytes T4 (by show t.2 + 4 + 4 + 4 + 4 + 4 ≤ 800; omega) (fun I5 A5 i5 a5 T5 => zk_r (vc_X5_append_50 ?_))
  have := h1 h8 I5 A5 (fun c j q => by rw [i5 c j q, i4 c j q, i3 c j q, i2 c j q, i1 c j q]) (fun c q => by rw [a5 c q, a4 c q, a3 c q, a2 c q, a1 c q]) T5
  rw [show I5 0 1 = nI (t.2 + 20) from T5.1]
  exact this
theorem s6_append (hT : mTx t I A) (h1 : t.2 + 20 ≤ 800 → ∀ I' A' : Nat → Nat → Int32, (∀ c j, ¬ (c = 107 ∧ (j = 0 ∨ j = 4)) → I' c j = I c j) → I' 107 0 = 0 → (∀ c, c ≠ 110 → A' c = A c) → mTx (zap5 t x1 x2 x3 x4 x5) I' A' → Φ (.inl (some (.int (nI (t.2 + 20))))) (I', R, A', lo, dd) 0) (h0 : ¬ t.2 + 20 ≤ 800 → ∀ I' : Nat → Nat → Int32, (∀ c j, ¬ (c = 107 ∧ j = 0) → I' c j = I c j) → I' 107 0 = 1 → Φ (.inl (some (.int 0))) (I', R, A, lo, dd) 0) : zC L xs mX6_append [.ref 107, .int x1, .int x2, .int x3, .int x4, .int x5] (I, R, A, lo, dd) Φ := by
  have hT2 := hT.2.1
  refine zC_en (vc_X6_append_0 ?_)
  have e4 : z_up I 107 0 0 107 4 = nI t.2 := by rw [zup_n (by omega)]; exact hT.1
  have hT0 : mTx t (z_up I 107 0 0) A := ⟨e4, hT.2⟩
  rw [e4, show (20 : Int32) = nI 20 from rfl, nI_add]
  refine ⟨fun q => h0 (fun z => absurd ((nI_ltI (a := 800) (by decide) (by omega)).mp q) (by omega)) _ (fun c j w => by rw [zup_n w, zup_n w]) zup_s, fun q => ?_⟩
  have h8 : t.2 + 20 ≤ 800 := Nat.le_of_not_lt (fun z => q (nI_lt z (by omega)))
  refine s6_four hT0 (by omega) (fun I1 A1 i1 a1 T1 => zk_r (vc_X6_append_29 ?_))
  refine s6_four T1 (by show t.2 + 4 + 4 ≤ 800; omega) (fun I2 A2 i2 a2 T2 => zk_r (vc_X6_append_34 ?_))
  refine s6_four T2 (by show t.2 + 4 + 4 + 4 ≤ 800; omega) (fun I3 A3 i3 a3 T3 => zk_r (vc_X6_append_39 ?_))
  refine s6_four T3 (by show t.2 + 4 + 4 + 4 + 4 ≤ 800; omega) (fun I4 A4 i4 a4 T4 => zk_r (vc_X6_append_45 ?_))
  refine s6_four T4 (by show t.2 + 4 + 4 + 4 + 4 + 4 ≤ 800; omega) (fun I5 A5 i5 a5 T5 => zk_r (vc_X6_append_51 ?_))
  have := h1 h8 I5 A5 (fun c j q => by rw [i5 c j (by omega), i4 c j (by omega), i3 c j (by omega), i2 c j (by omega), i1 c j (by omega), zup_n (by omega)]) (by rw [i5 107 0 (by omega), i4 107 0 (by omega), i3 107 0 (by omega), i2 107 0 (by omega), i1 107 0 (by omega), zup_s]) (fun c q => by rw [a5 c q, a4 c q, a3 c q, a2 c q, a1 c q]) T5
  rw [show I5 107 4 = nI (t.2 + 20) from T5.1]
  exact this
theorem s5_truncate {x : Int32} (hT : cTt t I A) (h1 : ∀ (k : Nat) (I' : Nat → Nat → Int32), x = nI k → k ≤ t.2 → (∀ c j, ¬ (c = 0 ∧ j = 1) → I' c j = I c j) → cTt (t.1, k) I' A → Φ (.inl (some (.int (nI k)))) (I', R, A, lo, dd) 0) (h0 : (∀ k, x = nI k → k < 2 ^ 31 → ¬ k ≤ t.2) → Φ (.inr 0) (I, R, A, lo, dd) 1) : zC L xs mX5_truncate [.ref 0, .int x] (I, R, A, lo, dd) Φ := by
  have hT2 := hT.2.1
  refine zC_en (vc_X5_truncate_0 ⟨fun q => h0 (fun k e hk _ => nI_pos hk (e ▸ q)), fun q => ⟨fun q2 => h0 (fun k e hk hle => ?_), fun q2 => ?_⟩⟩)
  · rw [hT.1, e] at q2
    exact absurd ((nI_ltI (by omega) hk).mp q2) (by omega)
  · obtain ⟨e, hk⟩ := zn_of q
    generalize x.toNatClampNeg = k at *
    subst e
    rw [hT.1] at q2
    have hle : k ≤ t.2 := Nat.le_of_not_lt (fun z => q2 (nI_lt z hk))
    have := h1 k (z_up I 0 1 (nI k)) rfl hle (fun c j w => zup_n w) ⟨zup_s, by show k ≤ 800; omega, fun i hi => hT.2.2 i (by have : i < k := hi; omega)⟩
    rw [zup_s]
    exact this
theorem s6_truncate {x : Int32} (hT : mTx t I A) (h1 : ∀ (k : Nat) (I' : Nat → Nat → Int32), x = nI k → k ≤ t.2 → (∀ c j, ¬ (c = 107 ∧ (j = 0 ∨ j = 4)) → I' c j = I c j) → I' 107 0 = 0 → mTx (t.1, k) I' A → Φ (.inl (some (.int (nI k)))) (I', R, A, lo, dd) 0) (h0 : (∀ k, x = nI k → k < 2 ^ 31 → ¬ k ≤ t.2) → ∀ I' : Nat → Nat → Int32, (∀ c j, ¬ (c = 107 ∧ j = 0) → I' c j = I c j) → I' 107 0 = 1 → Φ (.inl (some (.int 0))) (I', R, A, lo, dd) 0) : zC L xs mX6_truncate [.ref 107, .int x] (I, R, A, lo, dd) Φ := by
  have hT2 := hT.2.1
  have e4 : z_up I 107 0 0 107 4 = nI t.2 := by rw [zup_n (by omega)]; exact hT.1
  refine zC_en (vc_X6_truncate_0 ⟨fun q => h0 (fun k e hk _ => nI_pos hk (e ▸ q)) _ (fun c j w => by rw [zup_n w, zup_n w]) zup_s, fun q => ⟨fun q2 => h0 (fun k e hk hle => ?_) _ (fun c j w => by rw [zup_n w, zup_n w]) zup_s, fun q2 => ?_⟩⟩)
  · rw [e4, e] at q2
    exact absurd ((nI_ltI (by omega) hk).mp q2) (by omega)
  · obtain ⟨e, hk⟩ := zn_of q
    generalize x.toNatClampNeg = k at *
    subst e
    rw [e4] at q2
    have hle : k ≤ t.2 := Nat.le_of_not_lt (fun z => q2 (nI_lt z hk))
    have := h1 k (z_up (z_up I 107 0 0) 107 4 (nI k)) rfl hle (fun c j w => by rw [zup_n (by omega), zup_n (by omega)]) (by rw [zup_n (by omega), zup_s]) ⟨zup_s, by show k ≤ 800; omega, fun i hi => hT.2.2 i (by have : i < k := hi; omega)⟩
    rw [zup_s]
    exact this
end
