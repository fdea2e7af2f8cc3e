/-! append: both sides write the same bytes -/
def zpt1 (t : zT) (b : Nat) : zT := (zse t.1 t.2 b, t.2 + 1)
def zp4 (t : zT) (x : Int32) : zT := zpt1 (zpt1 (zpt1 (zpt1 t (zby x 24)) (zby x 16)) (zby x 8)) (zby x 0)
def zap5 (t : zT) (x1 x2 x3 x4 x5 : Int32) : zT := zp4 (zp4 (zp4 (zp4 (zp4 t x1) x2) x3) x4) x5
/-- the class's text -/
def cTt (t : zT) (I A : Nat → Nat → Int32) : Prop := I 0 1 = nI t.2 ∧ t.2 ≤ 800 ∧ ∀ i, i < t.2 → A 1 i = nI (t.1 i) ∧ t.1 i < 256
theorem zpt1_ok {t : zT} {x k : Int32} {n : Nat} {a a' : Nat → Int32} (h : ∀ i, i < t.2 → a i = nI (t.1 i) ∧ t.1 i < 256) (e : ∀ i, i ≠ t.2 → a' i = a i) (e2 : a' t.2 = nI (zby x k)) : ∀ i, i < (zpt1 t (zby x k)).2 → a' i = nI ((zpt1 t (zby x k)).1 i) ∧ (zpt1 t (zby x k)).1 i < 256 := by
  intro i hi
  replace hi : i < t.2 + 1 := hi
  show a' i = nI (zse t.1 t.2 (zby x k) i) ∧ zse t.1 t.2 (zby x k) i < 256
  by_cases q : i = t.2
  · rw [q, zse_s]
    exact ⟨e2, zby_lt x k⟩
  · rw [zse_n q, e i q]
    exact h i (by omega)
section
variable {L : Nat} {xs : Nat → Int32} {I : Nat → Nat → Int32} {R : Nat → Nat → Option Nat} {A : Nat → Nat → Int32} {lo : Int64} {dd : UInt64} {Φ : zPo} {t : zT} {x : Int32}
theorem s5_put1 (hT : cTt t I A) (h8 : t.2 < 800) {k k' : Int32} (hk : k = 0 ∨ k = 8 ∨ k = 16 ∨ k = 24) (hk' : k + (-8) = k') (h : ∀ I' A' : Nat → Nat → Int32, (∀ c j, ¬ (c = 0 ∧ j = 1) → I' c j = I c j) → (∀ c, c ≠ 1 → A' c = A c) → cTt (zpt1 t (zby x k)) I' A' → zW L xs mX5_putBytes 3 [some (.ref 0), some (.int x), some (.int k')] [] (I', R, A', lo, dd) Φ) : zW L xs mX5_putBytes 3 [some (.ref 0), some (.int x), some (.int k)] [] (I, R, A, lo, dd) Φ := by
  obtain ⟨h1, h2, h3⟩ := hT
  refine vc_X5_putBytes_3 ⟨fun z => absurd z (by rcases hk with rfl | rfl | rfl | rfl <;> decide), fun _ => ⟨fun _ => ?_, fun z => absurd (by rw [h1]; exact nI_lt h8 (by decide)) z⟩⟩
  rw [h1, nI_clamp (by omega), zsh_e hk, zby_n, nI_1, hk']
  refine ⟨nI_in (by omega) (by omega), h _ _ (fun c j q => zup_n q) (fun c q => by funext j; rw [zup_n (fun z => q z.1)]) ⟨zup_s, by show t.2 + 1 ≤ 800; omega, zpt1_ok (n := 0) h3 (fun i hi => by rw [zup_n (by omega)]) zup_s⟩⟩
theorem s5_putBytes (hT : cTt t I A) (h8 : t.2 + 4 ≤ 800) (h : ∀ I' A' : Nat → Nat → Int32, (∀ c j, ¬ (c = 0 ∧ j = 1) → I' c j = I c j) → (∀ c, c ≠ 1 → A' c = A c) → cTt (zp4 t x) I' A' → Φ (.inl none) (I', R, A', lo, dd) 0) : zC L xs mX5_putBytes [.ref 0, .int x] (I, R, A, lo, dd) Φ := by
  refine zC_en (vc_X5_putBytes_0 ?_)
  refine s5_put1 hT (by omega) (by decide) (k' := 16) (by decide) (fun I1 A1 i1 a1 T1 => ?_)
  refine s5_put1 T1 (by show t.2 + 1 < 800; omega) (by decide) (k' := 8) (by decide) (fun I2 A2 i2 a2 T2 => ?_)
  refine s5_put1 T2 (by show t.2 + 1 + 1 < 800; omega) (by decide) (k' := 0) (by decide) (fun I3 A3 i3 a3 T3 => ?_)
  refine s5_put1 T3 (by show t.2 + 1 + 1 + 1 < 800; omega) (by decide) (k' := -8) (by decide) (fun I4 A4 i4 a4 T4 => ?_)
  exact vc_X5_putBytes_3 ⟨fun _ => h I4 A4 (fun c j q => by rw [i4 c j q, i3 c j q, i2 c j q, i1 c j q]) (fun c q => by rw [a4 c q, a3 c q, a2 c q, a1 c q]) T4, fun z => absurd (by decide) z⟩
theorem s6_put1 (hT : mTx t I A) (h8 : t.2 < 800) {k k' : Int32} (hk : k = 0 ∨ k = 8 ∨ k = 16 ∨ k = 24) (hk' : k + (-8) = k') (h : ∀ I' A' : Nat → Nat → Int32, (∀ c j, ¬ (c = 107 ∧ j = 4) → I' c j = I c j) → (∀ c, c ≠ 110 → A' c = A c) → mTx (zpt1 t (zby x k)) I' A' → zW L xs mX6_four 3 [some (.ref 107), some (.int x), some (.int k')] [] (I', R, A', lo, dd) Φ) : zW L xs mX6_four 3 [some (.ref 107), some (.int x), some (.int k)] [] (I, R, A, lo, dd) Φ := by
  obtain ⟨h1, h2, h3⟩ := hT
  refine vc_X6_four_3 ⟨fun z => absurd z (by rcases hk with rfl | rfl | rfl | rfl <;> decide), fun _ => ?_⟩
  rw [h1, nI_clamp (by omega), zby_n, nI_1, hk']
  refine ⟨nI_in (by omega) (by omega), h _ _ (fun c j q => zup_n q) (fun c q => by funext j; rw [zup_n (fun z => q z.1)]) ⟨zup_s, by show t.2 + 1 ≤ 800; omega, zpt1_ok (n := 0) h3 (fun i hi => by rw [zup_n (by omega)]) zup_s⟩⟩
theorem s6_four (hT : mTx t I A) (h8 : t.2 + 4 ≤ 800) (h : ∀ I' A' : Nat → Nat → Int32, (∀ c j, ¬ (c = 107 ∧ j = 4) → I' c j = I c j) → (∀ c, c ≠ 110 → A' c = A c) → mTx (zp4 t x) I' A' → Φ (.inl none) (I', R, A', lo, dd) 0) : zC L xs mX6_four [.ref 107, .int x] (I, R, A, lo, dd) Φ := by
  refine zC_en (vc_X6_four_0 ?_)
  refine s6_put1 hT (by omega) (by decide) (k' := 16) (by decide) (fun I1 A1 i1 a1 T1 => ?_)
  refine s6_put1 T1 (by show t.2 + 1 < 800; omega) (by decide) (k' := 8) (by decide) (fun I2 A2 i2 a2 T2 => ?_)
  refine s6_put1 T2 (by show t.2 + 1 + 1 < 800; omega) (by decide) (k' := 0) (by decide) (fun I3 A3 i3 a3 T3 => ?_)
  refine s6_put1 T3 (by show t.2 + 1 + 1 + 1 < 800; omega) (by decide) (k' := -8) (by decide) (fun I4 A4 i4 a4 T4 => ?_)
  exact vc_X6_four_3 ⟨fun _ => h I4 A4 (fun c j q => by rw [i4 c j q, i3 c j q, i2 c j q, i1 c j q]) (fun c q => by rw [a4 c q, a3 c q, a2 c q, a1 c q]) T4, fun z => absurd (by decide) z⟩
end
