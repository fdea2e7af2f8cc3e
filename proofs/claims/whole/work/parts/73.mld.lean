/-! load, the model's side -/
section
variable {L : Nat} {xs : Nat → Int32} {I : Nat → Nat → Int32} {R : Nat → Nat → Option Nat} {A : Nat → Nat → Int32} {lo : Int64} {dd : UInt64} {Φ : zPo} {t : zT}
theorem mIm_cp {s k : Nat} {v : zV} {A A' : Nat → Nat → Int32} (hw : zwf v) (h : mIm s v A) (g : ∀ j, j < 159 → A' 108 (159 * k + j) = A 108 (159 * s + j)) : mIm k v A' := by
  have w1 := hw.1
  have w2 := hw.2.1
  obtain ⟨m0, m1, m2, p0, p1, p2, n0, n1, n2, n3, n4, n5⟩ := h
  refine ⟨by rw [g _ (by decide)]; exact m0, by rw [g _ (by decide)]; exact m1, by rw [g _ (by decide)]; exact m2, fun p hp => ?_, fun p hp => ?_, fun p hp => ?_, fun n hn => ?_, fun n hn => ?_, fun n hn => ?_, fun n hn => ?_, fun n hn => ?_, fun n hn => ?_⟩
  · rw [show 159 * k + 3 + 3 * p + 0 = 159 * k + (3 + 3 * p + 0) by omega, g _ (by omega), ← p0 p hp]; congr 1; omega
  · rw [show 159 * k + 3 + 3 * p + 1 = 159 * k + (3 + 3 * p + 1) by omega, g _ (by omega), ← p1 p hp]; congr 1; omega
  · rw [show 159 * k + 3 + 3 * p + 2 = 159 * k + (3 + 3 * p + 2) by omega, g _ (by omega), ← p2 p hp]; congr 1; omega
  · rw [show 159 * k + 15 + 6 * n + 0 = 159 * k + (15 + 6 * n + 0) by omega, g _ (by omega), ← n0 n hn]; congr 1; omega
  · rw [show 159 * k + 15 + 6 * n + 1 = 159 * k + (15 + 6 * n + 1) by omega, g _ (by omega), ← n1 n hn]; congr 1; omega
  · rw [show 159 * k + 15 + 6 * n + 2 = 159 * k + (15 + 6 * n + 2) by omega, g _ (by omega), ← n2 n hn]; congr 1; omega
  · rw [show 159 * k + 15 + 6 * n + 3 = 159 * k + (15 + 6 * n + 3) by omega, g _ (by omega), ← n3 n hn]; congr 1; omega
  · rw [show 159 * k + 15 + 6 * n + 4 = 159 * k + (15 + 6 * n + 4) by omega, g _ (by omega), ← n4 n hn]; congr 1; omega
  · rw [show 159 * k + 15 + 6 * n + 5 = 159 * k + (15 + 6 * n + 5) by omega, g _ (by omega), ← n5 n hn]; congr 1; omega
theorem s6_load {x : Int32} (hT : mTx t I A) (h1 : ∀ (k : Nat) (I' A' : Nat → Nat → Int32) (v' : zV), k ≤ 1 → x = nI k → zrimg t = .inr v' → (∀ c j, ¬ (c = 107 ∧ j ≤ 10) → I' c j = I c j) → I' 107 0 = 0 → I' 107 4 = 0 → I' 107 6 = 0 → I' 107 7 = -1 → (∀ c, c ≠ 108 → A' c = A c) → (∀ j, j < 318 → ¬ (159 * k ≤ j ∧ j < 159 * k + 159) → A' 108 j = A 108 j) → mIm k v' A' → Φ (.inl (some (.int (nI (vN v'))))) (I', R, A', lo, dd) 0) (h0 : ∀ (k : Nat) (I' A' : Nat → Nat → Int32) c p, k ≤ 1 → x = nI k → zrimg t = .inl (c, p) → (∀ c j, ¬ (c = 107 ∧ j ≤ 10) → I' c j = I c j) → I' 107 0 = 2 → I' 107 4 = 0 → I' 107 6 = nI c → I' 107 7 = nI p → (∀ c, c ≠ 108 → A' c = A c) → (∀ j, j < 318 → A' 108 j = A 108 j) → Φ (.inl (some (.int 0))) (I', R, A', lo, dd) 0) (hn : (∀ k, k ≤ 1 → x ≠ nI k) → Φ (.inl (some (.int 0))) (z_up I 107 0 1, R, A, lo, dd) 0) : zC L xs mX6_load [.ref 107, .int x] (I, R, A, lo, dd) Φ := by
  refine zC_en (vc_X6_load_0 ⟨fun q => ⟨fun _ => hn (fun k hk e => nI_pos (by omega) (e ▸ q)), fun z => absurd (by rw [zup_s]; decide) z⟩, fun q => ⟨fun q1 => ⟨fun _ => hn (fun k hk e => ?_), fun z => absurd (by rw [zup_s]; decide) z⟩, fun q1 => ⟨fun z => absurd z (by rw [zup_s]; decide), fun _ => ?_⟩⟩⟩)
  · rw [e] at q1
    exact absurd ((nI_ltI (a := 1) (by decide) (by omega)).mp q1) (by omega)
  · obtain ⟨e, hk2⟩ := zn_of q
    generalize x.toNatClampNeg = k at *
    have hk : k ≤ 1 := Nat.le_of_not_lt (fun z => q1 (by rw [e]; exact nI_lt (a := 1) z hk2))
    have fI : ∀ c j, ¬ (c = 107 ∧ j ≤ 10) → z_up (z_up (z_up (z_up (z_up I 107 0 0) 107 6 0) 107 7 (-1)) 107 5 0) 107 8 0 c j = I c j := fun c j w => by rw [zup_n (by omega), zup_n (by omega), zup_n (by omega), zup_n (by omega), zup_n (by omega)]
    have f0 : z_up (z_up (z_up (z_up (z_up I 107 0 0) 107 6 0) 107 7 (-1)) 107 5 0) 107 8 0 107 0 = 0 := by rw [zup_n (by omega), zup_n (by omega), zup_n (by omega), zup_n (by omega), zup_s]
    have f4 : z_up (z_up (z_up (z_up (z_up I 107 0 0) 107 6 0) 107 7 (-1)) 107 5 0) 107 8 0 107 4 = nI t.2 := by rw [zup_n (by omega), zup_n (by omega), zup_n (by omega), zup_n (by omega), zup_n (by omega)]; exact hT.1
    have f5 : z_up (z_up (z_up (z_up (z_up I 107 0 0) 107 6 0) 107 7 (-1)) 107 5 0) 107 8 0 107 5 = nI 0 := by rw [zup_n (by omega), zup_s]; rfl
    have f6 : z_up (z_up (z_up (z_up (z_up I 107 0 0) 107 6 0) 107 7 (-1)) 107 5 0) 107 8 0 107 6 = 0 := by rw [zup_n (by omega), zup_n (by omega), zup_n (by omega), zup_s]
    have f7 : z_up (z_up (z_up (z_up (z_up I 107 0 0) 107 6 0) 107 7 (-1)) 107 5 0) 107 8 0 107 7 = -1 := by rw [zup_n (by omega), zup_n (by omega), zup_s]
    have f8 : z_up (z_up (z_up (z_up (z_up I 107 0 0) 107 6 0) 107 7 (-1)) 107 5 0) 107 8 0 107 8 = 0 := zup_s
    generalize z_up (z_up (z_up (z_up (z_up I 107 0 0) 107 6 0) 107 7 (-1)) 107 5 0) 107 8 0 = I1 at *
    have gA : ∀ c, c ≠ 108 → z_up (z_up A 108 319 0) 108 320 0 c = A c := fun c w => by funext j; rw [zup_n (fun z => w z.1), zup_n (fun z => w z.1)]
    have gj : ∀ j, j < 318 → z_up (z_up A 108 319 0) 108 320 0 108 j = A 108 j := fun j w => by rw [zup_n (by omega), zup_n (by omega)]
    refine s6_readImage (t := t) ⟨f4, hT.2.1, fun i hi => by rw [gA 110 (by decide)]; exact hT.2.2 i hi⟩ f5 f8 (by rw [zup_n (by omega), zup_s]) zup_s (fun I2 A2 v' hz d2 e6 e7 a2 e8 hv => zk_r (vc_X6_load_67 ⟨fun _ => ?_, fun z => absurd (by rw [zup_n (by omega)]; exact e8) z⟩)) (fun I2 A2 c p hz d2 a2 b2 => zk_r (vc_X6_load_67 ⟨fun z => absurd z (by rw [zup_n (by omega), b2.1]; decide), fun _ => ?_⟩))
    · have hw := zrimg_ok hz
      have w2 := hw.2.1
      rw [e]
      refine s6_copies (s := 2) (t := k) (by decide) (by omega) (by omega) (fun A3 g1 g2 g3 => zk_r (vc_X6_load_91 ?_))
      have hm := mIm_cp (A' := A3) hw hv g3
      have hix : ((159 : Int32) * nI k) + 2 = nI (159 * k + 2) := by simp (disch := omega) only [ze_lit, pk_mul, nI_add, nI_clamp, ze_inI, nI_ltI, nI_eq]
      rw [hix, nI_clamp (by omega), hm.2.2.1]
      refine ⟨nI_in (by omega) (by omega), h1 k _ A3 v' hk e hz (fun c j w => ?_) ?_ zup_s ?_ ?_ (fun c w => by rw [g1 c w, a2.1 c w, gA c w]) (fun j w w2 => ?_) hm⟩
      · rw [zup_n (by omega), d2.1 c j (by omega)]
        exact fI c j w
      · rw [zup_n (by omega), d2.1 107 0 (by omega)]
        exact f0
      · rw [zup_n (by omega), e6]
        exact f6
      · rw [zup_n (by omega), e7]
        exact f7
      · rw [g2 j w2, a2.2 j w, gj j w]
    · refine h0 k _ A2 c p hk e hz (fun c j w => ?_) zup_s ?_ ?_ ?_ (fun c w => by rw [a2.1 c w, gA c w]) (fun j w => by rw [a2.2 j w, gj j w])
      · rw [zup_n (by omega), zup_n (by omega), d2.1 c j (by omega)]
        exact fI c j w
      · rw [zup_n (by omega), zup_s]
      · rw [zup_n (by omega), zup_n (by omega)]
        exact b2.2.1
      · rw [zup_n (by omega), zup_n (by omega)]
        exact b2.2.2.1
end
