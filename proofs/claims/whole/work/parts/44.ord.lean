/-! nodes in a new order: the class's reorder, the model's renumbers -/
def zpl (od : Nat → Nat) (m p : Nat) : Option Nat := if zwh (fun j => decide (¬ od j = p)) 0 m < m then some (zwh (fun j => decide (¬ od j = p)) 0 m) else none
def zrn (v : zV) (od : Nat → Nat) (m : Nat) : zV := (vS v, vP v, m, vpt v, fun w k => vnd v w (od k), fun k => (vpar v (od k)).bind (zpl od m), fun k => vhom v (od k), fun k => vdep v (od k))
def zinj (od : Nat → Nat) (m : Nat) : Prop := ∀ i j, i < m → j < m → od i = od j → i = j
theorem zpl_of {od : Nat → Nat} {m j : Nat} (hi : zinj od m) (hj : j < m) : zpl od m (od j) = some j := by
  have h1 : zwh (fun i => decide (¬ od i = od j)) 0 m ≤ j := by
    refine Nat.le_of_not_lt (fun q => ?_)
    have := zwh_t (f := fun i => decide (¬ od i = od j)) 0 m j q
    simp at this
  have h2 := zwh_f (f := fun i => decide (¬ od i = od j)) 0 m (by omega)
  rw [Nat.zero_add] at h2
  have h3 : od (zwh (fun i => decide (¬ od i = od j)) 0 m) = od j := by simpa using h2
  have h4 := hi _ _ (by omega) hj h3
  unfold zpl
  rw [if_pos (by omega), h4]
theorem zpl_no {od : Nat → Nat} {m p : Nat} (h : ∀ j, j < m → od j ≠ p) : zpl od m p = none := by
  refine if_neg (fun q => ?_)
  have h2 := zwh_f (f := fun i => decide (¬ od i = p)) 0 m q
  rw [Nat.zero_add] at h2
  exact h _ q (by simpa using h2)
theorem zpl_lt {od : Nat → Nat} {m p k : Nat} (h : zpl od m p = some k) : k < m ∧ od k = p := by
  unfold zpl at h
  split at h
  · next q =>
    cases h
    have h2 := zwh_f (f := fun i => decide (¬ od i = p)) 0 m q
    rw [Nat.zero_add] at h2
    exact ⟨q, by simpa using h2⟩
  · cases h
section
variable {L : Nat} {xs : Nat → Int32} {I : Nat → Nat → Int32} {R : Nat → Nat → Option Nat} {A : Nat → Nat → Int32} {lo : Int64} {dd : UInt64} {Φ : zPo} {b i : Nat} {v : zV} {od : Nat → Nat} {m : Nat}
theorem s2_reorderRow (hb : z_ib b) {r : Nat} (hr : 4 ≤ r ∧ r ≤ 10) (hm : m ≤ 24) (ho : ∀ k, k < m → A (b + 11) k = nI (od k) ∧ od k < 24) (h : ∀ A' : Nat → Nat → Int32, (∀ c, c ≠ b + r → c ≠ b + 13 → A' c = A c) → (∀ k, k < m → A' (b + r) k = A (b + r) (od k)) → Φ (.inl none) (I, R, A', lo, dd) 0) : zC L xs mX2_reorderRow [.ref b, .ref (b + r), .int (nI m)] (I, R, A, lo, dd) Φ := by
  have hk := z_ib_a hb r (by omega)
  have hl := z_ib_l24 hb r (by omega)
  refine zC_en (vc_X2_reorderRow_0 hb hk hl (z_ib_n hb r (by omega)) (vc_X2_reorderRow_9 hb hk hl (by omega) (vc_X2_reorderRow_12 ?_)))
  have hc : ∀ j, j < 24 → zcp A (b + r) (b + 13) (b + 13) j = A (b + r) j := by
    intro j hj
    have e0 : (0 : Int32).toNatClampNeg = 0 := by decide
    have e24 : (24 : Int32).toNatClampNeg = 24 := by decide
    unfold zcp
    rw [if_pos rfl, e0, e24, if_pos (by omega)]
    congr 1
    omega
  have hc2 : ∀ c, c ≠ b + 13 → zcp A (b + r) (b + 13) c = A c := fun c q => by
    funext j
    unfold zcp
    rw [if_neg q]
  generalize zcp A (b + r) (b + 13) = B at hc hc2
  have key : ∀ k, k ≤ m → ∀ A' : Nat → Nat → Int32, (∀ c, c ≠ b + r → A' c = B c) → (∀ j, j < k → A' (b + r) j = A (b + r) (od j)) → zW L xs mX2_reorderRow 14 [some (.ref b), some (.ref (b + r)), some (.int (nI m)), some (.int (nI k))] [] (I, R, A', lo, dd) Φ := by
    refine ze_up ?_ ?_
    · intro A' h1 h2
      refine vc_X2_reorderRow_14 hb hk hl ?_
      simp (disch := omega) only [ze_lit, pk_mul, nI_add, nI_clamp, ze_inI, nI_ltI, nI_eq]
      exact ⟨fun q => absurd q (Nat.lt_irrefl _), fun _ => h A' (fun c c1 c2 => by rw [h1 c c1, hc2 c c2]) h2⟩
    · intro k hkm ih A' h1 h2
      obtain ⟨o1, o2⟩ := ho k hkm
      have e1 : A' (b + 11) k = nI (od k) := by rw [h1 _ (by omega), hc2 _ (by omega), o1]
      have e2 : A' (b + 13) (od k) = A (b + r) (od k) := by rw [h1 _ (by omega), hc _ o2]
      refine vc_X2_reorderRow_14 hb hk hl ?_
      simp (disch := omega) only [ze_lit, pk_mul, nI_add, nI_clamp, ze_inI, nI_ltI, nI_eq, e1, e2]
      refine ⟨fun _ => ⟨by omega, by omega, ih _ (fun c hc => ?_) (fun j hj => ?_)⟩, fun q => absurd hkm q⟩
      · funext z
        rw [zup_n (fun q => hc q.1)]
        exact congrFun (h1 c hc) z
      · by_cases e : j = k
        · rw [e, zup_s]
        · rw [zup_n (fun q => e q.2)]
          exact h2 j (by omega)
  exact key 0 (Nat.zero_le _) B (fun _ _ => rfl) (fun j q => absurd q (Nat.not_lt_zero _))
theorem s2_reorder (hb : z_ib b) (hv : cIm b v I A) (hN : vN v ≤ 24) (hh : ∀ n, n < vN v → vhom v n < 4) (hd : ∀ n, n < vN v → vdep v n ≤ 5) (hm : m ≤ 24) (hi : zinj od m) (ho : ∀ k, k < m → A (b + 11) k = nI (od k) ∧ od k < vN v) (hp : ∀ k p, k < m → vpar v (od k) = some p → ∃ j, j < m ∧ od j = p) (h : ∀ I' A' : Nat → Nat → Int32, (∀ c j, ¬ (c = b ∧ j = 5) → I' c j = I c j) → (∀ c, ¬ (b + 4 ≤ c ∧ c ≤ b + 13) → A' c = A c) → cIm b (zrn v od m) I' A' → (∀ k, k < m → A' (b + 12) (od k) = nI k) → Φ (.inl none) (I', R, A', lo, dd) 0) : zC L xs mX2_reorder [.ref b, .int (nI m)] (I, R, A, lo, dd) Φ := by
  obtain ⟨hS, hP, hNn, p0, p1, p2, n0, n1, n2, n3, n4, n5, n6⟩ := hv
  refine zC_en (vc_X2_reorder_0 hb ?_)
  have keyA : ∀ k, k ≤ m → ∀ A' : Nat → Nat → Int32, (∀ c, c ≠ b + 12 → A' c = A c) → (∀ j, j < k → A' (b + 12) (od j) = nI j) → zW L xs mX2_reorder 2 [some (.ref b), some (.int (nI m)), some (.int (nI k))] [] (I, R, A', lo, dd) Φ := by
    refine ze_up ?_ ?_
    · intro A0 f0 g0
      refine vc_X2_reorder_2 hb ?_
      simp (disch := omega) only [ze_lit, pk_mul, nI_add, nI_clamp, ze_inI, nI_ltI, nI_eq]
      refine ⟨fun q => absurd q (Nat.lt_irrefl _), fun _ => ?_⟩
      have ho0 : ∀ k, k < m → A0 (b + 11) k = nI (od k) ∧ od k < 24 := fun k hk => by rw [f0 _ (by omega)]; exact ⟨(ho k hk).1, by have := (ho k hk).2; omega⟩
      refine s2_reorderRow hb (r := 4) (by decide) hm ho0 (fun A1 f1 g1 => zk_r (vc_X2_reorder_34 hb ?_))
      refine s2_reorderRow hb (r := 5) (by decide) hm (fun k hk => by rw [f1 _ (by omega) (by omega)]; exact ho0 k hk) (fun A2 f2 g2 => zk_r (vc_X2_reorder_43 hb ?_))
      refine s2_reorderRow hb (r := 6) (by decide) hm (fun k hk => by rw [f2 _ (by omega) (by omega), f1 _ (by omega) (by omega)]; exact ho0 k hk) (fun A3 f3 g3 => zk_r (vc_X2_reorder_52 hb ?_))
      refine s2_reorderRow hb (r := 7) (by decide) hm (fun k hk => by rw [f3 _ (by omega) (by omega), f2 _ (by omega) (by omega), f1 _ (by omega) (by omega)]; exact ho0 k hk) (fun A4 f4 g4 => zk_r (vc_X2_reorder_61 hb ?_))
      refine s2_reorderRow hb (r := 8) (by decide) hm (fun k hk => by rw [f4 _ (by omega) (by omega), f3 _ (by omega) (by omega), f2 _ (by omega) (by omega), f1 _ (by omega) (by omega)]; exact ho0 k hk) (fun A5 f5 g5 => zk_r (vc_X2_reorder_70 hb ?_))
      refine s2_reorderRow hb (r := 9) (by decide) hm (fun k hk => by rw [f5 _ (by omega) (by omega), f4 _ (by omega) (by omega), f3 _ (by omega) (by omega), f2 _ (by omega) (by omega), f1 _ (by omega) (by omega)]; exact ho0 k hk) (fun A6 f6 g6 => zk_r (vc_X2_reorder_79 hb ?_))
      refine s2_reorderRow hb (r := 10) (by decide) hm (fun k hk => by rw [f6 _ (by omega) (by omega), f5 _ (by omega) (by omega), f4 _ (by omega) (by omega), f3 _ (by omega) (by omega), f2 _ (by omega) (by omega), f1 _ (by omega) (by omega)]; exact ho0 k hk) (fun A7 f7 g7 => zk_r (vc_X2_reorder_88 hb ?_))
      have FA : ∀ c, ¬ (b + 4 ≤ c ∧ c ≤ b + 13) → A7 c = A c := fun c hc => by rw [f7 _ (by omega) (by omega), f6 _ (by omega) (by omega), f5 _ (by omega) (by omega), f4 _ (by omega) (by omega), f3 _ (by omega) (by omega), f2 _ (by omega) (by omega), f1 _ (by omega) (by omega), f0 _ (by omega)]
      have G4 : ∀ k, k < m → A7 (b + 4) k = vnd v 0 (od k) := fun k hk => by rw [f7 _ (by omega) (by omega), f6 _ (by omega) (by omega), f5 _ (by omega) (by omega), f4 _ (by omega) (by omega), f3 _ (by omega) (by omega), f2 _ (by omega) (by omega), g1 k hk, f0 _ (by omega)]; exact n0 _ (ho k hk).2
      have G5 : ∀ k, k < m → A7 (b + 5) k = vnd v 1 (od k) := fun k hk => by rw [f7 _ (by omega) (by omega), f6 _ (by omega) (by omega), f5 _ (by omega) (by omega), f4 _ (by omega) (by omega), f3 _ (by omega) (by omega), g2 k hk, f1 _ (by omega) (by omega), f0 _ (by omega)]; exact n1 _ (ho k hk).2
      have G6 : ∀ k, k < m → A7 (b + 6) k = vnd v 2 (od k) := fun k hk => by rw [f7 _ (by omega) (by omega), f6 _ (by omega) (by omega), f5 _ (by omega) (by omega), f4 _ (by omega) (by omega), g3 k hk, f2 _ (by omega) (by omega), f1 _ (by omega) (by omega), f0 _ (by omega)]; exact n2 _ (ho k hk).2
      have G7 : ∀ k, k < m → A7 (b + 7) k = vnd v 3 (od k) := fun k hk => by rw [f7 _ (by omega) (by omega), f6 _ (by omega) (by omega), f5 _ (by omega) (by omega), g4 k hk, f3 _ (by omega) (by omega), f2 _ (by omega) (by omega), f1 _ (by omega) (by omega), f0 _ (by omega)]; exact n3 _ (ho k hk).2
      have G8 : ∀ k, k < m → A7 (b + 8) k = zpI (vpar v (od k)) := fun k hk => by rw [f7 _ (by omega) (by omega), f6 _ (by omega) (by omega), g5 k hk, f4 _ (by omega) (by omega), f3 _ (by omega) (by omega), f2 _ (by omega) (by omega), f1 _ (by omega) (by omega), f0 _ (by omega)]; exact n4 _ (ho k hk).2
      have G9 : ∀ k, k < m → A7 (b + 9) k = nI (vhom v (od k)) := fun k hk => by rw [f7 _ (by omega) (by omega), g6 k hk, f5 _ (by omega) (by omega), f4 _ (by omega) (by omega), f3 _ (by omega) (by omega), f2 _ (by omega) (by omega), f1 _ (by omega) (by omega), f0 _ (by omega)]; exact n5 _ (ho k hk).2
      have G10 : ∀ k, k < m → A7 (b + 10) k = nI (vdep v (od k)) := fun k hk => by rw [g7 k hk, f6 _ (by omega) (by omega), f5 _ (by omega) (by omega), f4 _ (by omega) (by omega), f3 _ (by omega) (by omega), f2 _ (by omega) (by omega), f1 _ (by omega) (by omega), f0 _ (by omega)]; exact n6 _ (ho k hk).2
      have G12 : ∀ k, k < m → A7 (b + 12) (od k) = nI k := fun k hk => by rw [f7 _ (by omega) (by omega), f6 _ (by omega) (by omega), f5 _ (by omega) (by omega), f4 _ (by omega) (by omega), f3 _ (by omega) (by omega), f2 _ (by omega) (by omega), f1 _ (by omega) (by omega)]; exact g0 k hk
      clear f0 f1 f2 f3 f4 f5 f6 f7 g0 g1 g2 g3 g4 g5 g6 g7 ho0
      have keyB : ∀ k, k ≤ m → ∀ A' : Nat → Nat → Int32, (∀ c, c ≠ b + 8 → A' c = A7 c) → (∀ j, j < k → A' (b + 8) j = zpI ((vpar v (od j)).bind (zpl od m))) → (∀ j, k ≤ j → j < m → A' (b + 8) j = zpI (vpar v (od j))) → zW L xs mX2_reorder 95 [some (.ref b), some (.int (nI m)), some (.int (nI k))] [] (z_up I b 5 (nI m), R, A', lo, dd) Φ := by
        refine ze_up ?_ ?_
        · intro A' q1 q2 q3
          refine vc_X2_reorder_95 hb ?_
          simp (disch := omega) only [ze_lit, pk_mul, nI_add, nI_clamp, ze_inI, nI_ltI, nI_eq]
          refine ⟨fun q => absurd q (Nat.lt_irrefl _), fun _ => h _ A' (fun c j hc => zup_n hc) (fun c hc => by rw [q1 c (by omega)]; exact FA c hc) ?_ (fun k hk => by rw [q1 _ (by omega)]; exact G12 k hk)⟩
          refine ⟨by rw [zup_n (by omega)]; exact hS, by rw [zup_n (by omega)]; exact hP, zup_s, fun p hp => ?_, fun p hp => ?_, fun p hp => ?_, fun k hk => ?_, fun k hk => ?_, fun k hk => ?_, fun k hk => ?_, q2, fun k hk => ?_, fun k hk => ?_⟩
          · rw [q1 _ (by omega), FA _ (by omega)]; exact p0 p hp
          · rw [q1 _ (by omega), FA _ (by omega)]; exact p1 p hp
          · rw [q1 _ (by omega), FA _ (by omega)]; exact p2 p hp
          · rw [q1 _ (by omega)]; exact G4 k hk
          · rw [q1 _ (by omega)]; exact G5 k hk
          · rw [q1 _ (by omega)]; exact G6 k hk
          · rw [q1 _ (by omega)]; exact G7 k hk
          · rw [q1 _ (by omega)]; exact G9 k hk
          · rw [q1 _ (by omega)]; exact G10 k hk
        · intro k hk ih A' q1 q2 q3
          have e1 := q3 k (Nat.le_refl _) hk
          have hstep : ∀ A'' : Nat → Nat → Int32, (∀ c, c ≠ b + 8 → A'' c = A7 c) → (∀ j, j ≠ k → A'' (b + 8) j = A' (b + 8) j) → A'' (b + 8) k = zpI ((vpar v (od k)).bind (zpl od m)) → zW L xs mX2_reorder 95 [some (.ref b), some (.int (nI m)), some (.int (nI (k + 1)))] [] (z_up I b 5 (nI m), R, A'', lo, dd) Φ := by
            intro A'' z1 z2 z3
            refine ih A'' z1 (fun j hj => ?_) (fun j hj1 hj2 => ?_)
            · by_cases e : j = k
              · rw [e]; exact z3
              · rw [z2 j e]; exact q2 j (by omega)
            · rw [z2 j (by omega)]; exact q3 j (by omega) hj2
          refine vc_X2_reorder_95 hb ?_
          cases hx : vpar v (od k) with
          | none =>
            rw [hx] at e1
            replace e1 : A' (b + 8) k = -nI 1 := e1
            simp (disch := omega) only [ze_lit, pk_mul, nI_add, nI_clamp, ze_inI, nI_ltI, nI_eq, e1]
            exact ⟨fun _ => ⟨by omega, fun _ => hstep _ q1 (fun _ _ => rfl) (by rw [hx]; exact e1), fun z => absurd trivial z⟩, fun z => absurd hk z⟩
          | some p =>
            obtain ⟨j, hj, hjp⟩ := hp k p hk hx
            have hp24 : p < 24 := by have := (ho j hj).2; omega
            have e12 : A' (b + 12) p = nI j := by rw [q1 _ (by omega), ← hjp]; exact G12 j hj
            rw [hx] at e1
            replace e1 : A' (b + 8) k = nI p := e1
            simp (disch := omega) only [ze_lit, pk_mul, nI_add, nI_clamp, ze_inI, nI_ltI, nI_eq, e1, e12, ze_m1n]
            refine ⟨fun _ => ⟨by omega, fun z => z.elim, fun _ => ⟨by omega, by omega, by omega, hstep _ (fun c hc => ?_) (fun j' hj' => ?_) ?_⟩⟩, fun z => absurd hk z⟩
            · funext y
              rw [zup_n (fun q => hc q.1)]
              exact congrFun (q1 c hc) y
            · rw [zup_n (fun q => hj' q.2)]
            · rw [zup_s, hx, ← hjp]
              show _ = zpI (zpl od m (od j))
              rw [zpl_of hi hj]
              rfl
      exact keyB 0 (Nat.zero_le _) A7 (fun _ _ => rfl) (fun j q => absurd q (Nat.not_lt_zero _)) (fun j _ hj => G8 j hj)
    · intro k hk ih A' h1 h2
      obtain ⟨o1, o2⟩ := ho k hk
      have e1 : A' (b + 11) k = nI (od k) := by rw [h1 _ (by omega), o1]
      refine vc_X2_reorder_2 hb ?_
      simp (disch := omega) only [ze_lit, pk_mul, nI_add, nI_clamp, ze_inI, nI_ltI, nI_eq, e1]
      refine ⟨fun _ => ⟨by omega, by omega, ih _ (fun c hc => ?_) (fun j hj => ?_)⟩, fun q => absurd hk q⟩
      · funext z
        rw [zup_n (fun q => hc q.1)]
        exact congrFun (h1 c hc) z
      · by_cases e : j = k
        · rw [e, zup_s]
        · rw [zup_n (fun q => e (hi j k (by omega) hk q.2))]
          exact h2 j (by omega)
  exact keyA 0 (Nat.zero_le _) A (fun _ _ => rfl) (fun j q => absurd q (Nat.not_lt_zero _))
/-- the model's row of an image -/
theorem s6_copies {s t : Nat} (hs : s ≤ 2) (ht : t ≤ 2) (hst : s ≠ t) (h : ∀ A' : Nat → Nat → Int32, (∀ c, c ≠ 108 → A' c = A c) → (∀ k, ¬ (159 * t ≤ k ∧ k < 159 * t + 159) → A' 108 k = A 108 k) → (∀ k, k < 159 → A' 108 (159 * t + k) = A 108 (159 * s + k)) → Φ (.inl none) (I, R, A', lo, dd) 0) : zC L xs mX6_copies [.ref 107, .int (nI s), .int (nI t)] (I, R, A, lo, dd) Φ := by
  refine zC_en (vc_X6_copies_0 ?_)
  have key : ∀ k, k ≤ 159 → ∀ A' : Nat → Nat → Int32, (∀ c, c ≠ 108 → A' c = A c) → (∀ j, ¬ (159 * t ≤ j ∧ j < 159 * t + 159) → A' 108 j = A 108 j) → (∀ j, j < k → A' 108 (159 * t + j) = A 108 (159 * s + j)) → zW L xs mX6_copies 2 [some (.ref 107), some (.int (nI s)), some (.int (nI t)), some (.int (nI k))] [] (I, R, A', lo, dd) Φ := by
    refine ze_up ?_ ?_
    · intro A' h1 h2 h3
      refine vc_X6_copies_2 ?_
      simp (disch := omega) only [ze_lit, pk_mul, nI_add, nI_clamp, ze_inI, nI_ltI, nI_eq]
      exact ⟨fun q => absurd q (by omega), fun _ => h A' h1 h2 h3⟩
    · intro k hk ih A' h1 h2 h3
      refine vc_X6_copies_2 ?_
      simp (disch := omega) only [ze_lit, pk_mul, nI_add, nI_clamp, ze_inI, nI_ltI, nI_eq]
      refine ⟨fun _ => ⟨by omega, by omega, ih _ (fun c hc => ?_) (fun j hj => ?_) (fun j hj => ?_)⟩, fun q => absurd (by omega) q⟩
      · funext z
        rw [zup_n (fun q => hc q.1)]
        exact congrFun (h1 c hc) z
      · rw [zup_n (by omega)]
        exact h2 j hj
      · by_cases e : j = k
        · rw [e, zup_s]
          exact h2 _ (by omega)
        · rw [zup_n (by omega)]
          exact h3 j (by omega)
  exact key 0 (Nat.zero_le _) A (fun _ _ => rfl) (fun _ _ => rfl) (fun j q => absurd q (Nat.not_lt_zero _))
/-- an image that lies elsewhere -/
theorem mIm_mv {s t : Nat} {v : zV} {A A' : Nat → Nat → Int32} (h : mIm s v A) (hp : vP v ≤ 4) (hn : vN v ≤ 24) (e : ∀ k, k < 159 → A' 108 (159 * t + k) = A 108 (159 * s + k)) : mIm t v A' := by
  obtain ⟨m0, m1, m2, p0, p1, p2, n0, n1, n2, n3, n4, n5⟩ := h
  refine ⟨?_, ?_, ?_, fun p hp' => ?_, fun p hp' => ?_, fun p hp' => ?_, fun n hn' => ?_, fun n hn' => ?_, fun n hn' => ?_, fun n hn' => ?_, fun n hn' => ?_, fun n hn' => ?_⟩
  · rw [e 0 (by decide)]; exact m0
  · rw [e 1 (by decide)]; exact m1
  · rw [e 2 (by decide)]; exact m2
  · rw [Nat.add_assoc, Nat.add_assoc, e _ (by omega), ← Nat.add_assoc, ← Nat.add_assoc]; exact p0 p hp'
  · rw [Nat.add_assoc, Nat.add_assoc, e _ (by omega), ← Nat.add_assoc, ← Nat.add_assoc]; exact p1 p hp'
  · rw [Nat.add_assoc, Nat.add_assoc, e _ (by omega), ← Nat.add_assoc, ← Nat.add_assoc]; exact p2 p hp'
  · rw [Nat.add_assoc, Nat.add_assoc, e _ (by omega), ← Nat.add_assoc, ← Nat.add_assoc]; exact n0 n hn'
  · rw [Nat.add_assoc, Nat.add_assoc, e _ (by omega), ← Nat.add_assoc, ← Nat.add_assoc]; exact n1 n hn'
  · rw [Nat.add_assoc, Nat.add_assoc, e _ (by omega), ← Nat.add_assoc, ← Nat.add_assoc]; exact n2 n hn'
  · rw [Nat.add_assoc, Nat.add_assoc, e _ (by omega), ← Nat.add_assoc, ← Nat.add_assoc]; exact n3 n hn'
  · rw [Nat.add_assoc, Nat.add_assoc, e _ (by omega), ← Nat.add_assoc, ← Nat.add_assoc]; exact n4 n hn'
  · rw [Nat.add_assoc, Nat.add_assoc, e _ (by omega), ← Nat.add_assoc, ← Nat.add_assoc]; exact n5 n hn'
/-- an image whose own row stays -/
theorem mIm_st {s : Nat} {v : zV} {A A' : Nat → Nat → Int32} (h : mIm s v A) (hp : vP v ≤ 4) (hn : vN v ≤ 24) (e : ∀ k, 159 * s ≤ k → k < 159 * s + 159 → A' 108 k = A 108 k) : mIm s v A' := mIm_mv h hp hn (fun k hk => e _ (by omega) (by omega))
theorem s6_newNumber (hm : m ≤ 24) (ho : ∀ k, k < m → A 112 k = nI (od k) ∧ od k < 24) {o : Option Nat} (hol : ∀ k, o = some k → k < 24) (h : Φ (.inl (some (.int (zpI (o.bind (zpl od m)))))) (I, R, A, lo, dd) 0) : zC L xs mX6_newNumber [.ref 107, .int (zpI o), .int (nI m)] (I, R, A, lo, dd) Φ := by
  refine zC_en (vc_X6_newNumber_0 ?_)
  cases o with
  | none =>
    refine ze_up (P := fun k => zW L xs mX6_newNumber 2 [some (.ref 107), some (.int (-1)), some (.int (nI m)), some (.int (nI k))] [] (I, R, A, lo, dd) Φ) (n := m) ?_ ?_ 0 (Nat.zero_le _)
    · refine vc_X6_newNumber_2 ?_
      simp (disch := omega) only [ze_lit, pk_mul, nI_add, nI_clamp, ze_inI, nI_ltI, nI_eq]
      exact ⟨fun q => absurd q (Nat.lt_irrefl _), fun _ => h⟩
    · intro k hk ih
      obtain ⟨o1, o2⟩ := ho k hk
      refine vc_X6_newNumber_2 ?_
      simp (disch := omega) only [ze_lit, pk_mul, nI_add, nI_clamp, ze_inI, nI_ltI, nI_eq, o1, ze_m1n]
      exact ⟨fun _ => ⟨by omega, fun q => q.elim, fun _ => ih⟩, fun q => absurd hk q⟩
  | some p =>
    have hp := hol p rfl
    have key : ∀ k, k ≤ m → (∀ j, j < k → od j ≠ p) → zW L xs mX6_newNumber 2 [some (.ref 107), some (.int (nI p)), some (.int (nI m)), some (.int (nI k))] [] (I, R, A, lo, dd) Φ := by
      refine ze_up ?_ ?_
      · intro hn
        refine vc_X6_newNumber_2 ?_
        simp (disch := omega) only [ze_lit, pk_mul, nI_add, nI_clamp, ze_inI, nI_ltI, nI_eq]
        refine ⟨fun q => absurd q (Nat.lt_irrefl _), fun _ => ?_⟩
        have : (some p).bind (zpl od m) = none := zpl_no hn
        rw [this] at h
        exact h
      · intro k hk ih hn
        obtain ⟨o1, o2⟩ := ho k hk
        refine vc_X6_newNumber_2 ?_
        simp (disch := omega) only [ze_lit, pk_mul, nI_add, nI_clamp, ze_inI, nI_ltI, nI_eq, o1]
        refine ⟨fun _ => ⟨by omega, fun q => ?_, fun q => ih (lt_s hn q)⟩, fun q => absurd hk q⟩
        have hz : zwh (fun j => decide (¬ od j = p)) 0 m = k := by
          have h1 : zwh (fun j => decide (¬ od j = p)) 0 m ≤ k := by
            refine Nat.le_of_not_lt (fun z => ?_)
            have := zwh_t (f := fun j => decide (¬ od j = p)) 0 m k z
            simp at this
            exact this q
          refine Nat.le_antisymm h1 (Nat.le_of_not_lt (fun z => ?_))
          have := zwh_f (f := fun j => decide (¬ od j = p)) 0 m (by omega)
          rw [Nat.zero_add] at this
          exact hn _ z (by simpa using this)
        have : (some p).bind (zpl od m) = some k := by
          show zpl od m p = _
          unfold zpl
          rw [hz, if_pos hk]
        rw [this] at h
        exact h
    exact key 0 (Nat.zero_le _) (fun j q => absurd q (Nat.not_lt_zero _))
theorem s6_renumbers (hi : i ≤ 1) (hv : mIm i v A) (hP : vP v ≤ 4) (hN : vN v ≤ 24) (hh : ∀ n, n < vN v → vhom v n < 4) (hpr : ∀ n k, n < vN v → vpar v n = some k → k < 24) (hm : m ≤ 24) (ho : ∀ k, k < m → A 112 k = nI (od k) ∧ od k < vN v) (h : ∀ A' : Nat → Nat → Int32, (∀ c, c ≠ 108 → A' c = A c) → (∀ k, ¬ (159 * i ≤ k ∧ k < 159 * i + 159) → k < 318 → A' 108 k = A 108 k) → mIm i (zrn v od m) A' → Φ (.inl none) (I, R, A', lo, dd) 0) : zC L xs mX6_renumbers [.ref 107, .int (nI i), .int (nI m)] (I, R, A, lo, dd) Φ := by
  refine zC_en (vc_X6_renumbers_0 ?_)
  refine s6_copies (s := i) (t := 2) (by omega) (by decide) (by omega) (fun A0 f0 g0 e0 => zk_r (vc_X6_renumbers_6 ?_))
  have hv2 : mIm 2 v A0 := mIm_mv hv hP hN e0
  have hv1 : mIm i v A0 := mIm_st hv hP hN (fun k h1 h2 => g0 k (by omega))
  have ho0 : ∀ k, k < m → A0 112 k = nI (od k) ∧ od k < vN v := fun k hk => by rw [f0 112 (by decide)]; exact ho k hk
  -- what has been renumbered
  have key : ∀ k, k ≤ m → ∀ zx, ∀ A' : Nat → Nat → Int32, (∀ c, c ≠ 108 → A' c = A0 c) → (∀ j, ¬ (159 * i + 15 ≤ j ∧ j < 159 * i + 159) → A' 108 j = A0 108 j) → (∀ j, j < k → A' 108 (159 * i + 15 + 6 * j + 0) = vnd v 0 (od j) ∧ A' 108 (159 * i + 15 + 6 * j + 1) = vnd v 1 (od j) ∧ A' 108 (159 * i + 15 + 6 * j + 2) = vnd v 2 (od j) ∧ A' 108 (159 * i + 15 + 6 * j + 3) = vnd v 3 (od j) ∧ A' 108 (159 * i + 15 + 6 * j + 4) = zpI ((vpar v (od j)).bind (zpl od m)) ∧ A' 108 (159 * i + 15 + 6 * j + 5) = nI (vhom v (od j))) → zW L xs mX6_renumbers 8 [some (.ref 107), some (.int (nI i)), some (.int (nI m)), some (.int (nI k)), zx] [] (I, R, A', lo, dd) Φ := by
    refine ze_up ?_ ?_
    · intro zx A' h1 h2 h3
      refine vc_X6_renumbers_8 ?_
      simp (disch := omega) only [ze_lit, pk_mul, nI_add, nI_clamp, ze_inI, nI_ltI, nI_eq]
      refine ⟨fun q => absurd q (Nat.lt_irrefl _), fun _ => ⟨by omega, h _ (fun c hc => ?_) (fun k hk hk2 => ?_) ?_⟩⟩
      · funext z
        rw [zup_n (fun q => hc q.1)]
        exact congrFun ((h1 c hc).trans (f0 c hc)) z
      · rw [zup_n (by omega), h2 k (by omega)]
        exact g0 k (by omega)
      · obtain ⟨m0, m1, m2, p0, p1, p2, n0, n1, n2, n3, n4, n5⟩ := hv1
        refine ⟨?_, ?_, zup_s, fun p hp' => ?_, fun p hp' => ?_, fun p hp' => ?_, fun n hn' => ?_, fun n hn' => ?_, fun n hn' => ?_, fun n hn' => ?_, fun n hn' => ?_, fun n hn' => ?_⟩
        · rw [zup_n (by omega), h2 _ (by omega)]; exact m0
        · rw [zup_n (by omega), h2 _ (by omega)]; exact m1
        · have hp2 : p < vP v := hp'
          rw [zup_n (by omega), h2 _ (by omega)]; exact p0 p hp'
        · have hp2 : p < vP v := hp'
          rw [zup_n (by omega), h2 _ (by omega)]; exact p1 p hp'
        · have hp2 : p < vP v := hp'
          rw [zup_n (by omega), h2 _ (by omega)]; exact p2 p hp'
        · rw [zup_n (by omega)]; exact (h3 n hn').1
        · rw [zup_n (by omega)]; exact (h3 n hn').2.1
        · rw [zup_n (by omega)]; exact (h3 n hn').2.2.1
        · rw [zup_n (by omega)]; exact (h3 n hn').2.2.2.1
        · rw [zup_n (by omega)]; exact (h3 n hn').2.2.2.2.1
        · rw [zup_n (by omega)]; exact (h3 n hn').2.2.2.2.2
    · intro k hk ih zx A' h1 h2 h3
      obtain ⟨o1, o2⟩ := ho0 k hk
      refine vc_X6_renumbers_8 ?_
      simp (disch := omega) only [ze_lit, pk_mul, nI_add, nI_clamp, ze_inI, nI_ltI, nI_eq]
      refine ⟨fun _ => ?_, fun q => absurd hk q⟩
      have key2 : ∀ w, w ≤ 6 → ∀ B : Nat → Nat → Int32, (∀ c, c ≠ 108 → B c = A0 c) → (∀ j, ¬ (159 * i + 15 ≤ j ∧ j < 159 * i + 159) → B 108 j = A0 108 j) → (∀ j, j < 159 * i + 15 + 6 * k → B 108 j = A' 108 j) → (∀ x, x < w → B 108 (159 * i + 15 + 6 * k + x) = A0 108 (159 * 2 + 15 + 6 * od k + x)) → zW L xs mX6_renumbers 16 [some (.ref 107), some (.int (nI i)), some (.int (nI m)), some (.int (nI k)), some (.int (nI w))] [] (I, R, B, lo, dd) Φ := by
        refine ze_up ?_ ?_
        · intro B b1 b2 b3 b4
          have oB : B 112 k = nI (od k) := by rw [b1 112 (by decide)]; exact o1
          have hv2B : mIm 2 v B := mIm_st hv2 hP hN (fun k h1 h2 => b2 k (by omega))
          have hv2B' := hv2B
          obtain ⟨m0, m1, m2, p0, p1, p2, n0, n1, n2, n3, n4, n5⟩ := hv2B'
          obtain ⟨m0', m1', m2', p0', p1', p2', n0', n1', n2', n3', n4', n5'⟩ := hv2
          refine vc_X6_renumbers_16 ?_
          simp (disch := omega) only [ze_lit, pk_mul, nI_add, nI_clamp, ze_inI, nI_ltI, nI_eq, oB, n4]
          refine ⟨fun q => absurd q (by omega), fun _ => ⟨by omega, by omega, s6_newNumber hm (fun k hk => by rw [b1 112 (by decide)]; exact ⟨(ho0 k hk).1, by have := (ho0 k hk).2; omega⟩) (fun p hp => hpr _ p o2 hp) (zk_r (vc_X6_renumbers_81 ?_))⟩⟩
          simp (disch := omega) only [ze_lit, pk_mul, nI_add, nI_clamp, ze_inI, nI_ltI, nI_eq]
          refine ⟨by omega, ih _ _ (fun c hc => ?_) (fun j hj => ?_) (fun j hj => ?_)⟩
          · funext z
            rw [zup_n (fun q => hc q.1)]
            exact congrFun (b1 c hc) z
          · rw [zup_n (by omega)]
            exact b2 j hj
          · by_cases e : j = k
            · subst e
              refine ⟨?_, ?_, ?_, ?_, zup_s, ?_⟩
              · rw [zup_n (by omega), b4 0 (by decide)]; exact n0' _ o2
              · rw [zup_n (by omega), b4 1 (by decide)]; exact n1' _ o2
              · rw [zup_n (by omega), b4 2 (by decide)]; exact n2' _ o2
              · rw [zup_n (by omega), b4 3 (by decide)]; exact n3' _ o2
              · rw [zup_n (by omega), b4 5 (by decide)]; exact n5' _ o2
            · have := h3 j (by omega)
              rw [zup_n (by omega), zup_n (by omega), zup_n (by omega), zup_n (by omega), zup_n (by omega), zup_n (by omega), b3 _ (by omega), b3 _ (by omega), b3 _ (by omega), b3 _ (by omega), b3 _ (by omega), b3 _ (by omega)]
              exact this
        · intro w hw ih2 B b1 b2 b3 b4
          have oB : B 112 k = nI (od k) := by rw [b1 112 (by decide)]; exact o1
          refine vc_X6_renumbers_16 ?_
          simp (disch := omega) only [ze_lit, pk_mul, nI_add, nI_clamp, ze_inI, nI_ltI, nI_eq, oB]
          refine ⟨fun _ => ⟨by omega, by omega, by omega, ih2 _ (fun c hc => ?_) (fun j hj => ?_) (fun j hj => ?_) (fun x hx => ?_)⟩, fun q => absurd (by omega) q⟩
          · funext z
            rw [zup_n (fun q => hc q.1)]
            exact congrFun (b1 c hc) z
          · rw [zup_n (by omega)]
            exact b2 j hj
          · rw [zup_n (by omega)]
            exact b3 j hj
          · by_cases e : x = w
            · rw [e, zup_s, b2 _ (by omega)]
            · rw [zup_n (by omega)]
              exact b4 x (by omega)
      exact key2 0 (Nat.zero_le _) A' h1 h2 (fun _ _ => rfl) (fun x q => absurd q (Nat.not_lt_zero _))
  exact key 0 (Nat.zero_le _) none A0 (fun _ _ => rfl) (fun _ _ => rfl) (fun j q => absurd q (Nat.not_lt_zero _))
end
