/-! the class's best pairing: a free column; along the way back -/
theorem zHm_fr {s : Nat} {x : Nat → Nat → Int} {U V : Nat → Int} {K : zM} {A A' : Nat → Nat → Int32} (hs : s ≤ 24) (h : zHm s x U V K A) (g : ∀ c, c ≠ 104 → c ≠ 105 → c ≠ 106 → A' c = A c) : zHm s x U V K A' := ⟨fun i j i1 i2 j1 j2 => by rw [g _ (by omega) (by omega) (by omega)]; exact h.1 i j i1 i2 j1 j2, fun i i1 i2 => by rw [g _ (by decide) (by decide) (by decide)]; exact h.2.1 i i1 i2, fun j j1 j2 => by rw [g _ (by decide) (by decide) (by decide)]; exact h.2.2.1 j j1 j2, fun j j1 => by rw [g _ (by decide) (by decide) (by decide)]; exact h.2.2.2 j j1⟩
section
variable {L : Nat} {xs : Nat → Int32} {I : Nat → Nat → Int32} {R : Nat → Nat → Option Nat} {A : Nat → Nat → Int32} {lo : Int64} {dd : UInt64} {Φ : zPo} {s i0 : Nat} {x : Nat → Nat → Int} {U V : Nat → Int} {K : zM}
theorem s0_freeColumnFor (hs : s ≤ 24) (hI : I 72 4 = nI s) (hK : zHr s i0 K) (hH : zHs s 0 x K U V) (hm1 : ∀ i j, 1 ≤ i → i ≤ s → 1 ≤ j → j ≤ s → A (75 + (1 + i)) j = iI (x i j)) (hm2 : ∀ i, 1 ≤ i → i ≤ s → A 101 i = iI (U i)) (hm3 : ∀ j, 1 ≤ j → j ≤ s → A 102 j = iI (V j)) (hm4 : ∀ j, 1 ≤ j → j ≤ s → A 103 j = nI ((K.2 j).getD 0)) (h : ∀ (A' : Nat → Nat → Int32) (U' V' : Nat → Int) (Q : Nat → Bool) (sl : Nat → Int) (cf : Nat → Nat) (t j0 : Nat), (∀ c, ¬ (101 ≤ c ∧ c ≤ 106) → A' c = A c) → zHm s x U' V' K A' → zHi s t j0 x K U' V' Q sl cf → 0 < t → K.2 j0 = none → (∀ j, 1 ≤ j → j ≤ s → A' 104 j = nI (cf j)) → Φ (.inl (some (.int (nI j0)))) (I, R, A', lo, dd) 0) : zC L xs mX0_freeColumnFor [.ref 72, .int (nI i0)] (I, R, A, lo, dd) Φ := by
  have hK0 := (hK.1.1 i0 0 hK.2.2.1).2.2
  have hk10 : K.1 0 = none := by
    cases e : K.1 0 with
    | none => rfl
    | some c => have := (hK.2.1 0).mp (by rw [e]; exact fun z => by cases z); omega
  have hi24 := hK.2.2.2
  -- the loop
  have loop : ∀ n t, t + n = s + 1 → ∀ (A' : Nat → Nat → Int32) (U V : Nat → Int) (Q : Nat → Bool) (sl : Nat → Int) (cf : Nat → Nat) (j0 : Nat) (zx : Option Value), (∀ c, ¬ (101 ≤ c ∧ c ≤ 106) → A' c = A c) → zHm s x U V K A' → zHi s t j0 x K U V Q sl cf → (∀ j, j ≤ s → A' 106 j = nI (if Q j then 1 else 0)) → (∀ j, 1 ≤ j → j ≤ s → Q j = false → A' 105 j = iI (sl j)) → (∀ j, 1 ≤ j → j ≤ s → A' 104 j = nI (cf j)) → zW L xs mX0_freeColumnFor 49 [some (.ref 72), some (.int (nI i0)), some (.int (nI j0)), some (.int (nI t)), zx] [] (I, R, A', lo, dd) Φ := by
    intro n
    induction n with
    | zero =>
      intro t e A' U V Q sl cf j0 zx _ _ hi
      have := zHi_t hK hi
      omega
    | succ n ih =>
      intro t e A' U V Q sl cf j0 zx fr hm hi m6 m5 m4
      have ht := zHi_t hK hi
      have hj0 := hi.2.1.1
      refine vc_X0_freeColumnFor_49 ⟨fun z => absurd z (by rw [hI]; exact nI_nlt (by omega) (by omega)), fun _ => ⟨nI_in (by omega) (by omega), ?_⟩⟩
      rw [nI_clamp (by omega), hm.2.2.2 j0 hj0]
      cases er : K.2 j0 with
      | none =>
        refine ⟨fun _ => h A' U V Q sl cf t j0 fr hm hi ?_ er m4, fun z => absurd rfl z⟩
        refine Nat.pos_of_ne_zero (fun z => ?_)
        rw [(hi.2.2.2.2.2.1 z).1, hK0] at er
        cases er
      | some r =>
        obtain ⟨r1, r2, r3⟩ := hK.1.2 r j0 er
        have hr := (hK.2.1 r).mp (by rw [r3]; exact fun z => by cases z)
        refine ⟨fun z => absurd ((nI_eq (b := 0) (by show r < _; omega) (by decide)).mp z) (by show r ≠ 0; omega), fun _ => ⟨nI_in (by omega) (by omega), ?_⟩⟩
        have hQ1n : ∀ j, j ≠ j0 → (fun k => decide (k = j0) || Q k) j = Q j := fun j hj => by
          show (decide (j = j0) || Q j) = Q j
          rw [decide_eq_false hj, Bool.false_or]
        have hQ1s : (fun k => decide (k = j0) || Q k) j0 = true := by
          show (decide (j0 = j0) || Q j0) = true
          rw [decide_eq_true rfl, Bool.true_or]
        generalize (fun k => decide (k = j0) || Q k) = Q1 at hQ1n hQ1s
        have hdn : ∀ j, Q1 j = false → Q j = false := fun j hj => by
          have e : j ≠ j0 := fun z => by rw [z, hQ1s] at hj; cases hj
          rw [← hQ1n j e]
          exact hj
        have hm' : zHm s x U V K (z_up A' 106 j0 1) := zHm_fr hs hm (fun c _ _ c3 => by funext k; rw [zup_n (fun z => c3 z.1)])
        obtain ⟨jf, jf1, jf2, jf3⟩ := zHr_fr hK
        have hjf : Q1 jf = false := by
          have e : jf ≠ j0 := fun z => by rw [z, er] at jf3; cases jf3
          rw [hQ1n jf e]
          cases y : Q jf with
          | false => rfl
          | true => exact absurd jf3 (hi.2.2.1 jf y)
        have m6' : ∀ j, j ≤ s → z_up A' 106 j0 1 106 j = nI (if Q1 j then 1 else 0) := fun j hj => by
          by_cases y : j = j0
          · rw [y, zup_s, hQ1s]; rfl
          · rw [zup_n (by omega), m6 j hj, hQ1n j y]
        refine s0_nearestFrom (sl := sl) hs hI hm' hi.1.1 hj0 er ⟨hr.1, by omega⟩ m6' (fun j j1 j2 hj => ?_) (fun j j1 j2 => by rw [zup_n (by omega)]; exact m4 j j1 j2) ⟨jf, jf1, jf2, hjf⟩ (fun A2 b f2 g4 g5 b1 b2 b3 b4 => zk_r (vc_X0_freeColumnFor_78 ⟨nI_in (by omega) (by omega), ?_⟩))
        · exact ⟨by rw [zup_n (by omega)]; exact m5 j j1 j2 (hdn j hj), hi.2.2.2.2.1 j j1 j2 (hdn j hj)⟩
        · have hst := zHi_step hK hi er hQ1s hQ1n b1 b2 b3 b4 rfl (fun _ => rfl)
          rw [nI_clamp (by omega), g5 b b1 b2 b3]
          refine s0_raisePrices (sl := fun j => zmi (sl j) (zcur x U V r j)) hs hI (zHm_fr hs hm' (fun c c1 c2 _ => f2 c c1 c2)) hK.1 hk10 (fun j hj => by rw [f2 106 (by decide) (by decide)]; exact m6' j hj) (fun j _ hj => hst.2.2.1 j hj) (fun j j1 j2 hj => g5 j j1 j2 hj) (fun A3 f3 m3 g3 => zk_r (vc_X0_freeColumnFor_91 ?_))
          rw [nI_1]
          refine ih (t + 1) (by omega) A3 _ _ Q1 _ _ b _ (fun c hc => ?_) m3 hst (fun j hj => ?_) (fun j j1 j2 hj => g3 j j1 j2 hj) (fun j j1 j2 => ?_)
          · rw [f3 c (by omega) (by omega) (by omega), f2 c (by omega) (by omega), ← fr c hc]
            funext k
            rw [zup_n (by omega)]
          · rw [f3 106 (by decide) (by decide) (by decide), f2 106 (by decide) (by decide)]
            exact m6' j hj
          · rw [f3 104 (by decide) (by decide) (by decide)]
            exact g4 j j1 j2
  -- first
  have init : ∀ j, j ≤ s + 1 → ∀ A' : Nat → Nat → Int32, (∀ c, ¬ (104 ≤ c ∧ c ≤ 106) → A' c = A c) → (∀ k, k < j → A' 104 k = 0 ∧ A' 105 k = iI 1000000 ∧ A' 106 k = 0) → zW L xs mX0_freeColumnFor 2 [some (.ref 72), some (.int (nI i0)), some (.int (nI j)), none, none] [] (I, R, A', lo, dd) Φ := by
    refine ze_up ?_ ?_
    · intro A' fr g
      refine vc_X0_freeColumnFor_2 ⟨fun _ => ?_, fun z => absurd (by rw [hI]; exact nI_lt (by omega) (by omega)) z⟩
      have frc : ∀ c, ¬ (101 ≤ c ∧ c ≤ 106) → z_up A' 103 0 (nI i0) c = A c := fun c hc => by
        rw [← fr c (by omega)]
        funext k
        rw [zup_n (by omega)]
      refine loop (s + 1) 0 (by omega) _ U V (fun _ => false) (fun _ => 1000000) (fun _ => 0) 0 none frc ⟨fun i j i1 i2 j1 j2 => by rw [frc _ (by omega)]; exact hm1 i j i1 i2 j1 j2, fun i i1 i2 => by rw [zup_n (by omega), fr _ (by decide)]; exact hm2 i i1 i2, fun j j1 j2 => by rw [zup_n (by omega), fr _ (by decide)]; exact hm3 j j1 j2, fun j j1 => ?_⟩ ⟨hH, ⟨Nat.zero_le _, rfl⟩, fun j hj => (by cases hj), ?_, fun _ _ _ _ => show (-10000 : Int) ≤ 1000000 ∧ (1000000 : Int) ≤ 1000000 by decide, fun _ => ⟨rfl, fun _ => rfl, fun _ => rfl⟩, fun z => absurd z (Nat.lt_irrefl _)⟩ (fun j hj => ?_) (fun j j1 j2 _ => ?_) (fun j j1 j2 => ?_)
      · by_cases y : j = 0
        · rw [y, zup_s, hK0]; rfl
        · rw [zup_n (by omega), fr _ (by decide)]
          exact hm4 j (by omega) j1
      · exact zcnt_0.mpr (fun _ _ => rfl)
      · rw [zup_n (by omega)]; exact (g j (by omega)).2.2
      · rw [zup_n (by omega)]; exact (g j (by omega)).2.1
      · rw [zup_n (by omega)]; exact (g j (by omega)).1
    · intro j hj ih A' fr g
      refine vc_X0_freeColumnFor_2 ⟨fun z => absurd z (by rw [hI]; exact nI_nlt (by omega) (by omega)), fun _ => ⟨nI_in (by omega) (by omega), nI_in (by omega) (by omega), nI_in (by omega) (by omega), ?_⟩⟩
      rw [nI_clamp (by omega), nI_1]
      refine ih _ (fun c hc => by rw [← fr c hc]; funext k; rw [zup_n (by omega), zup_n (by omega), zup_n (by omega)]) (fun k hk => ?_)
      by_cases y : k = j
      · rw [y]
        exact ⟨zup_s, by rw [zup_n (by omega), zup_n (by omega), zup_s]; rfl, by rw [zup_n (by omega), zup_s]⟩
      · obtain ⟨g1, g2, g3⟩ := g k (by omega)
        exact ⟨by rw [zup_n (by omega), zup_n (by omega), zup_n (by omega)]; exact g1, by rw [zup_n (by omega), zup_n (by omega), zup_n (by omega)]; exact g2, by rw [zup_n (by omega), zup_n (by omega), zup_n (by omega)]; exact g3⟩
  exact zC_en (vc_X0_freeColumnFor_0 (init 0 (Nat.zero_le _) A (fun _ _ => rfl) (fun k hk => absurd hk (Nat.not_lt_zero _))))
/-- the rows up to i0 are paired -/
def zHq (s i0 : Nat) (x : Nat → Nat → Int) (K : zM) (U V : Nat → Int) : Prop := zmo (s + 1) (s + 1) K ∧ (∀ i, K.1 i ≠ none ↔ (1 ≤ i ∧ i ≤ i0)) ∧ K.2 0 = none ∧ zHb s x U V ∧ (∀ j r, K.2 j = some r → zcur x U V r j = 0) ∧ (∀ j, 1 ≤ j → j ≤ s → K.2 j = none → V j = 0) ∧ (∀ i, 1 ≤ i → i ≤ i0 → ∀ j, 1 ≤ j → j ≤ s → 0 ≤ zcur x U V i j)
theorem s0_assignAlong {Q : Nat → Bool} {sl : Nat → Int} {cf : Nat → Nat} {t j0 : Nat} (hs : s ≤ 24) (hI : I 72 4 = nI s) (hK : zHr s i0 K) (hi : zHi s t j0 x K U V Q sl cf) (ht : 0 < t) (hj : K.2 j0 = none) (m3 : ∀ j, j ≤ s → A 103 j = nI ((K.2 j).getD 0)) (m4 : ∀ j, 1 ≤ j → j ≤ s → A 104 j = nI (cf j)) (h : ∀ (A' : Nat → Nat → Int32) (K' : zM), (∀ c, c ≠ 103 → A' c = A c) → zHq s i0 x K' U V → (∀ j, 1 ≤ j → j ≤ s → A' 103 j = nI ((K'.2 j).getD 0)) → Φ (.inl none) (I, R, A', lo, dd) 0) : zC L xs mX0_assignAlong [.ref 72, .int (nI j0)] (I, R, A, lo, dd) Φ := by
  have hts := zHi_t hK hi
  obtain ⟨⟨hb, hti, hfr, hfe⟩, ⟨hj0, hq0⟩, hqk, hcnt, hslb, ht0, ht1⟩ := hi
  obtain ⟨a1, a2, a3, a4, a5, a6, a7⟩ := ht1 ht
  -- a step back
  have back : ∀ y, 1 ≤ y → y ≤ s → (y = j0 ∨ Q y = true) → cf y ≤ s ∧ Q (cf y) = true ∧ ∃ r, K.2 (cf y) = some r ∧ zcur x U V r y = 0 := by
    intro y y1 y2 hy
    rcases hy with rfl | hy
    · obtain ⟨b1, r, b2, b3⟩ := a5 y y1 y2 hq0
      exact ⟨by have := (hK.1.2 r _ b2).2.1; omega, b1, r, b2, by rw [← b3]; exact a3⟩
    · obtain ⟨b1, r, b2, b3⟩ := a6 y y1 y2 hy
      exact ⟨by have := (hK.1.2 r _ b2).2.1; omega, b1, r, b2, b3⟩
  have loop : ∀ k y n (A' : Nat → Nat → Int32) (Kc : zM) (zx : Option Value), zch (zff cf) k y → n + k ≤ s → y ≤ s → (y = j0 ∨ Q y = true) → (∀ c, c ≠ 103 → A' c = A c) → zmo (s + 1) (s + 1) Kc → (∀ i, Kc.1 i ≠ none ↔ K.1 i ≠ none) → Kc.2 y = none → (∀ j, j ≤ s → j ≠ y → A' 103 j = nI ((Kc.2 j).getD 0)) → (∀ j r, 1 ≤ j → Kc.2 j = some r → zcur x U V r j = 0) → (∀ j, 1 ≤ j → j ≤ s → j ≠ y → Kc.2 j = none → V j = 0) → (∀ l z, zch (zff cf) l z → l < k → Kc.2 z = K.2 z) → zW L xs mX0_assignAlong 4 [some (.ref 72), some (.int (nI j0)), some (.int (nI y)), some (.int (nI n)), zx] [] (I, R, A', lo, dd) Φ := by
    intro k
    induction k with
    | zero =>
      intro y n A' Kc zx hc hn hy hyq fr hmo hro hy0 hm3 hti2 hfr2 hun
      have y0 : y = 0 := Classical.byContradiction (fun z => by
        unfold zch zff at hc
        rw [if_neg z] at hc
        cases hc)
      subst y0
      refine vc_X0_assignAlong_4 ⟨fun z => absurd z (by rw [hI]; exact nI_nlt (by omega) (by omega)), fun _ => ⟨fun _ => ?_, fun z => absurd rfl z⟩⟩
      refine h A' Kc fr ⟨hmo, fun i => (hro i).trans (hK.2.1 i), hy0, hb, fun j r e => ?_, fun j j1 j2 e => hfr2 j j1 j2 (by omega) e, fun i i1 i2 j j1 j2 => ?_⟩ (fun j j1 j2 => hm3 j j2 (by omega))
      · refine hti2 j r (Nat.pos_of_ne_zero (fun z => ?_)) e
        rw [z, hy0] at e
        cases e
      · cases e : K.1 i with
        | none => exact absurd e ((hK.2.1 i).mpr ⟨i1, i2⟩)
        | some c => exact hfe i c e (Or.inr ht) j j1 j2
    | succ k ih =>
      intro y n A' Kc zx hc hn hy hyq fr hmo hro hy0 hm3 hti2 hfr2 hun
      obtain ⟨y', e, hc'⟩ := hc
      have y1 : 1 ≤ y := Nat.pos_of_ne_zero (fun z => by
        unfold zff at e
        rw [if_pos z] at e
        cases e)
      have ey : y' = cf y := by
        unfold zff at e
        rw [if_neg (by omega)] at e
        cases e
        rfl
      subst ey
      obtain ⟨b0, b1, r, b2, b3⟩ := back y y1 hy hyq
      have hKc : Kc.2 (cf y) = some r := by rw [hun k _ hc' (by omega)]; exact b2
      have hne : cf y ≠ y := fun z => by rw [z, hy0] at hKc; cases hKc
      have hr := (hmo.2 r _ hKc).2.2
      have hrs := (hmo.2 r _ hKc).1
      refine vc_X0_assignAlong_4 ⟨fun z => absurd z (by rw [hI]; exact nI_nlt (by omega) (by omega)), fun _ => ⟨fun z => absurd ((nI_eq (b := 0) (by omega) (by decide)).mp z) (by omega), fun _ => ?_⟩⟩
      have e4 : A' 104 y = nI (cf y) := by rw [fr 104 (by decide)]; exact m4 y y1 hy
      rw [nI_clamp (by omega), e4, nI_clamp (by omega), hm3 _ b0 hne, hKc, nI_1]
      refine ⟨nI_in (by omega) (by omega), nI_in (by omega) (by omega), nI_in (by omega) (by omega), ?_⟩
      refine ih (cf y) (n + 1) _ (zse Kc.1 r (some y), zse (zse Kc.2 y (some r)) (cf y) none) _ hc' (by omega) b0 (Or.inr b1) (fun c hcc => by rw [← fr c hcc]; funext k; rw [zup_n (fun z => hcc z.1)]) ⟨fun i j e => ?_, fun i j e => ?_⟩ (fun i => ?_) zse_s (fun j j1 j2 => ?_) (fun j r' j1 e => ?_) (fun j j1 j2 j3 e => ?_) (fun l z hl hlk => ?_)
      · replace e : zse Kc.1 r (some y) i = some j := e
        by_cases q : i = r
        · rw [q, zse_s] at e
          cases e
          exact ⟨by omega, by omega, by show zse (zse Kc.2 y (some r)) (cf y) none y = _; rw [zse_n (fun z => hne z.symm), zse_s, q]⟩
        · rw [zse_n q] at e
          obtain ⟨f1, f2, f3⟩ := hmo.1 i j e
          refine ⟨f1, f2, ?_⟩
          show zse (zse Kc.2 y (some r)) (cf y) none j = _
          rw [zse_n (fun z => by rw [z, hKc] at f3; cases f3; exact q rfl), zse_n (fun z => by rw [z, hy0] at f3; cases f3)]
          exact f3
      · replace e : zse (zse Kc.2 y (some r)) (cf y) none j = some i := e
        by_cases q1 : j = cf y
        · rw [q1, zse_s] at e; cases e
        · rw [zse_n q1] at e
          by_cases q2 : j = y
          · rw [q2, zse_s] at e
            cases e
            exact ⟨by omega, by omega, by rw [q2]; exact zse_s⟩
          · rw [zse_n q2] at e
            obtain ⟨f1, f2, f3⟩ := hmo.2 i j e
            refine ⟨f1, f2, ?_⟩
            show zse Kc.1 r (some y) i = _
            rw [zse_n (fun z => by rw [z, hr] at f3; cases f3; exact q1 rfl)]
            exact f3
      · show zse Kc.1 r (some y) i ≠ none ↔ _
        by_cases q : i = r
        · rw [q, zse_s]
          exact ⟨fun _ => (hro r).mp (by rw [hr]; exact fun z => by cases z), fun _ z => by cases z⟩
        · rw [zse_n q]
          exact hro i
      · show _ = nI ((zse (zse Kc.2 y (some r)) (cf y) none j).getD 0)
        rw [zse_n j2]
        by_cases q : j = y
        · rw [q, zse_s]; exact zup_s
        · rw [zse_n q, zup_n (by omega)]
          exact hm3 j j1 q
      · replace e : zse (zse Kc.2 y (some r)) (cf y) none j = some r' := e
        by_cases q1 : j = cf y
        · rw [q1, zse_s] at e; cases e
        · rw [zse_n q1] at e
          by_cases q2 : j = y
          · rw [q2, zse_s] at e
            cases e
            rw [q2]
            exact b3
          · rw [zse_n q2] at e
            exact hti2 j r' j1 e
      · replace e : zse (zse Kc.2 y (some r)) (cf y) none j = none := e
        rw [zse_n j3] at e
        by_cases q2 : j = y
        · rw [q2, zse_s] at e; cases e
        · rw [zse_n q2] at e
          exact hfr2 j j1 j2 q2 e
      · show zse (zse Kc.2 y (some r)) (cf y) none z = _
        have z1 : z ≠ cf y := fun w => by
          rw [w] at hl
          have := zch_un _ _ _ hl hc'
          omega
        have z2 : z ≠ y := fun w => by
          rw [w] at hl
          have := zch_un _ _ _ hl (show zch (zff cf) (k + 1) y from ⟨cf y, e, hc'⟩)
          omega
        rw [zse_n z1, zse_n z2]
        exact hun l z hl (by omega)
  obtain ⟨b0, b1, r, b2, b3⟩ := back j0 a2 hj0 (Or.inl rfl)
  obtain ⟨k, k1, k2⟩ := a7 _ b1
  refine zC_en (vc_X0_assignAlong_0 (loop (k + 1) j0 0 A K none ⟨cf j0, ?_, k2⟩ (by omega) hj0 (Or.inl rfl) (fun _ _ => rfl) hK.1 (fun _ => Iff.rfl) hj (fun j j1 _ => m3 j j1) hti (fun j j1 j2 _ e => hfr j j1 j2 e) (fun _ _ _ _ => rfl)))
  unfold zff
  rw [if_neg (by omega)]
end
