/-! the class's best pairing: one row more finds its column -/
theorem zch_cl {f f' : Nat → Option Nat} {P : Nat → Prop} (h1 : ∀ x, P x → f' x = f x) (h2 : ∀ x y, f x = some y → P x → P y) : ∀ k x, P x → zch f k x → zch f' k x := by
  intro k
  induction k with
  | zero => intro x hx h; exact (h1 x hx).trans h
  | succ k ih =>
    intro x hx h
    obtain ⟨y, e, h⟩ := h
    exact ⟨y, (h1 x hx).trans e, ih y (h2 x y e hx) h⟩
theorem zcnt_all {p : Nat → Bool} {n : Nat} (h : ∀ i, i < n → p i = true) : zcnt p n = n := by
  induction n with
  | zero => rfl
  | succ n ih =>
    show zcnt p n + (if p n = true then 1 else 0) = n + 1
    rw [ih (fun i hi => h i (by omega)), if_pos (h n (by omega))]
def zff (cf : Nat → Nat) (j : Nat) : Option Nat := if j = 0 then none else some (cf j)
/-- the rows up to i0 have columns, i0's is 0 -/
def zHr (s i0 : Nat) (K : zM) : Prop := zmo (s + 1) (s + 1) K ∧ (∀ i, K.1 i ≠ none ↔ (1 ≤ i ∧ i ≤ i0)) ∧ K.1 i0 = some 0 ∧ 1 ≤ i0 ∧ i0 ≤ s
theorem zHr_cnt {s i0 : Nat} {K : zM} (h : zHr s i0 K) : zcnt (fun j => (K.2 j).isSome) (s + 1) = i0 := by
  rw [← zcnt_mo h.1, zcnt_cong (q := fun k => decide (1 ≤ k) && decide (k ≤ i0)) (fun i _ => ?_), zcnt_lo]
  · have := h.2.2.2
    omega
  · have := h.2.1 i
    cases e : K.1 i with
    | none =>
      rw [e] at this
      have h2 : ¬ (1 ≤ i ∧ i ≤ i0) := fun z => this.mpr z rfl
      show false = _
      rw [← Bool.decide_and, decide_eq_false h2]
    | some c =>
      rw [e] at this
      have h2 := this.mp (fun z => by cases z)
      show true = _
      rw [← Bool.decide_and, decide_eq_true h2]
theorem zHr_fr {s i0 : Nat} {K : zM} (h : zHr s i0 K) : ∃ j, 1 ≤ j ∧ j ≤ s ∧ K.2 j = none := by
  refine Classical.byContradiction (fun z => ?_)
  have h1 := zHr_cnt h
  have h2 : zcnt (fun j => (K.2 j).isSome) (s + 1) = s + 1 := zcnt_all (fun j hj => by
    cases e : K.2 j with
    | some r => rfl
    | none =>
      by_cases y : j = 0
      · have := (h.1.1 i0 0 h.2.2.1).2.2
        rw [y, this] at e
        cases e
      · exact absurd ⟨j, by omega, by omega, e⟩ z)
  have := h.2.2.2
  omega
def zHs (s t : Nat) (x : Nat → Nat → Int) (K : zM) (U V : Nat → Int) : Prop := zHb s x U V ∧ (∀ j r, 1 ≤ j → K.2 j = some r → zcur x U V r j = 0) ∧ (∀ j, 1 ≤ j → j ≤ s → K.2 j = none → V j = 0) ∧ (∀ i c, K.1 i = some c → (1 ≤ c ∨ 0 < t) → ∀ j, 1 ≤ j → j ≤ s → 0 ≤ zcur x U V i j)
def zHi (s t j0 : Nat) (x : Nat → Nat → Int) (K : zM) (U V : Nat → Int) (Q : Nat → Bool) (sl : Nat → Int) (cf : Nat → Nat) : Prop := zHs s t x K U V ∧ (j0 ≤ s ∧ Q j0 = false) ∧ (∀ j, Q j = true → K.2 j ≠ none) ∧ zcnt Q (s + 1) = t ∧ (∀ j, 1 ≤ j → j ≤ s → Q j = false → -10000 ≤ sl j ∧ sl j ≤ 1000000) ∧ (t = 0 → j0 = 0 ∧ (∀ j, Q j = false) ∧ (∀ j, sl j = 1000000)) ∧ (0 < t → Q 0 = true ∧ 1 ≤ j0 ∧ sl j0 = 0 ∧ (∀ j c r, 1 ≤ j → j ≤ s → Q j = false → Q c = true → K.2 c = some r → sl j ≤ zcur x U V r j) ∧ (∀ j, 1 ≤ j → j ≤ s → Q j = false → Q (cf j) = true ∧ ∃ r, K.2 (cf j) = some r ∧ sl j = zcur x U V r j) ∧ (∀ j, 1 ≤ j → j ≤ s → Q j = true → Q (cf j) = true ∧ ∃ r, K.2 (cf j) = some r ∧ zcur x U V r j = 0) ∧ (∀ j, Q j = true → ∃ k, k < t ∧ zch (zff cf) k j))
theorem zHi_t {s i0 t j0 : Nat} {x : Nat → Nat → Int} {K : zM} {U V : Nat → Int} {Q : Nat → Bool} {sl : Nat → Int} {cf : Nat → Nat} (hK : zHr s i0 K) (h : zHi s t j0 x K U V Q sl cf) : t ≤ s := by
  have h1 := zHr_cnt hK
  have h2 : zcnt Q (s + 1) ≤ zcnt (fun j => (K.2 j).isSome) (s + 1) := zcnt_mono (fun j _ hq => by
    have := h.2.2.1 j hq
    cases e : K.2 j with
    | none => exact absurd e this
    | some r => rfl)
  have h3 := h.2.2.2.1
  have := hK.2.2.2
  omega
theorem zHi_step {s i0 t j0 b r : Nat} {x : Nat → Nat → Int} {K : zM} {U V : Nat → Int} {Q : Nat → Bool} {sl : Nat → Int} {cf : Nat → Nat} (hK : zHr s i0 K) (h : zHi s t j0 x K U V Q sl cf) (hr : K.2 j0 = some r) {Q1 : Nat → Bool} (hQ1 : Q1 j0 = true) (hQn : ∀ j, j ≠ j0 → Q1 j = Q j) (hb1 : 1 ≤ b) (hbs : b ≤ s) (hbq : Q1 b = false) (hb : ∀ j, 1 ≤ j → j ≤ s → Q1 j = false → zmi (sl b) (zcur x U V r b) ≤ zmi (sl j) (zcur x U V r j)) {δ : Int} (hδ : δ = zmi (sl b) (zcur x U V r b)) {cf1 : Nat → Nat} (hcf : ∀ j, cf1 j = if Q1 j = false ∧ zcur x U V r j < sl j then j0 else cf j) : zHi s (t + 1) b x K (zU K Q1 U δ) (zVv Q1 V δ) Q1 (fun j => zmi (sl j) (zcur x U V r j) - δ) cf1 := by
  obtain ⟨⟨⟨hx, hU, hV⟩, hti, hfr, hfe⟩, ⟨hj0, hq0⟩, hqk, hcnt, hslb, ht0, ht1⟩ := h
  obtain ⟨hmo, hrows, hi0, i01, i0s⟩ := hK
  obtain ⟨jf, jf1, jf2, jf3⟩ := zHr_fr ⟨hmo, hrows, hi0, i01, i0s⟩
  have hrj := (hmo.2 r j0 hr).2.2
  have hr1 := (hrows r).mp (by rw [hrj]; exact fun z => by cases z)
  have hQ1k : ∀ j, Q1 j = true → K.2 j ≠ none := fun j hj => by
    by_cases e : j = j0
    · rw [e, hr]; exact fun z => by cases z
    · exact hqk j (by rw [← hQn j e]; exact hj)
  have hQup : ∀ j, Q j = true → Q1 j = true := fun j hj => by
    by_cases e : j = j0
    · rw [e]; exact hQ1
    · rw [hQn j e]; exact hj
  have hQdn : ∀ j, Q1 j = false → Q j = false ∧ j ≠ j0 := fun j hj => by
    have e : j ≠ j0 := fun z => by rw [z, hQ1] at hj; cases hj
    exact ⟨by rw [← hQn j e]; exact hj, e⟩
  have hjf : Q1 jf = false := by
    cases e : Q1 jf with
    | false => rfl
    | true => exact absurd jf3 (hQ1k jf e)
  have hzin : ∀ i c, K.1 i = some c → zin K Q1 i = Q1 c := fun i c e => by unfold zin; rw [e]
  have hcb : ∀ i j, 1 ≤ i → i ≤ s → 1 ≤ j → j ≤ s → -198 ≤ zcur x U V i j ∧ zcur x U V i j ≤ 396 := fun i j i1 i2 j1 j2 => by
    have a1 := hx i j i1 i2 j1 j2
    have a2 := hU i i1 i2
    have a3 := hV j j1 j2
    unfold zcur
    omega
  have hc2 : ∀ i j, zcur x (zU K Q1 U δ) (zVv Q1 V δ) i j = zcur x U V i j - cond (zin K Q1 i) δ 0 + cond (Q1 j) δ 0 := fun i j => by
    unfold zcur zU zVv
    omega
  have hδ0 : 0 < t → 0 ≤ δ := fun q => by
    obtain ⟨a1, a2, a3, a4, a5, a6, a7⟩ := ht1 q
    obtain ⟨b1, r', b2, b3⟩ := a5 b hb1 hbs (hQdn b hbq).1
    have c1 := hfe r' (cf b) (hmo.2 r' (cf b) b2).2.2 (Or.inr q) b hb1 hbs
    have c2 := hfe r j0 hrj (Or.inr q) b hb1 hbs
    have := zmi_le (sl b) (zcur x U V r b)
    omega
  have hq1t0 : t = 0 → ∀ j, Q1 j = true → j = 0 := fun q j hj => by
    obtain ⟨a1, a2, a3⟩ := ht0 q
    by_cases e : j = j0
    · rw [e, a1]
    · rw [hQn j e, a2 j] at hj
      cases hj
  -- prices fit
  have F2 : ∀ i c, K.1 i = some c → ∀ j, 1 ≤ j → j ≤ s → 0 ≤ zcur x (zU K Q1 U δ) (zVv Q1 V δ) i j := by
    intro i c e j j1 j2
    rw [hc2, hzin i c e]
    have hK2 := (hmo.1 i c e).2.2
    have hi := (hrows i).mp (by rw [e]; exact fun z => by cases z)
    by_cases q : t = 0
    · have hj : Q1 j = false := by
        cases y : Q1 j with
        | false => rfl
        | true => have := hq1t0 q j y; omega
      rw [hj]
      cases y : Q1 c with
      | true =>
        have hc := hq1t0 q c y
        have : c = j0 := by rw [hc, (ht0 q).1]
        rw [this, hr] at hK2
        cases hK2
        have h1 := hb j j1 j2 hj
        have := zmi_le (sl j) (zcur x U V r j)
        show 0 ≤ zcur x U V r j - δ + 0
        omega
      | false =>
        have hc1 : 1 ≤ c := Nat.pos_of_ne_zero (fun z => by
          have := hQ1
          rw [(ht0 q).1, ← z, y] at this
          cases this)
        have := hfe i c e (Or.inl hc1) j j1 j2
        show 0 ≤ zcur x U V i j - 0 + 0
        omega
    · have hp : 0 < t := by omega
      have h0 := hδ0 hp
      have hf := hfe i c e (Or.inr hp) j j1 j2
      cases y : Q1 c with
      | false =>
        cases w : Q1 j with
        | true => show 0 ≤ zcur x U V i j - 0 + δ; omega
        | false => show 0 ≤ zcur x U V i j - 0 + 0; omega
      | true =>
        cases w : Q1 j with
        | true => show 0 ≤ zcur x U V i j - δ + δ; omega
        | false =>
          show 0 ≤ zcur x U V i j - δ + 0
          have h1 := hb j j1 j2 w
          have h2 := zmi_le (sl j) (zcur x U V r j)
          by_cases z : c = j0
          · rw [z, hr] at hK2
            cases hK2
            omega
          · have := (ht1 hp).2.2.2.1 j c i j1 j2 (hQdn j w).1 (by rw [← hQn c z]; exact y) hK2
            omega
  have T2 : ∀ j i, 1 ≤ j → K.2 j = some i → zcur x (zU K Q1 U δ) (zVv Q1 V δ) i j = 0 := by
    intro j i j1 e
    rw [hc2, hzin i j (hmo.2 i j e).2.2, hti j i j1 e]
    omega
  have Vf : zVv Q1 V δ jf = 0 := by
    unfold zVv
    rw [hjf, hfr jf jf1 jf2 jf3]
    rfl
  have Uhi : ∀ i, 1 ≤ i → i ≤ s → zU K Q1 U δ i ≤ 0 := by
    intro i i1 i2
    cases e : K.1 i with
    | none =>
      have := (hU i i1 i2).2
      have e2 : zin K Q1 i = false := by unfold zin; rw [e]
      unfold zU
      rw [e2]
      show U i + 0 ≤ 0
      omega
    | some c =>
      have h1 := F2 i c e jf jf1 jf2
      have h2 := (hx i jf i1 i2 jf1 jf2).2
      unfold zcur at h1
      omega
  have Vb : ∀ j, 1 ≤ j → j ≤ s → -198 ≤ zVv Q1 V δ j ∧ zVv Q1 V δ j ≤ 0 := by
    intro j j1 j2
    have hv := hV j j1 j2
    cases y : Q1 j with
    | false =>
      unfold zVv
      rw [y]
      show -198 ≤ V j - 0 ∧ V j - 0 ≤ 0
      omega
    | true =>
      have hp : 0 < t := Nat.pos_of_ne_zero (fun z => by have := hq1t0 z j y; omega)
      have h0 := hδ0 hp
      cases e : K.2 j with
      | none => exact absurd e (hQ1k j y)
      | some i =>
        have hi := (hrows i).mp (by rw [(hmo.2 i j e).2.2]; exact fun z => by cases z)
        have h1 := T2 j i j1 e
        have h2 := Uhi i hi.1 (by omega)
        have h3 := hx i j hi.1 (by omega) j1 j2
        have h4 : zVv Q1 V δ j = V j - δ := by unfold zVv; rw [y]; rfl
        unfold zcur at h1
        omega
  have Ulo : ∀ i, 1 ≤ i → i ≤ s → -198 ≤ zU K Q1 U δ i := by
    intro i i1 i2
    cases e : K.1 i with
    | none =>
      have := (hU i i1 i2).1
      have e2 : zin K Q1 i = false := by unfold zin; rw [e]
      unfold zU
      rw [e2]
      show -198 ≤ U i + 0
      omega
    | some c =>
      have hcs := (hmo.1 i c e).2.1
      have hK2 := (hmo.1 i c e).2.2
      by_cases z : 1 ≤ c
      · have h1 := T2 c i z hK2
        have h2 := Vb c z (by omega)
        have h3 := hx i c i1 i2 z (by omega)
        unfold zcur at h1
        omega
      · have c0 : c = 0 := by omega
        by_cases q : t = 0
        · have : c = j0 := by rw [c0, (ht0 q).1]
          rw [this, hr] at hK2
          cases hK2
          have e2 : zU K Q1 U δ r = U r + δ := by unfold zU; rw [hzin r c e, this, hQ1]; rfl
          have h1 := hcb r b hr1.1 (by omega) hb1 hbs
          have h2 : δ = zcur x U V r b := by
            rw [hδ]
            unfold zmi
            rw [(ht0 q).2.2 b, if_pos (by omega)]
          have h3 := hx r b hr1.1 (by omega) hb1 hbs
          have h4 := hV b hb1 hbs
          rw [e2, h2]
          unfold zcur
          omega
        · have h0 := hδ0 (by omega)
          have e2 : zU K Q1 U δ i = U i + δ := by
            unfold zU
            rw [hzin i c e, c0, hQup 0 (ht1 (by omega)).1]
            rfl
          have := (hU i i1 i2).1
          omega
  have B2 : ∀ j, 1 ≤ j → j ≤ s → Q1 j = false → Q1 (cf1 j) = true ∧ ∃ r', K.2 (cf1 j) = some r' ∧ zmi (sl j) (zcur x U V r j) - δ = zcur x (zU K Q1 U δ) (zVv Q1 V δ) r' j := by
    intro j j1 j2 hj
    by_cases y : zcur x U V r j < sl j
    · have e : cf1 j = j0 := by rw [hcf j, if_pos ⟨hj, y⟩]
      refine ⟨by rw [e]; exact hQ1, r, by rw [e]; exact hr, ?_⟩
      rw [hc2, hzin r j0 hrj, hQ1, hj]
      have : zmi (sl j) (zcur x U V r j) = zcur x U V r j := if_pos y
      rw [this]
      show _ = zcur x U V r j - δ + 0
      omega
    · have e : cf1 j = cf j := by rw [hcf j, if_neg (fun z => y z.2)]
      by_cases q : t = 0
      · have := hcb r j hr1.1 (by omega) j1 j2
        rw [(ht0 q).2.2 j] at y
        omega
      · obtain ⟨b1, r', b2, b3⟩ := (ht1 (by omega)).2.2.2.2.1 j j1 j2 (hQdn j hj).1
        refine ⟨by rw [e]; exact hQup _ b1, r', by rw [e]; exact b2, ?_⟩
        rw [hc2, hzin r' _ (hmo.2 r' _ b2).2.2, hQup _ b1, hj]
        have : zmi (sl j) (zcur x U V r j) = sl j := if_neg y
        rw [this, b3]
        show _ = zcur x U V r' j - δ + 0
        omega
  have hcfu : ∀ j, Q1 j = true → cf1 j = cf j := fun j hj => by rw [hcf j, if_neg (fun z => by rw [hj] at z; cases z.1)]
  have C2 : ∀ j, 1 ≤ j → j ≤ s → Q1 j = true → Q1 (cf1 j) = true ∧ Q (cf1 j) = true ∧ ∃ r', K.2 (cf1 j) = some r' ∧ zcur x (zU K Q1 U δ) (zVv Q1 V δ) r' j = 0 := by
    intro j j1 j2 hj
    have hp : 0 < t := Nat.pos_of_ne_zero (fun z => by have := hq1t0 z j hj; omega)
    obtain ⟨a1, a2, a3, a4, a5, a6, a7⟩ := ht1 hp
    rw [hcfu j hj]
    by_cases e : j = j0
    · obtain ⟨b1, r', b2, b3⟩ := a5 j j1 j2 (by rw [e]; exact hq0)
      refine ⟨hQup _ b1, b1, r', b2, ?_⟩
      rw [hc2, hzin r' _ (hmo.2 r' _ b2).2.2, hQup _ b1, hj, ← b3, e, a3]
      show (0 : Int) - δ + δ = 0
      omega
    · obtain ⟨b1, r', b2, b3⟩ := a6 j j1 j2 (by rw [← hQn j e]; exact hj)
      refine ⟨hQup _ b1, b1, r', b2, ?_⟩
      rw [hc2, hzin r' _ (hmo.2 r' _ b2).2.2, hQup _ b1, hj, b3]
      show (0 : Int) - δ + δ = 0
      omega
  have hQs : ∀ j, Q j = true → j ≤ s := fun j hj => by
    cases e : K.2 j with
    | none => exact absurd e (hqk j hj)
    | some i => have := (hmo.2 i j e).2.1; omega
  refine ⟨⟨⟨hx, fun i i1 i2 => ⟨Ulo i i1 i2, Uhi i i1 i2⟩, Vb⟩, T2, fun j j1 j2 e => ?_, fun i c e _ j j1 j2 => F2 i c e j j1 j2⟩, ⟨hbs, hbq⟩, hQ1k, ?_, fun j j1 j2 hj => ?_, fun z => by omega, fun _ => ⟨?_, hb1, ?_, fun j c i j1 j2 hj hc e => ?_, fun j j1 j2 hj => B2 j j1 j2 hj, fun j j1 j2 hj => ⟨(C2 j j1 j2 hj).1, (C2 j j1 j2 hj).2.2⟩, fun j hj => ?_⟩⟩
  · have : Q1 j = false := by
      cases y : Q1 j with
      | false => rfl
      | true => exact absurd e (hQ1k j y)
    unfold zVv
    rw [this, hfr j j1 j2 e]
    rfl
  · rw [zcnt_se (p := Q) (a := j0) (by omega) hQn hq0 hQ1, hcnt]
  · obtain ⟨b1, r', b2, b3⟩ := B2 j j1 j2 hj
    have hi := (hrows r').mp (by rw [(hmo.2 r' _ b2).2.2]; exact fun z => by cases z)
    have h1 := hx r' j hi.1 (by omega) j1 j2
    have h2 := Ulo r' hi.1 (by omega)
    have h3 := Uhi r' hi.1 (by omega)
    have h4 := Vb j j1 j2
    show -10000 ≤ zmi (sl j) (zcur x U V r j) - δ ∧ zmi (sl j) (zcur x U V r j) - δ ≤ 1000000
    rw [b3]
    unfold zcur
    omega
  · by_cases q : t = 0
    · rw [← (ht0 q).1]; exact hQ1
    · exact hQup 0 (ht1 (by omega)).1
  · show zmi (sl b) (zcur x U V r b) - δ = 0
    omega
  · show zmi (sl j) (zcur x U V r j) - δ ≤ _
    rw [hc2, hzin i c (hmo.2 i c e).2.2, hc, hj]
    show _ ≤ zcur x U V i j - δ + 0
    have h2 := zmi_le (sl j) (zcur x U V r j)
    by_cases z : c = j0
    · rw [z, hr] at e
      cases e
      omega
    · have hcq : Q c = true := by rw [← hQn c z]; exact hc
      by_cases q : t = 0
      · rw [(ht0 q).2.1 c] at hcq
        cases hcq
      · have := (ht1 (by omega)).2.2.2.1 j c i j1 j2 (hQdn j hj).1 hcq e
        omega
  · have hlift : ∀ k y, Q y = true → zch (zff cf) k y → zch (zff cf1) k y := by
      refine zch_cl (P := fun y => Q y = true) (fun y hy => ?_) (fun y w e hy => ?_)
      · unfold zff
        rw [hcfu y (hQup y hy)]
      · unfold zff at e
        by_cases y0 : y = 0
        · rw [if_pos y0] at e; cases e
        · rw [if_neg y0] at e
          cases e
          have hp : 0 < t := Nat.pos_of_ne_zero (fun z => by rw [(ht0 z).2.1 y] at hy; cases hy)
          exact ((ht1 hp).2.2.2.2.2.1 y (by omega) (hQs y hy) hy).1
    by_cases e : j = j0
    · by_cases z : j0 = 0
      · exact ⟨0, by omega, by rw [e, z]; rfl⟩
      · have hp : 0 < t := Nat.pos_of_ne_zero (fun y => z (ht0 y).1)
        obtain ⟨a1, a2, a3, a4, a5, a6, a7⟩ := ht1 hp
        obtain ⟨b1, r', b2, b3⟩ := a5 j0 a2 hj0 hq0
        obtain ⟨k, k1, k2⟩ := a7 _ b1
        refine ⟨k + 1, by omega, cf j0, ?_, hlift k _ b1 k2⟩
        rw [e]
        unfold zff
        rw [if_neg z, hcfu j0 hQ1]
    · have hjq : Q j = true := by rw [← hQn j e]; exact hj
      have hp : 0 < t := Nat.pos_of_ne_zero (fun z => by rw [(ht0 z).2.1 j] at hjq; cases hjq)
      obtain ⟨k, k1, k2⟩ := (ht1 hp).2.2.2.2.2.2 j hjq
      exact ⟨k, by omega, hlift k j hjq k2⟩
