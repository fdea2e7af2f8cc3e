/-! two best pairings come to the same -/
theorem zwo_neg {w : Nat → Int} {o : Option Nat} : zwo (fun i => - w i) o = - zwo w o := by
  cases o <;> rfl
theorem zwo_add {w : Nat → Int} {o : Option Nat} {c : Int} : zwo (fun i => w i + c) o = zwo w o + (if o = none then 0 else c) := by
  cases o with
  | none => rfl
  | some k => rw [if_neg (fun z => by cases z)]; rfl
theorem zwo_pd {w : Nat → Int} {o : Option Nat} {c : Int} : zwo (fun i => c + w i) o = (if o = none then 0 else c) + zwo w o := by
  cases o with
  | none => rfl
  | some k => rw [if_neg (fun z => by cases z)]; rfl
theorem zsm_mo {n m : Nat} {K : zM} (h : zmo n m K) (w : Nat → Int) : zsm (fun i => zwo w (K.1 i)) n = zsm (fun j => if K.2 j = none then 0 else w j) m := zsm_mv (fun i j e _ => (h.1 i j e).2) (fun i j e _ => ⟨(h.2 i j e).1, (h.2 i j e).2.2⟩) w
theorem zmo_sw {n m : Nat} {K : zM} (h : zmo n m K) : zmo m n (K.2, K.1) := ⟨fun i j e => ⟨(h.2 j i e).2.1, (h.2 j i e).1, (h.2 j i e).2.2⟩, fun i j e => ⟨(h.1 j i e).2.1, (h.1 j i e).1, (h.1 j i e).2.2⟩⟩
theorem zdual {N M s : Nat} {E : Nat → Nat → Prop} {g x : Nat → Nat → Int} {T K F G : zM} {U V p q : Nat → Int} (hT : zmo N M T) (hTE : ∀ n m, T.1 n = some m → E n m) (hF : zmo (s + 1) N F) (hG : zmo (s + 1) M G) (hF0 : F.1 0 = none) (hG0 : G.1 0 = none) (hEi : ∀ n m, n < N → m < M → E n m → F.2 n ≠ none ∧ G.2 m ≠ none) (hx : ∀ i j n m, F.1 i = some n → G.1 j = some m → E n m → x i j ≤ - g n m) (hx' : ∀ i j, i < s + 1 → j < s + 1 → 1 ≤ i → 1 ≤ j → x i j = 0 ∨ ∃ n m, F.1 i = some n ∧ G.1 j = some m ∧ E n m ∧ x i j = - g n m) (hK : zmo (s + 1) (s + 1) K) (hK1 : ∀ i, 1 ≤ i → i < s + 1 → K.1 i ≠ none) (hK2 : ∀ j, 1 ≤ j → j < s + 1 → K.2 j ≠ none) (hK0 : K.1 0 = none ∧ K.2 0 = none) (hU : ∀ i, 1 ≤ i → i < s + 1 → U i ≤ 0) (hV : ∀ j, 1 ≤ j → j < s + 1 → V j ≤ 0) (hf : ∀ i j, 1 ≤ i → i < s + 1 → 1 ≤ j → j < s + 1 → U i + V j ≤ x i j) (ht : ∀ i j, K.2 j = some i → x i j = U i + V j) (hp : ∀ n, n < N → 0 ≤ p n) (hq : ∀ m, m < M → 0 ≤ q m) (hg : ∀ n m, n < N → m < M → E n m → g n m ≤ p n + q m) (hgt : ∀ n m, T.1 n = some m → g n m = p n + q m) (hpf : ∀ n, n < N → T.1 n = none → p n = 0) (hqf : ∀ m, m < M → T.2 m = none → q m = 0) : zsm (fun j => zwo (fun i => x i j) (K.2 j)) (s + 1) = - zsm (fun n => zwo (g n) (T.1 n)) N := by
  have hK' := zmo_sw hK
  -- the one side as a sum of prices
  have S1 : zsm (fun n => zwo (g n) (T.1 n)) N = zsm p N + zsm q M := by
    have e1 : zsm (fun n => zwo (g n) (T.1 n)) N = zsm (fun n => p n + zwo q (T.1 n)) N := zsm_cong (fun n hn => by
      cases e : T.1 n with
      | none => show (0 : Int) = p n + 0; rw [hpf n hn e]; rfl
      | some m => exact hgt n m e)
    have e2 : zsm (fun j => if T.2 j = none then 0 else q j) M = zsm q M := zsm_cong (fun m hm => by
      by_cases z : T.2 m = none
      · rw [if_pos z, hqf m hm z]
      · rw [if_neg z])
    rw [e1, zsm_add, zsm_mo hT, e2]
  have S2 : zsm (fun j => zwo (fun i => x i j) (K.2 j)) (s + 1) = zsm (fun i => if K.1 i = none then 0 else U i) (s + 1) + zsm (fun j => if K.2 j = none then 0 else V j) (s + 1) := by
    have e1 : zsm (fun j => zwo (fun i => x i j) (K.2 j)) (s + 1) = zsm (fun j => zwo U (K.2 j) + (if K.2 j = none then 0 else V j)) (s + 1) := zsm_cong (fun j hj => by
      cases e : K.2 j with
      | none => rfl
      | some i => rw [if_neg (fun z => by cases z)]; exact ht i j e)
    rw [e1, zsm_add, zsm_mo hK']
  have hFlt : ∀ i n, F.1 i = some n → 1 ≤ i ∧ i < s + 1 ∧ n < N := fun i n e => ⟨Nat.pos_of_ne_zero (fun z => by
    rw [z, hF0] at e
    cases e), (hF.1 i n e).1, (hF.1 i n e).2.1⟩
  have hGlt : ∀ j m, G.1 j = some m → 1 ≤ j ∧ j < s + 1 ∧ m < M := fun j m e => ⟨Nat.pos_of_ne_zero (fun z => by
    rw [z, hG0] at e
    cases e), (hG.1 j m e).1, (hG.1 j m e).2.1⟩
  -- not less
  have A1 : - zsm (fun j => zwo (fun i => x i j) (K.2 j)) (s + 1) ≤ zsm p N + zsm q M := by
    rw [← zsm_neg]
    have hP0 : ∀ i, 0 ≤ zwo p (F.1 i) := fun i => by
      cases e : F.1 i with
      | none => exact Int.le_refl _
      | some n => exact hp n (hFlt i n e).2.2
    have hQ0 : ∀ j, 0 ≤ zwo q (G.1 j) := fun j => by
      cases e : G.1 j with
      | none => exact Int.le_refl _
      | some m => exact hq m (hGlt j m e).2.2
    have e1 : zsm (fun j => - zwo (fun i => x i j) (K.2 j)) (s + 1) ≤ zsm (fun j => zwo (fun i => zwo p (F.1 i)) (K.2 j) + zwo q (G.1 j)) (s + 1) := zsm_le (fun j hj => by
      cases e : K.2 j with
      | none => have := hQ0 j; show - (0 : Int) ≤ 0 + zwo q (G.1 j); omega
      | some i =>
        show - x i j ≤ zwo p (F.1 i) + zwo q (G.1 j)
        have hj1 : 1 ≤ j := Nat.pos_of_ne_zero (fun z => by rw [z, hK0.2] at e; cases e)
        have hki := hK.2 i j e
        have hi1 : 1 ≤ i := Nat.pos_of_ne_zero (fun z => by
          have := hki.2.2
          rw [z, hK0.1] at this
          cases this)
        have h1 := hP0 i
        have h2 := hQ0 j
        rcases hx' i j hki.1 hj hi1 hj1 with z | ⟨n, m, f1, f2, f3, f4⟩
        · omega
        · have := hg n m (hFlt i n f1).2.2 (hGlt j m f2).2.2 f3
          rw [f1, f2, f4]
          show - - g n m ≤ p n + q m
          omega)
    have e2 : zsm (fun i => if K.1 i = none then 0 else zwo p (F.1 i)) (s + 1) ≤ zsm (fun i => zwo p (F.1 i)) (s + 1) := zsm_le (fun i _ => by
      have := hP0 i
      show (if _ then _ else _) ≤ _
      split <;> omega)
    have e3 : zsm (fun n => if F.2 n = none then 0 else p n) N ≤ zsm p N := zsm_le (fun n hn => by
      have := hp n hn
      show (if _ then _ else _) ≤ _
      split <;> omega)
    have e4 : zsm (fun m => if G.2 m = none then 0 else q m) M ≤ zsm q M := zsm_le (fun m hm => by
      have := hq m hm
      show (if _ then _ else _) ≤ _
      split <;> omega)
    rw [zsm_add, zsm_mo hK', zsm_mo hG] at e1
    rw [zsm_mo hF] at e2
    replace e1 : zsm (fun j => - zwo (fun i => x i j) (K.2 j)) (s + 1) ≤ zsm (fun i => if K.1 i = none then 0 else zwo p (F.1 i)) (s + 1) + zsm (fun m => if G.2 m = none then 0 else q m) M := e1
    omega
  -- not more
  have A2 : zsm (fun n => zwo (g n) (T.1 n)) N ≤ - zsm (fun j => zwo (fun i => x i j) (K.2 j)) (s + 1) := by
    have e1 : zsm (fun n => zwo (g n) (T.1 n)) N ≤ zsm (fun n => zwo (fun i => - U i) (F.2 n) + zwo (fun m => zwo (fun j => - V j) (G.2 m)) (T.1 n)) N := zsm_le (fun n hn => by
      have hU0 : 0 ≤ zwo (fun i => - U i) (F.2 n) := by
        cases e : F.2 n with
        | none => exact Int.le_refl _
        | some i =>
          have hh := hF.2 i n e
          have := hU i (hFlt i n hh.2.2).1 hh.1
          show 0 ≤ - U i
          omega
      cases e : T.1 n with
      | none => show (0 : Int) ≤ _ + 0; omega
      | some m =>
        have hm := (hT.1 n m e).2.1
        have hE := hTE n m e
        obtain ⟨z1, z2⟩ := hEi n m hn hm hE
        cases e1 : F.2 n with
        | none => exact absurd e1 z1
        | some i =>
          cases e2 : G.2 m with
          | none => exact absurd e2 z2
          | some j =>
            have h1 := hF.2 i n e1
            have h2 := hG.2 j m e2
            have h3 := hx i j n m h1.2.2 h2.2.2 hE
            have h4 := hf i j (hFlt i n h1.2.2).1 h1.1 (hGlt j m h2.2.2).1 h2.1
            show g n m ≤ - U i + zwo (fun j => - V j) (G.2 m)
            rw [e2]
            show g n m ≤ - U i + - V j
            omega)
    have e2 : zsm (fun m => if T.2 m = none then 0 else zwo (fun j => - V j) (G.2 m)) M ≤ zsm (fun m => zwo (fun j => - V j) (G.2 m)) M := zsm_le (fun m hm => by
      have hV0 : 0 ≤ zwo (fun j => - V j) (G.2 m) := by
        cases e : G.2 m with
        | none => exact Int.le_refl _
        | some j =>
          have hh := hG.2 j m e
          have := hV j (hGlt j m hh.2.2).1 hh.1
          show 0 ≤ - V j
          omega
      show (if _ then _ else _) ≤ _
      split <;> omega)
    have e3 : zsm (fun i => if F.1 i = none then 0 else - U i) (s + 1) ≤ zsm (fun i => - (if K.1 i = none then 0 else U i)) (s + 1) := zsm_le (fun i hi => by
      by_cases z : i = 0
      · rw [z, hF0, hK0.1, if_pos rfl, if_pos rfl]
        exact Int.le_refl _
      · have := hU i (by omega) hi
        rw [if_neg (hK1 i (by omega) hi)]
        split <;> omega)
    have e4 : zsm (fun j => if G.1 j = none then 0 else - V j) (s + 1) ≤ zsm (fun j => - (if K.2 j = none then 0 else V j)) (s + 1) := zsm_le (fun j hj => by
      by_cases z : j = 0
      · rw [z, hG0, hK0.2, if_pos rfl, if_pos rfl]
        exact Int.le_refl _
      · have := hV j (by omega) hj
        rw [if_neg (hK2 j (by omega) hj)]
        split <;> omega)
    rw [zsm_add, zsm_mo (K := (F.2, F.1)) (zmo_sw hF), zsm_mo hT] at e1
    rw [zsm_mo (K := (G.2, G.1)) (zmo_sw hG)] at e2
    rw [zsm_neg] at e3 e4
    replace e1 : zsm (fun n => zwo (g n) (T.1 n)) N ≤ zsm (fun i => if F.1 i = none then 0 else - U i) (s + 1) + zsm (fun m => if T.2 m = none then 0 else zwo (fun j => - V j) (G.2 m)) M := e1
    replace e2 : zsm (fun m => if T.2 m = none then 0 else zwo (fun j => - V j) (G.2 m)) M ≤ zsm (fun j => if G.1 j = none then 0 else - V j) (s + 1) := e2
    omega
  omega
/-- along f, k steps from x until it ends -/
def zch (f : Nat → Option Nat) : Nat → Nat → Prop
  | 0, x => f x = none
  | k + 1, x => ∃ y, f x = some y ∧ zch f k y
theorem zch_un {f : Nat → Option Nat} : ∀ k l x, zch f k x → zch f l x → k = l := by
  intro k
  induction k with
  | zero =>
    intro l x h1 h2
    cases l with
    | zero => rfl
    | succ l =>
      obtain ⟨y, e, _⟩ := h2
      rw [show f x = none from h1] at e
      cases e
  | succ k ih =>
    intro l x h1 h2
    obtain ⟨y, e, h⟩ := h1
    cases l with
    | zero => rw [show f x = none from h2] at e; cases e
    | succ l =>
      obtain ⟨y', e', h'⟩ := h2
      rw [e] at e'
      cases e'
      rw [ih l y h h']
/-- one step more: what isn't on the way of a isn't touched -/
theorem zch_se {f f' : Nat → Option Nat} {a b : Nat} (hf : ∀ x, x ≠ a → f' x = f x) (ha : f' a = some b) {P : Nat → Prop} (hP : ∀ x y, f x = some y → P x → P y) (hb : P b) (hn : ¬ P a) {kb : Nat} (hkb : zch f kb b) : ∀ k x, zch f k x → ∃ k', zch f' k' x := by
  have h1 : ∀ k x, P x → zch f k x → zch f' k x := by
    intro k
    induction k with
    | zero =>
      intro x hx h
      show f' x = none
      rw [hf x (fun z => hn (z ▸ hx))]
      exact h
    | succ k ih =>
      intro x hx h
      obtain ⟨y, e, h⟩ := h
      exact ⟨y, by rw [hf x (fun z => hn (z ▸ hx))]; exact e, ih y (hP x y e hx) h⟩
  intro k
  induction k with
  | zero =>
    intro x h
    by_cases q : x = a
    · exact ⟨kb + 1, b, by rw [q]; exact ha, h1 kb b hb hkb⟩
    · exact ⟨0, by show f' x = none; rw [hf x q]; exact h⟩
  | succ k ih =>
    intro x h
    by_cases q : x = a
    · exact ⟨kb + 1, b, by rw [q]; exact ha, h1 kb b hb hkb⟩
    · obtain ⟨y, e, h⟩ := h
      obtain ⟨k', hk'⟩ := ih y h
      exact ⟨k' + 1, y, by rw [hf x q]; exact e, hk'⟩
