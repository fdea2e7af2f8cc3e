/-! REASONING about runs of the interpreter: zW a frame, zC a call -/
abbrev zPo : Type := (Option Value ⊕ Nat) → zSt → Nat → Prop
def z_wp (E : Nat → Option zOut) (Φ : zPo) : Prop := ∃ (N : Nat) (o : Option Value ⊕ Nat) (τ : zSt) (t : Nat), (∀ n, N ≤ n → E n = some (o, τ, t)) ∧ Φ o τ t
def zW (L : Nat) (xs : Nat → Int32) (m pc : Nat) (lv : zL) (st : List Value) (σ : zSt) (Φ : zPo) : Prop := z_wp (fun n => z_run L xs n m pc lv st σ) Φ
def zC (L : Nat) (xs : Nat → Int32) (c : Nat) (vals : List Value) (σ : zSt) (Φ : zPo) : Prop := z_wp (fun n => z_run L xs n c 0 (z_ent (z_maxL c) vals) [] σ) Φ
def z_kont (sw : List (Int32 × Nat)) (K : Option Value → zSt → zPo → Prop) (Φ : zPo) : zPo := fun o σ2 u => match o with
  | .inl rv => K rv σ2 (fun o τ t => Φ o τ (u + t))
  | .inr e => match sw with
    | [] => Φ (.inr e) σ2 u
    | q :: r => ∃ cst, z_hnd e (q :: r) = some cst ∧ Φ (.inl (some (.int cst))) σ2 u
noncomputable def z_one (L : Nat) (xs : Nat → Int32) (G : Nat → Nat → zL → List Value → zSt → Option zOut) : Nat → Nat → zL → List Value → zSt → Option zOut :=
  fun m pc l st σ => match z_at m pc with
      | none => none
      | some e => z_stp L xs e.2.1 e.2.2.1 e.2.2.2.1 e.2.2.2.2 pc l st σ (G m) (fun c args τ => G c 0 args [] τ) e.1
noncomputable def z_itr (L : Nat) (xs : Nat → Int32) (G : Nat → Nat → zL → List Value → zSt → Option zOut) (K : Nat) : Nat → Nat → zL → List Value → zSt → Option zOut :=
  Nat.rec (motive := fun _ => Nat → Nat → zL → List Value → zSt → Option zOut) G (fun _ ih => z_one L xs ih) K
theorem z_itr_run (L : Nat) (xs : Nat → Int32) (n : Nat) : ∀ K, z_run L xs (n + K) = z_itr L xs (z_run L xs n) K := by
  intro K
  induction K with
  | zero => rfl
  | succ K ih =>
    show z_one L xs (z_run L xs (n + K)) = z_one L xs (z_itr L xs (z_run L xs n) K)
    rw [ih]
section
variable {L : Nat} {xs : Nat → Int32} {m pc : Nat} {lv : zL} {st : List Value} {σ : zSt} {Φ Ψ : zPo} {E1 E2 : Nat → Option zOut}
theorem zw_c {o : Option Value ⊕ Nat} {τ : zSt} {t : Nat} (h : Φ o τ t) : z_wp (fun _ => some (o, τ, t)) Φ := ⟨0, o, τ, t, fun _ _ => rfl, h⟩
theorem zw_br {c : Prop} [Decidable c] (h1 : c → z_wp E1 Φ) (h2 : ¬ c → z_wp E2 Φ) : z_wp (fun n => if c then E1 n else E2 n) Φ := by
  by_cases hc : c
  · obtain ⟨N, o, τ, t, h, hp⟩ := h1 hc
    exact ⟨N, o, τ, t, fun n hn => by show (if c then E1 n else E2 n) = _; rw [if_pos hc]; exact h n hn, hp⟩
  · obtain ⟨N, o, τ, t, h, hp⟩ := h2 hc
    exact ⟨N, o, τ, t, fun n hn => by show (if c then E1 n else E2 n) = _; rw [if_neg hc]; exact h n hn, hp⟩
theorem zw_pos {c : Prop} [Decidable c] (hc : c) (h1 : z_wp E1 Φ) : z_wp (fun n => if c then E1 n else E2 n) Φ := zw_br (fun _ => h1) (fun q => absurd hc q)
theorem zw_neg {c : Prop} [Decidable c] (hc : ¬ c) (h1 : z_wp E2 Φ) : z_wp (fun n => if c then E1 n else E2 n) Φ := zw_br (fun q => absurd q hc) (fun _ => h1)
theorem zw_sh (d : Nat) (h : zW L xs m pc lv st σ Φ) : z_wp (fun n => z_run L xs (n + d) m pc lv st σ) Φ := by
  obtain ⟨N, o, τ, t, h, hp⟩ := h
  exact ⟨N, o, τ, t, fun n hn => h (n + d) (by omega), hp⟩
theorem zw_en (d : Nat) (h : z_wp (fun n => z_run L xs (n + d) m pc lv st σ) Φ) : zW L xs m pc lv st σ Φ := by
  obtain ⟨N, o, τ, t, h, hp⟩ := h
  refine ⟨N + d, o, τ, t, fun n hn => ?_, hp⟩
  have := h (n - d) (by omega)
  dsimp only at this
  rw [show n - d + d = n by omega] at this
  exact this
theorem zw_en2 (K : Nat) {F : (Nat → Nat → zL → List Value → zSt → Option zOut) → Option zOut} (e : ∀ G, z_itr L xs G K m pc lv st σ = F G) (h : z_wp (fun n => F (z_run L xs n)) Φ) : zW L xs m pc lv st σ Φ := by
  apply zw_en K
  show z_wp (fun n => z_run L xs (n + K) m pc lv st σ) Φ
  have hE : (fun n => z_run L xs (n + K) m pc lv st σ) = (fun n => F (z_run L xs n)) := funext fun n => by rw [z_itr_run, e]
  rw [hE]
  exact h
theorem zw_rv {r : Option Nat} {x : Nat} (h : r = some x) (k : zW L xs m pc lv (.ref x :: st) σ Φ) : zW L xs m pc lv (z_rv r :: st) σ Φ := by
  subst h
  exact k
theorem zw_call (d : Nat) {c0 : Nat} {vals : List Value} {σ1 : zSt} {sw : List (Int32 × Nat)} (h : zC L xs c0 vals σ1 (z_kont sw (fun r τ Ψ => zW L xs m pc lv (r.toList ++ st) τ Ψ) Φ)) : z_wp (fun n => z_back sw (z_run L xs (n + d) c0 0 (z_ent (z_maxL c0) vals) [] σ1) (fun r τ => z_run L xs (n + d) m pc lv (r.toList ++ st) τ)) Φ := by
  obtain ⟨N, o, τ, t, h, hp⟩ := h
  match o, h, hp with
  | .inl rv, h, hp =>
    obtain ⟨N2, o2, τ2, t2, h2, hp2⟩ := hp
    refine ⟨N + N2, o2, τ2, t + t2, fun n hn => ?_, hp2⟩
    show z_back sw (z_run L xs (n + d) c0 0 (z_ent (z_maxL c0) vals) [] σ1) _ = _
    rw [show z_run L xs (n + d) c0 0 (z_ent (z_maxL c0) vals) [] σ1 = _ from h (n + d) (by omega)]
    show z_add t (z_run L xs (n + d) m pc lv (rv.toList ++ st) τ) = _
    rw [show z_run L xs (n + d) m pc lv (rv.toList ++ st) τ = _ from h2 (n + d) (by omega)]
    rfl
  | .inr e, h, hp =>
    match sw, hp with
    | [], hp =>
      refine ⟨N, .inr e, τ, t, fun n hn => ?_, hp⟩
      show z_back [] (z_run L xs (n + d) c0 0 (z_ent (z_maxL c0) vals) [] σ1) _ = _
      rw [show z_run L xs (n + d) c0 0 (z_ent (z_maxL c0) vals) [] σ1 = _ from h (n + d) (by omega)]
      rfl
    | q :: r, hp =>
      obtain ⟨cst, h1, h2⟩ := hp
      refine ⟨N, .inl (some (.int cst)), τ, t, fun n hn => ?_, h2⟩
      show z_back (q :: r) (z_run L xs (n + d) c0 0 (z_ent (z_maxL c0) vals) [] σ1) _ = _
      rw [show z_run L xs (n + d) c0 0 (z_ent (z_maxL c0) vals) [] σ1 = _ from h (n + d) (by omega)]
      show (match z_hnd e (q :: r) with
        | none => none
        | some c => some (Sum.inl (some (Value.int c)), τ, t)) = _
      rw [h1]
theorem zw_cal {c0 : Nat} {vals : List Value} {σ1 : zSt} {sw : List (Int32 × Nat)} (h : zC L xs c0 vals σ1 (z_kont sw (fun r τ Ψ => zW L xs m pc lv (r.toList ++ st) τ Ψ) Φ)) : z_wp (fun n => z_back sw (z_run L xs n c0 0 (z_ent (z_maxL c0) vals) [] σ1) (fun r τ => z_run L xs n m pc lv (r.toList ++ st) τ)) Φ := zw_call 0 h
theorem zw_mono (h : ∀ o τ t, Φ o τ t → Ψ o τ t) (k : z_wp E1 Φ) : z_wp E1 Ψ := by
  obtain ⟨N, o, τ, t, h1, hp⟩ := k
  exact ⟨N, o, τ, t, h1, h _ _ _ hp⟩
theorem zw_k0 (k : zW L xs m pc lv st σ Φ) : zW L xs m pc lv st σ (fun o τ t => Φ o τ (0 + t)) := zw_mono (fun o τ t h => by rw [Nat.zero_add]; exact h) k
theorem zC_en {c0 : Nat} {vals : List Value} (h : zW L xs c0 0 (z_ent (z_maxL c0) vals) [] σ Φ) : zC L xs c0 vals σ Φ := h
end
/-! the bases -/
def z_ib (b : Nat) : Prop := b = 4 ∨ b = 18 ∨ b = 32
def z_db (b : Nat) : Prop := b = 48 ∨ b = 60
def z_fb (b : Nat) : Prop := b = 54 ∨ b = 66
theorem z_ib_k {b : Nat} (h : z_ib b) : z_kind b = 2 := by rcases h with rfl | rfl | rfl <;> rfl
theorem z_ib_all : ∀ j, j < 14 → 1 ≤ j → (z_kind (4 + j) = 10 ∧ z_kind (18 + j) = 10 ∧ z_kind (32 + j) = 10) ∧ (z_len (4 + j) = z_len (18 + j) ∧ z_len (4 + j) = z_len (32 + j)) ∧ (j ≤ 3 → z_len (4 + j) = 4) ∧ (4 ≤ j → z_len (4 + j) = 24) := by decide +kernel
theorem z_ib_a {b : Nat} (h : z_ib b) (j : Nat) (hj : 1 ≤ j ∧ j < 14) : z_kind (b + j) = 10 := by
  have := (z_ib_all j hj.2 hj.1).1
  rcases h with rfl | rfl | rfl
  · exact this.1
  · exact this.2.1
  · exact this.2.2
theorem z_ib_l4 {b : Nat} (h : z_ib b) (j : Nat) (hj : 1 ≤ j ∧ j ≤ 3) : z_len (b + j) = 4 := by
  have h1 := (z_ib_all j (by omega) hj.1).2
  rcases h with rfl | rfl | rfl
  · exact h1.2.1 hj.2
  · rw [← h1.1.1]; exact h1.2.1 hj.2
  · rw [← h1.1.2]; exact h1.2.1 hj.2
theorem z_ib_l24 {b : Nat} (h : z_ib b) (j : Nat) (hj : 4 ≤ j ∧ j < 14) : z_len (b + j) = 24 := by
  have h1 := (z_ib_all j hj.2 (by omega)).2
  rcases h with rfl | rfl | rfl
  · exact h1.2.2 hj.1
  · rw [← h1.1.1]; exact h1.2.2 hj.1
  · rw [← h1.1.2]; exact h1.2.2 hj.1
theorem z_ib_n {b : Nat} (h : z_ib b) (j : Nat) (hj : j < 14) : ¬ b + j = 300 := by rcases h with rfl | rfl | rfl <;> omega
theorem z_db_k {b : Nat} (h : z_db b) : z_kind b = 1 := by rcases h with rfl | rfl <;> rfl
theorem z_db_all : ∀ j, j < 6 → 1 ≤ j → (z_kind (48 + j) = 10 ∧ z_kind (60 + j) = 10) ∧ z_len (48 + j) = z_len (60 + j) ∧ (j ≤ 2 → z_len (48 + j) = 4) ∧ (3 ≤ j → z_len (48 + j) = 24) := by decide +kernel
theorem z_db_a {b : Nat} (h : z_db b) (j : Nat) (hj : 1 ≤ j ∧ j < 6) : z_kind (b + j) = 10 := by
  have := (z_db_all j hj.2 hj.1).1
  rcases h with rfl | rfl
  · exact this.1
  · exact this.2
theorem z_db_l4 {b : Nat} (h : z_db b) (j : Nat) (hj : 1 ≤ j ∧ j ≤ 2) : z_len (b + j) = 4 := by
  have h1 := (z_db_all j (by omega) hj.1).2
  rcases h with rfl | rfl
  · exact h1.2.1 hj.2
  · rw [← h1.1]; exact h1.2.1 hj.2
theorem z_db_l24 {b : Nat} (h : z_db b) (j : Nat) (hj : 3 ≤ j ∧ j < 6) : z_len (b + j) = 24 := by
  have h1 := (z_db_all j hj.2 (by omega)).2
  rcases h with rfl | rfl
  · exact h1.2.2 hj.1
  · rw [← h1.1]; exact h1.2.2 hj.1
theorem z_db_n {b : Nat} (h : z_db b) (j : Nat) (hj : j < 14) : ¬ b + j = 300 := by rcases h with rfl | rfl <;> omega
theorem z_fb_k {b : Nat} (h : z_fb b) : z_kind b = 4 := by rcases h with rfl | rfl <;> rfl
theorem z_fb_all : ∀ j, j < 6 → 1 ≤ j → (z_kind (54 + j) = 10 ∧ z_kind (66 + j) = 10) ∧ z_len (54 + j) = z_len (66 + j) ∧ (j ≤ 3 → z_len (54 + j) = 105) ∧ (j = 4 → z_len (54 + j) = 4) ∧ (5 ≤ j → z_len (54 + j) = 24) := by decide +kernel
theorem z_fb_a {b : Nat} (h : z_fb b) (j : Nat) (hj : 1 ≤ j ∧ j < 6) : z_kind (b + j) = 10 := by
  have := (z_fb_all j hj.2 hj.1).1
  rcases h with rfl | rfl
  · exact this.1
  · exact this.2
theorem z_fb_l105 {b : Nat} (h : z_fb b) (j : Nat) (hj : 1 ≤ j ∧ j ≤ 3) : z_len (b + j) = 105 := by
  have h1 := (z_fb_all j (by omega) hj.1).2
  rcases h with rfl | rfl
  · exact h1.2.1 hj.2
  · rw [← h1.1]; exact h1.2.1 hj.2
theorem z_fb_l4 {b : Nat} (h : z_fb b) (j : Nat) (hj : j = 4) : z_len (b + j) = 4 := by
  have h1 := (z_fb_all j (by omega) (by omega)).2
  rcases h with rfl | rfl
  · exact h1.2.2.1 hj
  · rw [← h1.1]; exact h1.2.2.1 hj
theorem z_fb_l24 {b : Nat} (h : z_fb b) (j : Nat) (hj : j = 5) : z_len (b + j) = 24 := by
  have h1 := (z_fb_all j (by omega) (by omega)).2
  rcases h with rfl | rfl
  · exact h1.2.2.2 (by omega)
  · rw [← h1.1]; exact h1.2.2.2 (by omega)
theorem z_fb_n {b : Nat} (h : z_fb b) (j : Nat) (hj : j < 14) : ¬ b + j = 300 := by rcases h with rfl | rfl <;> omega
theorem z_inl {i : Int32} {a b : Nat} (h : a = b) (k : z_in i b) : z_in i a := by rw [h]; exact k
