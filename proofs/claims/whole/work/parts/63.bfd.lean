/-! the model's best pairing: longest ways -/
theorem zsm_se {f f' : Nat → Int} {n a : Nat} (ha : a < n) (h : ∀ i, i ≠ a → f' i = f i) : zsm f' n = zsm f n - f a + f' a := by
  induction n with
  | zero => omega
  | succ n ih =>
    show zsm f' n + f' n = zsm f n + f n - f a + f' a
    by_cases e : n = a
    · subst e
      rw [zsm_cong (f := f') (g := f) (fun i hi => h i (by omega))]
      omega
    · rw [ih (by omega), h n e]
      omega
theorem zsm_ub {f : Nat → Int} {n : Nat} {c : Int} (h : ∀ i, i < n → f i ≤ c) : zsm f n ≤ c * n := by
  induction n with
  | zero => show (0 : Int) ≤ c * ((0 : Nat) : Int); simp
  | succ n ih =>
    have h1 := ih (fun i hi => h i (by omega))
    have h2 := h n (by omega)
    show zsm f n + f n ≤ c * ((n + 1 : Nat) : Int)
    rw [Int.natCast_add, Int.mul_add]
    simp
    omega
def zrd (d : Nat → Int) (x : Nat) : Bool := decide (-1000000 < d x)
/-- the ways so far: to x, d x; over fr x -/
def zBf (cap : Nat → Int) (c : Nat → Nat → Int) (Eg : Nat → Nat → Prop) (rt : Nat → Prop) (d : Nat → Int) (fr : Nat → Option Nat) : Prop := (∀ x, x < 48 → -1000000 ≤ d x ∧ d x ≤ cap x) ∧ (∀ x, x < 48 → -1000000 < d x → -400 * (zcnt (zrd d) 48 : Int) ≤ d x) ∧ (∀ x, x < 48 → -1000000 < d x → (rt x ∧ d x = 0 ∧ fr x = none) ∨ (¬ rt x ∧ ∃ y, y < 48 ∧ fr x = some y ∧ Eg y x ∧ -1000000 < d y ∧ d x ≤ d y + c y x)) ∧ (∀ x, ∃ k, zch fr k x) ∧ (∀ x, x < 48 → rt x → d x = 0)
section
variable {cap : Nat → Int} {c : Nat → Nat → Int} {Eg : Nat → Nat → Prop} {rt : Nat → Prop} {d : Nat → Int} {fr : Nat → Option Nat}
theorem zBf_lo (h : zBf cap c Eg rt d fr) {x : Nat} (hx : x < 48) (hr : -1000000 < d x) : -19200 ≤ d x := by
  have h1 := h.2.1 x hx hr
  have h2 := zcnt_le (zrd d) 48
  omega
theorem zBf_up (hc : ∀ x y, Eg x y → c x y ≤ cap y - cap x ∧ -400 ≤ c x y) (hrc : ∀ x, rt x → cap x = 0) (h : zBf cap c Eg rt d fr) {x y : Nat} (hx : x < 48) (hy : y < 48) (he : Eg x y) (hr : -1000000 < d x) (hlt : d y < d x + c x y) : zBf cap c Eg rt (zse d y (d x + c x y)) (zse fr y (some x)) := by
  have hlo := zBf_lo h hx hr
  obtain ⟨h1, h2, h3, h4, h5⟩ := h
  obtain ⟨c1, c2⟩ := hc x y he
  have hxy : x ≠ y := fun z => by
    rw [z] at c1 hlt
    omega
  have hny : ¬ rt y := fun z => by
    have a1 := h5 y hy z
    have a2 := hrc y z
    have a3 := (h1 x hx).2
    omega
  have hs : ∀ z, z ≠ y → zse d y (d x + c x y) z = d z := fun z hz => zse_n hz
  have hsy : zse d y (d x + c x y) y = d x + c x y := zse_s
  have hcnt : zcnt (zrd (zse d y (d x + c x y))) 48 = zcnt (zrd d) 48 ∧ -1000000 < d y ∨ zcnt (zrd (zse d y (d x + c x y))) 48 = zcnt (zrd d) 48 + 1 := by
    by_cases q : -1000000 < d y
    · refine Or.inl ⟨zcnt_cong (fun i _ => ?_), q⟩
      unfold zrd
      by_cases e : i = y
      · rw [e, hsy, decide_eq_true q, decide_eq_true (by omega)]
      · rw [hs i e]
    · refine Or.inr (zcnt_se (a := y) hy (fun i e => by unfold zrd; rw [hs i e]) (by unfold zrd; exact decide_eq_false q) (by unfold zrd; rw [hsy]; exact decide_eq_true (by omega)))
  have hb2 : ∀ z, z < 48 → -1000000 < d z → -400 * (zcnt (zrd (zse d y (d x + c x y))) 48 : Int) ≤ d z := fun z hz hzr => by
    have := h2 z hz hzr
    omega
  refine ⟨fun z hz => ?_, fun z hz hzr => ?_, fun z hz hzr => ?_, ?_, fun z hz hzr => ?_⟩
  · by_cases e : z = y
    · rw [e, hsy]
      have := (h1 x hx).2
      omega
    · rw [hs z e]; exact h1 z hz
  · by_cases e : z = y
    · rw [e, hsy]
      have a1 := h2 x hx hr
      rcases hcnt with ⟨q1, q2⟩ | q1
      · have := h2 y hy q2
        omega
      · omega
    · rw [hs z e] at hzr ⊢
      exact hb2 z hz hzr
  · by_cases e : z = y
    · rw [e]
      refine Or.inr ⟨hny, x, hx, zse_s, he, by rw [hs x hxy]; exact hr, ?_⟩
      rw [hsy, hs x hxy]
      exact Int.le_refl _
    · rw [hs z e] at hzr ⊢
      rw [zse_n e]
      rcases h3 z hz hzr with q | ⟨q1, w, w1, w2, w3, w4, w5⟩
      · exact Or.inl q
      · refine Or.inr ⟨q1, w, w1, w2, w3, ?_, ?_⟩
        · by_cases e2 : w = y
          · rw [e2, hsy]; omega
          · rw [hs w e2]; exact w4
        · by_cases e2 : w = y
          · rw [e2, hsy]; rw [e2] at w5; omega
          · rw [hs w e2]; exact w5
  · obtain ⟨kb, hkb⟩ := h4 x
    intro z
    obtain ⟨k, hk⟩ := h4 z
    refine zch_se (f := fr) (a := y) (b := x) (fun w hw => zse_n hw) zse_s (P := fun w => w < 48 ∧ -1000000 < d w ∧ cap w - d w ≤ cap x - d x) (fun w w' e hw => ?_) ⟨hx, hr, Int.le_refl _⟩ (fun hw => ?_) hkb k z hk
    · obtain ⟨w1, w2, w3⟩ := hw
      rcases h3 w w1 w2 with ⟨_, _, q⟩ | ⟨_, v, v1, v2, v3, v4, v5⟩
      · rw [q] at e; cases e
      · rw [v2] at e
        cases e
        have := (hc w' w v3).1
        exact ⟨v1, v4, by omega⟩
    · obtain ⟨w1, w2, w3⟩ := hw
      omega
  · have e : z ≠ y := fun e => hny (e ▸ hzr)
    rw [hs z e]
    exact h5 z hz hzr
theorem zBf_0 (hrc : ∀ x, rt x → cap x = 0) (hc0 : ∀ x, x < 48 → -1000000 ≤ cap x) {d : Nat → Int} (hd1 : ∀ x, x < 48 → rt x → d x = 0) (hd0 : ∀ x, x < 48 → ¬ rt x → d x = -1000000) : zBf cap c Eg rt d (fun _ => none) := by
  have hh : ∀ x, x < 48 → -1000000 < d x → rt x ∧ d x = 0 := fun x hx hr => by
    by_cases q : rt x
    · exact ⟨q, hd1 x hx q⟩
    · rw [hd0 x hx q] at hr; omega
  refine ⟨fun x hx => ?_, fun x hx hr => ?_, fun x hx hr => Or.inl ⟨(hh x hx hr).1, (hh x hx hr).2, rfl⟩, fun x => ⟨0, rfl⟩, hd1⟩
  · by_cases q : rt x
    · rw [hd1 x hx q, hrc x q]; omega
    · rw [hd0 x hx q]; exact ⟨by omega, hc0 x hx⟩
  · rw [(hh x hx hr).2]
    omega
end
/-- the edges: an old n to a new m (at 24 + m) by the gain, back from the m that n has -/
def zEg (N M : Nat) (E : Nat → Nat → Prop) (T : zM) (x y : Nat) : Prop := (x < 24 ∧ 24 ≤ y ∧ x < N ∧ y - 24 < M ∧ E x (y - 24) ∧ T.1 x ≠ some (y - 24)) ∨ (24 ≤ x ∧ y < 24 ∧ y < N ∧ x - 24 < M ∧ T.1 y = some (x - 24))
def zec (g : Nat → Nat → Int) (x y : Nat) : Int := if x < 24 then g x (y - 24) else - g y (x - 24)
def zcap (p q : Nat → Int) (l : Int) (x : Nat) : Int := if x < 24 then - p x else l + q (x - 24)
def zrt (N : Nat) (fl : Nat → Prop) (T : zM) (x : Nat) : Prop := x < 24 ∧ x < N ∧ fl x ∧ T.1 x = none
def zDu (N M : Nat) (E : Nat → Nat → Prop) (fl : Nat → Prop) (g : Nat → Nat → Int) (T : zM) (p q : Nat → Int) (l : Int) : Prop := (0 ≤ l ∧ l ≤ 198) ∧ (∀ n, n < N → 0 ≤ p n ∧ p n ≤ 198 - l) ∧ (∀ m, m < M → 0 ≤ q m ∧ q m ≤ 198 - l) ∧ (∀ n m, n < N → m < M → E n m → g n m ≤ p n + q m + l) ∧ (∀ n m, T.1 n = some m → g n m = p n + q m + l) ∧ (∀ n, n < N → fl n → T.1 n = none → p n = 0) ∧ (∀ m, m < M → T.2 m = none → q m = 0)
section
variable {N M : Nat} {E : Nat → Nat → Prop} {fl : Nat → Prop} {g : Nat → Nat → Int} {T : zM} {p q : Nat → Int} {l : Int} {d : Nat → Int} {fr : Nat → Option Nat}
theorem zcp_o {n : Nat} (h : n < 24) : zcap p q l n = - p n := if_pos h
theorem zcp_n {m : Nat} : zcap p q l (24 + m) = l + q m := by
  unfold zcap
  rw [if_neg (by omega), show 24 + m - 24 = m by omega]
theorem zec_o {n m : Nat} (h : n < 24) : zec g n (24 + m) = g n m := by
  unfold zec
  rw [if_pos h, show 24 + m - 24 = m by omega]
theorem zec_n {n m : Nat} : zec g (24 + m) n = - g n m := by
  unfold zec
  rw [if_neg (by omega), show 24 + m - 24 = m by omega]
theorem zEg_o {n m : Nat} (h : n < 24) : zEg N M E T n (24 + m) ↔ n < N ∧ m < M ∧ E n m ∧ T.1 n ≠ some m := by
  unfold zEg
  rw [show 24 + m - 24 = m by omega]
  constructor
  · rintro (⟨_, _, a⟩ | ⟨a, _⟩)
    · exact a
    · omega
  · intro a
    exact Or.inl ⟨h, by omega, a⟩
theorem zEg_n {n m : Nat} (h : n < 24) : zEg N M E T (24 + m) n ↔ n < N ∧ m < M ∧ T.1 n = some m := by
  unfold zEg
  rw [show 24 + m - 24 = m by omega]
  constructor
  · rintro (⟨a, _⟩ | ⟨_, _, a⟩)
    · omega
    · exact a
  · intro a
    exact Or.inr ⟨by omega, h, a⟩
theorem zDu_c (hg : ∀ n m, -396 ≤ g n m ∧ g n m ≤ 198) (h : zDu N M E fl g T p q l) : ∀ x y, zEg N M E T x y → zec g x y ≤ zcap p q l y - zcap p q l x ∧ -400 ≤ zec g x y := by
  obtain ⟨h0, h1, h2, h3, h4, h5, h6⟩ := h
  rintro x y (⟨a1, a2, a3, a4, a5, a6⟩ | ⟨a1, a2, a3, a4, a5⟩)
  · have b1 := h3 x (y - 24) a3 a4 a5
    have b2 := hg x (y - 24)
    unfold zec zcap
    rw [if_pos a1, if_neg (by omega), if_pos a1]
    omega
  · have b1 := h4 y (x - 24) a5
    have b2 := hg y (x - 24)
    unfold zec zcap
    rw [if_neg (by omega), if_pos a2, if_neg (by omega)]
    omega
theorem zDu_r (h : zDu N M E fl g T p q l) : ∀ x, zrt N fl T x → zcap p q l x = 0 := by
  rintro x ⟨a1, a2, a3, a4⟩
  rw [zcp_o a1, h.2.2.2.2.2.1 x a2 a3 a4]
  rfl
/-- no edge leads on -/
def zfx (N M : Nat) (E : Nat → Nat → Prop) (g : Nat → Nat → Int) (T : zM) (d : Nat → Int) : Prop := (∀ n m, n < N → m < M → E n m → T.1 n ≠ some m → -1000000 < d n → d n + g n m ≤ d (24 + m)) ∧ (∀ n m, n < N → m < M → T.1 n = some m → -1000000 < d (24 + m) → d (24 + m) - g n m ≤ d n)
def zmn2 (a b : Int) : Int := if a ≤ b then a else b
theorem zmn2_le (a b : Int) : zmn2 a b ≤ a ∧ zmn2 a b ≤ b ∧ (zmn2 a b = a ∨ zmn2 a b = b) := by
  unfold zmn2
  split <;> omega
theorem zDu_up (hN : N ≤ 24) (hM : M ≤ 24) (hg : ∀ n m, -396 ≤ g n m ∧ g n m ≤ 198) (hT : zmo N M T) (hD : zDu N M E fl g T p q l) (hTf : ∀ n m, T.1 n = some m → E n m) (hB : zBf (zcap p q l) (zec g) (zEg N M E T) (zrt N fl T) d fr) (hF : zfx N M E g T d) {B : Int} (hB0 : 0 ≤ B) (hBl : B ≤ l) (hBm : ∀ m, m < M → T.2 m = none → d (24 + m) ≤ B) : zDu N M E fl g T (fun n => p n + zmn2 (- p n - d n) (l - B)) (fun m => q m + (l - B) - zmn2 (l + q m - d (24 + m)) (l - B)) B ∧ (∀ n m, n < N → m < M → fr (24 + m) = some n → -1000000 < d (24 + m) → l + q m - d (24 + m) ≤ l - B → T.1 n ≠ some m ∧ E n m ∧ -1000000 < d n ∧ d (24 + m) = d n + g n m ∧ - p n - d n ≤ l - B ∧ g n m = (p n + zmn2 (- p n - d n) (l - B)) + (q m + (l - B) - zmn2 (l + q m - d (24 + m)) (l - B)) + B) := by
  have hlo := fun x hx hr => zBf_lo hB (x := x) hx hr
  obtain ⟨b1, b2, b3, b4, b5⟩ := hB
  obtain ⟨h0, h1, h2, h3, h4, h5, h6⟩ := hD
  have hdn : ∀ n, n < N → -1000000 ≤ d n ∧ d n ≤ - p n := fun n hn => by
    have := b1 n (by omega)
    rw [zcp_o (by omega)] at this
    exact this
  have hdm : ∀ m, m < M → -1000000 ≤ d (24 + m) ∧ d (24 + m) ≤ l + q m := fun m hm => by
    have := b1 (24 + m) (by omega)
    rw [zcp_n] at this
    exact this
  -- partners stand alike
  have pair : ∀ n m, T.1 n = some m → zmn2 (- p n - d n) (l - B) = zmn2 (l + q m - d (24 + m)) (l - B) := by
    intro n m e
    obtain ⟨n1, m1, -⟩ := hT.1 n m e
    have e4 := h4 n m e
    have p1 := h1 n n1
    have q1 := h2 m m1
    have g1 := hg n m
    by_cases r : -1000000 < d (24 + m)
    · have f1 := hF.2 n m n1 m1 e r
      have f2 := hlo (24 + m) (by omega) r
      have f3 : -1000000 < d n := by omega
      have f4 : d n ≤ d (24 + m) - g n m := by
        rcases b3 n (by omega) f3 with ⟨z, _⟩ | ⟨_, y, y1, y2, y3, y4, y5⟩
        · have z4 := z.2.2.2; rw [e] at z4; cases z4
        · rcases y3 with ⟨a1, a2, _⟩ | ⟨a1, a2, a3, a4, a5⟩
          · omega
          · rw [e] at a5
            cases a5
            unfold zec at y5
            rw [if_neg (by omega)] at y5
            rw [show 24 + (y - 24) = y by omega]
            omega
      rw [show - p n - d n = l + q m - d (24 + m) by omega]
    · have f3 : ¬ -1000000 < d n := fun f3 => by
        rcases b3 n (by omega) f3 with ⟨z, _⟩ | ⟨_, y, y1, y2, y3, y4, y5⟩
        · have z4 := z.2.2.2; rw [e] at z4; cases z4
        · rcases y3 with ⟨a1, a2, _⟩ | ⟨a1, a2, a3, a4, a5⟩
          · omega
          · rw [e] at a5
            cases a5
            rw [show 24 + (y - 24) = y by omega] at r
            exact r y4
      unfold zmn2
      rw [if_neg (by omega), if_neg (by omega)]
  refine ⟨⟨⟨hB0, by omega⟩, fun n hn => ?_, fun m hm => ?_, fun n m hn hm e => ?_, fun n m e => ?_, fun n hn f e => ?_, fun m hm e => ?_⟩, fun n m hn hm e r hDm => ?_⟩
  · have a1 := zmn2_le (- p n - d n) (l - B)
    have a2 := h1 n hn
    have a3 := hdn n hn
    dsimp only
    omega
  · have a1 := zmn2_le (l + q m - d (24 + m)) (l - B)
    have a2 := h2 m hm
    have a3 := hdm m hm
    dsimp only
    omega
  · have a1 := zmn2_le (l + q m - d (24 + m)) (l - B)
    have a2 := zmn2_le (- p n - d n) (l - B)
    have a3 := h3 n m hn hm e
    have a4 := h1 n hn
    have a5 := h2 m hm
    have a6 := hg n m
    dsimp only
    by_cases t : T.1 n = some m
    · have := pair n m t
      omega
    · by_cases r : -1000000 < d n
      · have := hF.1 n m hn hm e t r
        omega
      · have : zmn2 (- p n - d n) (l - B) = l - B := by
          unfold zmn2
          split <;> omega
        omega
  · have := pair n m e
    have := h4 n m e
    dsimp only
    omega
  · have a1 := h5 n hn f e
    have a2 := b5 n (by omega) ⟨by omega, hn, f, e⟩
    dsimp only
    rw [a1, a2]
    unfold zmn2
    rw [if_pos (by omega)]
    rfl
  · have a1 := h6 m hm e
    have a2 := hBm m hm e
    dsimp only
    rw [a1]
    unfold zmn2
    split <;> omega
  · rcases b3 (24 + m) (by omega) r with ⟨z, _⟩ | ⟨_, y, y1, y2, y3, y4, y5⟩
    · have := z.1; omega
    · rw [e] at y2
      cases y2
      rw [zec_o (by omega)] at y5
      obtain ⟨_, _, z3, z4⟩ := (zEg_o (by omega)).mp y3
      have f1 := hF.1 n m hn hm z3 z4 y4
      have a3 := h3 n m hn hm z3
      have ee : d (24 + m) = d n + g n m := by omega
      refine ⟨z4, z3, y4, ee, by omega, ?_⟩
      have e1 : zmn2 (- p n - d n) (l - B) = - p n - d n := if_pos (by omega)
      have e2 : zmn2 (l + q m - d (24 + m)) (l - B) = l + q m - d (24 + m) := if_pos hDm
      rw [e1, e2]
      omega
end
