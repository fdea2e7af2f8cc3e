/-! who is matched with whom: the pure picture, and the class's Identity -/
theorem ze_m1r : (-nI 1 : Int32) = -1 := rfl
def zse {α : Type} (f : Nat → α) (k : Nat) (x : α) : Nat → α := fun a => if a = k then x else f a
def zit {α : Type} (g : Nat → α → α) : Nat → α → α
  | 0, s => s
  | n + 1, s => g n (zit g n s)
abbrev zM : Type := (Nat → Option Nat) × (Nat → Option Nat)
def zlp (v u : zV) (w i j : Nat) : Bool := if w = 1 then decide (vpt v 0 i = vpt u 0 j) && decide (vpt v 1 i = vpt u 1 j) else if w = 2 then decide (vpt v 0 i = vpt u 0 j) else decide (vpt v 1 i = vpt u 1 j)
def zmp (v u : zV) (w i j : Nat) (s : zM) : zM := if s.1 i = none ∧ s.2 j = none ∧ zlp v u w i j = true then (zse s.1 i (some j), zse s.2 j (some i)) else s
def zpr (v u : zV) (w i : Nat) (s : zM) : zM := zit (zmp v u w i) (vP u) s
def zpm (v u : zV) (w : Nat) (s : zM) : zM := zit (zpr v u w) (vP v) s
def zno : zM := (fun _ => none, fun _ => none)
def zpa (v u : zV) : zM := zpm v u 3 (zpm v u 2 (zpm v u 1 zno))
def zpw (v u : zV) : Nat → Nat → Nat → Bool
  | 0, _, _ => true
  | d + 1, i, j => decide (vnd v 0 i = vnd u 0 j) && (match vpar v i, vpar u j with
    | some x, some y => zpw v u d x y
    | _, _ => true)
def zph (v u : zV) (i j : Nat) : Bool := decide (vdep v i = vdep u j) && zpw v u (vdep v i) i j
def zln (v u : zV) (tp : Nat → Option Nat) (w i j : Nat) : Bool := decide (tp (vhom v i) = some (vhom u j)) && decide (vnd v 2 i = -1 ↔ vnd u 2 j = -1) && (if w = 1 then decide (vnd v 1 i = vnd u 1 j) && zph v u i j else if w = 2 then decide (vnd v 1 i = vnd u 1 j) else if w = 3 then zph v u i j else if w = 4 then decide (¬ vnd v 2 i = -1) && decide (vnd v 2 i = vnd u 2 j) && decide (vnd v 0 i = vnd u 0 j) else decide (¬ vnd v 2 i = -1) && decide (vnd v 2 i = vnd u 2 j))
abbrev zMn : Type := zM × (Nat → Nat)
def zmn (v u : zV) (tp : Nat → Option Nat) (w i j : Nat) (s : zMn) : zMn := if s.1.1 i = none ∧ s.1.2 j = none ∧ zln v u tp w i j = true then ((zse s.1.1 i (some j), zse s.1.2 j (some i)), zse s.2 i w) else s
def znr (v u : zV) (tp : Nat → Option Nat) (w i : Nat) (s : zMn) : zMn := zit (zmn v u tp w i) (vN u) s
def znq (v u : zV) (tp : Nat → Option Nat) (w : Nat) (s : zMn) : zMn := zit (znr v u tp w) (vN v) s
def zna (v u : zV) : zMn := znq v u (zpa v u).1 5 (znq v u (zpa v u).1 4 (znq v u (zpa v u).1 3 (znq v u (zpa v u).1 2 (znq v u (zpa v u).1 1 (zno, fun _ => 0)))))
/-- partners are each other's -/
def zmo (n m : Nat) (s : zM) : Prop := (∀ i j, s.1 i = some j → i < n ∧ j < m ∧ s.2 j = some i) ∧ (∀ i j, s.2 j = some i → i < n ∧ j < m ∧ s.1 i = some j)
theorem zse_s {α : Type} {f : Nat → α} {k : Nat} {x : α} : zse f k x k = x := if_pos rfl
theorem zse_n {α : Type} {f : Nat → α} {k a : Nat} {x : α} (h : a ≠ k) : zse f k x a = f a := if_neg h
theorem zit_inv {α : Type} {g : Nat → α → α} {Q : α → Prop} {n : Nat} (h : ∀ i s, i < n → Q s → Q (g i s)) : ∀ k s, k ≤ n → Q s → Q (zit g k s) := by
  intro k
  induction k with
  | zero => intro s _ q; exact q
  | succ k ih => intro s hk q; exact h k _ (by omega) (ih s (by omega) q)
theorem zmo_no (n m : Nat) : zmo n m zno := ⟨fun _ _ h => by simp [zno] at h, fun _ _ h => by simp [zno] at h⟩
theorem zmo_se {n m : Nat} {s : zM} (h : zmo n m s) {i j : Nat} (hi : i < n) (hj : j < m) (h1 : s.1 i = none) (h2 : s.2 j = none) : zmo n m (zse s.1 i (some j), zse s.2 j (some i)) := by
  constructor
  · intro a c e
    simp only [zse] at e ⊢
    by_cases q : a = i
    · subst q
      rw [if_pos rfl] at e
      cases e
      exact ⟨hi, hj, if_pos rfl⟩
    · rw [if_neg q] at e
      obtain ⟨a1, a2, a3⟩ := h.1 a c e
      refine ⟨a1, a2, ?_⟩
      rw [if_neg (fun z => by rw [z, h2] at a3; cases a3)]
      exact a3
  · intro a c e
    simp only [zse] at e ⊢
    by_cases q : c = j
    · subst q
      rw [if_pos rfl] at e
      cases e
      exact ⟨hi, hj, if_pos rfl⟩
    · rw [if_neg q] at e
      obtain ⟨a1, a2, a3⟩ := h.2 a c e
      refine ⟨a1, a2, ?_⟩
      rw [if_neg (fun z => by rw [z, h1] at a3; cases a3)]
      exact a3
theorem zmo_mp {v u : zV} {w i j : Nat} {s : zM} (hi : i < vP v) (hj : j < vP u) (h : zmo (vP v) (vP u) s) : zmo (vP v) (vP u) (zmp v u w i j s) := by
  unfold zmp
  split
  · next q => exact zmo_se h hi hj q.1 q.2.1
  · exact h
theorem zmo_pr {v u : zV} {w i : Nat} {s : zM} (hi : i < vP v) (h : zmo (vP v) (vP u) s) : zmo (vP v) (vP u) (zpr v u w i s) := zit_inv (fun j s hj q => zmo_mp hi hj q) _ _ (Nat.le_refl _) h
theorem zmo_pm {v u : zV} {w : Nat} {s : zM} (h : zmo (vP v) (vP u) s) : zmo (vP v) (vP u) (zpm v u w s) := zit_inv (fun i s hi q => zmo_pr hi q) _ _ (Nat.le_refl _) h
theorem zmo_pa (v u : zV) : zmo (vP v) (vP u) (zpa v u) := zmo_pm (zmo_pm (zmo_pm (zmo_no _ _)))
/-- nodes: partners lie in matched partitions, and are of one kind -/
def zmk (v u : zV) (tp : Nat → Option Nat) (s : zMn) : Prop := zmo (vN v) (vN u) s.1 ∧ (∀ i j, s.1.1 i = some j → tp (vhom v i) = some (vhom u j) ∧ (vnd v 2 i = -1 ↔ vnd u 2 j = -1)) ∧ (∀ i, s.2 i ≤ 5)
theorem zmk_mn {v u : zV} {tp : Nat → Option Nat} {w i j : Nat} {s : zMn} (hi : i < vN v) (hj : j < vN u) (hw : w ≤ 5) (h : zmk v u tp s) : zmk v u tp (zmn v u tp w i j s) := by
  unfold zmn
  split
  · next q =>
    refine ⟨zmo_se h.1 hi hj q.1 q.2.1, ?_, ?_⟩
    · intro a c e
      simp only [zse] at e
      by_cases z : a = i
      · subst z
        rw [if_pos rfl] at e
        cases e
        have := q.2.2
        unfold zln at this
        simp only [Bool.and_eq_true, decide_eq_true_eq] at this
        exact ⟨this.1.1, this.1.2⟩
      · rw [if_neg z] at e
        exact h.2.1 a c e
    · intro a
      simp only [zse]
      split
      · exact hw
      · exact h.2.2 a
  · exact h
theorem zmk_nr {v u : zV} {tp : Nat → Option Nat} {w i : Nat} {s : zMn} (hi : i < vN v) (hw : w ≤ 5) (h : zmk v u tp s) : zmk v u tp (znr v u tp w i s) := zit_inv (fun j s hj q => zmk_mn hi hj hw q) _ _ (Nat.le_refl _) h
theorem zmk_nq {v u : zV} {tp : Nat → Option Nat} {w : Nat} {s : zMn} (hw : w ≤ 5) (h : zmk v u tp s) : zmk v u tp (znq v u tp w s) := zit_inv (fun i s hi q => zmk_nr hi hw q) _ _ (Nat.le_refl _) h
theorem zmk_no (v u : zV) (tp : Nat → Option Nat) : zmk v u tp (zno, fun _ => 0) := ⟨zmo_no _ _, (fun _ _ h => by simp [zno] at h), fun _ => Nat.zero_le _⟩
theorem zmk_na (v u : zV) : zmk v u (zpa v u).1 (zna v u) := zmk_nq (by decide) (zmk_nq (by decide) (zmk_nq (by decide) (zmk_nq (by decide) (zmk_nq (by decide) (zmk_no _ _ _)))))
theorem zmp_nop {v u : zV} {w i j : Nat} {s : zM} (h : s.1 i ≠ none) : zmp v u w i j s = s := if_neg (fun q => h q.1)
theorem zmn_nop {v u : zV} {tp : Nat → Option Nat} {w i j : Nat} {s : zMn} (h : s.1.1 i ≠ none) : zmn v u tp w i j s = s := if_neg (fun q => h q.1)
theorem zit_nop {α : Type} {g : Nat → α → α} {s : α} {j : Nat} (h : ∀ k, g k (zit g j s) = zit g j s) : ∀ m, j ≤ m → zit g m s = zit g j s := by
  intro m
  induction m with
  | zero => intro q; rw [show j = 0 by omega]
  | succ m ih =>
    intro q
    by_cases e : j = m + 1
    · rw [e]
    · show g m (zit g m s) = _
      rw [ih (by omega), h m]
/-- rows of the class's Identity at d -/
def cMp (d : Nat) (s : zM) (A : Nat → Nat → Int32) : Prop := (∀ i, i < 4 → A (d + 1) i = zpI (s.1 i)) ∧ (∀ j, j < 4 → A (d + 2) j = zpI (s.2 j))
def cMn (d : Nat) (s : zMn) (A : Nat → Nat → Int32) : Prop := (∀ i, i < 24 → A (d + 3) i = zpI (s.1.1 i)) ∧ (∀ j, j < 24 → A (d + 4) j = zpI (s.1.2 j)) ∧ (∀ i, i < 24 → A (d + 5) i = nI (s.2 i))
theorem z_ib_45 {b : Nat} (h : z_ib b) : b = 4 ∨ b = 18 ∨ b = 32 := h
theorem z_db_48 {b : Nat} (h : z_db b) : b = 48 ∨ b = 60 := h
theorem cIm_fr {b : Nat} {v : zV} {I A I' A' : Nat → Nat → Int32} (h : cIm b v I A) (hI : I' b = I b) (hA : ∀ j, j < 14 → A' (b + j) = A (b + j)) : cIm b v I' A' := by
  unfold cIm at h ⊢
  rw [hI, hA 1 (by decide), hA 2 (by decide), hA 3 (by decide), hA 4 (by decide), hA 5 (by decide), hA 6 (by decide), hA 7 (by decide), hA 8 (by decide), hA 9 (by decide), hA 10 (by decide)]
  exact h
section
variable {L : Nat} {xs : Nat → Int32} {I : Nat → Nat → Int32} {R : Nat → Nat → Option Nat} {A : Nat → Nat → Int32} {lo : Int64} {dd : UInt64} {Φ : zPo} {b a d : Nat} {v u : zV}
theorem s1_forget {r0 n : Nat} {x : Int32} (hk : z_kind r0 = 10) (hl : z_len r0 = n) (hn : ¬ r0 = 300) (h31 : n < 2 ^ 31) (h : ∀ A' : Nat → Nat → Int32, (∀ c, c ≠ r0 → A' c = A c) → (∀ j, j < n → A' r0 j = x) → Φ (.inl none) (I, R, A', lo, dd) 0) : zC L xs mX1_forget [.ref r0, .int x] (I, R, A, lo, dd) Φ := by
  refine zC_en (vc_X1_forget_0 hk hl hn ?_)
  have key : ∀ i, i ≤ n → ∀ A' : Nat → Nat → Int32, (∀ c, c ≠ r0 → A' c = A c) → (∀ j, j < i → A' r0 j = x) → zW L xs mX1_forget 2 [some (.ref r0), some (.int x), some (.int (nI i))] [] (I, R, A', lo, dd) Φ := by
    refine ze_up ?_ ?_
    · intro A' h1 h2
      refine vc_X1_forget_2 hk hl hn ?_
      rw [hl]
      refine ⟨fun q => absurd q (nI_nlt (Nat.le_refl _) h31), fun _ => h A' h1 h2⟩
    · intro i hi ih A' h1 h2
      refine vc_X1_forget_2 hk hl hn ?_
      rw [hl]
      refine ⟨fun _ => ⟨nI_in hi h31, ?_⟩, fun q => absurd (nI_lt hi h31) q⟩
      rw [nI_1, nI_clamp (by omega)]
      refine ih _ (fun c hc => ?_) (fun j hj => ?_)
      · funext z
        rw [zup_n (fun q => hc q.1)]
        exact congrFun (h1 c hc) z
      · by_cases e : j = i
        · rw [e, zup_s]
        · rw [zup_n (fun q => e q.2)]
          exact h2 j (by omega)
  exact key 0 (Nat.zero_le _) A (fun _ _ => rfl) (fun j q => absurd q (Nat.not_lt_zero _))
theorem s1_matchPartitions (hd : z_db d) (hb : z_ib b) (ha : z_ib a) (hv : cIm b v I A) (hu : cIm a u I A) (hw : vP v ≤ 4) (hw' : vP u ≤ 4) (hRb : R d 0 = some b) (hRa : R d 1 = some a) {w : Nat} (hw3 : 1 ≤ w ∧ w ≤ 3) {s : zM} (hs : cMp d s A) (hm : zmo (vP v) (vP u) s) (h : ∀ A' : Nat → Nat → Int32, (∀ c, c ≠ d + 1 → c ≠ d + 2 → A' c = A c) → cMp d (zpm v u w s) A' → Φ (.inl none) (I, R, A', lo, dd) 0) : zC L xs mX1_matchPartitions [.ref d, .int (nI w)] (I, R, A, lo, dd) Φ := by
  have h45 := z_ib_45 hb
  have h45a := z_ib_45 ha
  have h48 := z_db_48 hd
  refine zC_en (vc_X1_matchPartitions_0 hd ?_)
  have key : ∀ i, i ≤ vP v → ∀ zx, ∀ A' : Nat → Nat → Int32, (∀ c, c ≠ d + 1 → c ≠ d + 2 → A' c = A c) → cMp d (zit (zpr v u w) i s) A' → zW L xs mX1_matchPartitions 2 [some (.ref d), some (.int (nI w)), some (.int (nI i)), zx] [] (I, R, A', lo, dd) Φ := by
    refine ze_up ?_ ?_
    · intro zx A' h1 h2
      obtain ⟨hS, hP, hN, p0, p1, p2, n0, n1, n2, n3, n4, n5, n6⟩ := hv
      refine vc_X1_matchPartitions_2 hd hb hRb ?_
      simp (disch := omega) only [ze_lit, pk_mul, nI_add, nI_clamp, ze_inI, nI_ltI, nI_eq, hP]
      exact ⟨fun q => absurd q (Nat.lt_irrefl _), fun _ => h A' h1 h2⟩
    · intro i hi ih zx A' h1 h2
      have hm2 : zmo (vP v) (vP u) (zit (zpr v u w) i s) := zit_inv (fun k s hk q => zmo_pr hk q) i s (by omega) hm
      generalize hs2 : zit (zpr v u w) i s = s2 at h2 hm2
      have hP : I b 1 = nI (vP v) := hv.2.1
      have hv' : cIm b v I A' := cIm_fr hv rfl (fun j hj => h1 _ (by omega) (by omega))
      have hu' : cIm a u I A' := cIm_fr hu rfl (fun j hj => h1 _ (by omega) (by omega))
      refine vc_X1_matchPartitions_2 hd hb hRb ?_
      simp (disch := omega) only [ze_lit, pk_mul, nI_add, nI_clamp, ze_inI, nI_ltI, nI_eq, hP]
      refine ⟨fun _ => ?_, fun q => absurd hi q⟩
      have key2 : ∀ j, j ≤ vP u → ∀ A' : Nat → Nat → Int32, (∀ c, c ≠ d + 1 → c ≠ d + 2 → A' c = A c) → cMp d (zit (zmp v u w i) j s2) A' → zW L xs mX1_matchPartitions 15 [some (.ref d), some (.int (nI w)), some (.int (nI i)), some (.int (nI j))] [] (I, R, A', lo, dd) Φ := by
        refine ze_up ?_ ?_
        · intro A' h1 h2
          have hP' : I a 1 = nI (vP u) := hu.2.1
          refine vc_X1_matchPartitions_15 hd ha hb hRa hRb ?_
          simp (disch := omega) only [ze_lit, pk_mul, nI_add, nI_clamp, ze_inI, nI_ltI, nI_eq, hP']
          refine ⟨fun q => absurd q (Nat.lt_irrefl _), fun _ => ih _ A' h1 ?_⟩
          show cMp d (zpr v u w i (zit (zpr v u w) i s)) A'
          rw [hs2]
          exact h2
        · intro j hj ih2 A' h1 h2
          have hv' : cIm b v I A' := cIm_fr hv rfl (fun j hj => h1 _ (by omega) (by omega))
          have hu' : cIm a u I A' := cIm_fr hu rfl (fun j hj => h1 _ (by omega) (by omega))
          obtain ⟨hS, hP, hN, p0, p1, p2, n0, n1, n2, n3, n4, n5, n6⟩ := hv'
          obtain ⟨hS', hP', hN', p0', p1', p2', n0', n1', n2', n3', n4', n5', n6'⟩ := hu'
          have hm3 : zmo (vP v) (vP u) (zit (zmp v u w i) j s2) := zit_inv (fun k s hk q => zmo_mp hi hk q) j s2 (by omega) hm2
          generalize hs3 : zit (zmp v u w i) j s2 = s3 at h2 hm3
          have e1 : (zpI (s3.1 i) = -1) ↔ s3.1 i = none := zpI_none (fun k hk => by have := (hm3.1 i k hk).2.1; omega)
          have e2 : (zpI (s3.2 j) = -1) ↔ s3.2 j = none := zpI_none (fun k hk => by have := (hm3.2 k j hk).1; omega)
          refine vc_X1_matchPartitions_15 hd ha hb hRa hRb ?_
          have r1 := h2.1
          have r2 := h2.2
          have hstep : zit (zmp v u w i) (j + 1) s2 = zmp v u w i j s3 := by
            show zmp v u w i j (zit (zmp v u w i) j s2) = _
            rw [hs3]
          have hno : zmp v u w i j s3 = s3 → zW L xs mX1_matchPartitions 15 [some (.ref d), some (.int (nI w)), some (.int (nI i)), some (.int (nI (j + 1)))] [] (I, R, A', lo, dd) Φ := by
            intro e
            refine ih2 A' h1 ?_
            rw [hstep, e]
            exact h2
          have hyes : s3.1 i = none → s3.2 j = none → zlp v u w i j = true → zW L xs mX1_matchPartitions 15 [some (.ref d), some (.int (nI w)), some (.int (nI i)), some (.int (nI (j + 1)))] [] (I, R, z_up (z_up A' (d + 1) i (nI j)) (d + 2) j (nI i), lo, dd) Φ := by
            intro z1 z2 z3
            refine ih2 _ (fun c c1 c2 => ?_) ?_
            · funext z
              rw [zup_n (fun q => c2 q.1), zup_n (fun q => c1 q.1)]
              exact congrFun (h1 c c1 c2) z
            · rw [hstep, zmp, if_pos ⟨z1, z2, z3⟩]
              refine ⟨fun k hk => ?_, fun k hk => ?_⟩
              · show _ = zpI (zse s3.1 i (some j) k)
                rw [zup_n (fun q => by omega)]
                by_cases e : k = i
                · rw [e, zup_s, zse_s]
                  rfl
                · rw [zup_n (fun q => e q.2), zse_n e]
                  exact r1 k hk
              · show _ = zpI (zse s3.2 j (some i) k)
                by_cases e : k = j
                · rw [e, zup_s, zse_s]
                  rfl
                · rw [zup_n (fun q => e q.2), zup_n (fun q => by omega), zse_n e]
                  exact r2 k hk
          simp (disch := omega) only [ze_lit, pk_mul, nI_add, nI_clamp, ze_inI, nI_ltI, nI_eq, hP', r1, r2, p0, p1, p0', p1']
          simp only [ze_m1r, e1, e2]
          refine ⟨fun _ => ⟨by omega, fun q1 => ⟨by omega, fun q2 => ?_, fun q2 => hno (if_neg (fun z => q2 z.2.1))⟩, fun q1 => ih _ A' h1 ?_⟩, fun q => absurd hj q⟩
          · obtain rfl | rfl | rfl : w = 1 ∨ w = 2 ∨ w = 3 := by omega
            all_goals repeat' (first | refine And.intro ?_ ?_ | intro _)
            all_goals first
              | omega
              | (exact hyes q1 q2 (by simp [zlp, *]))
              | (exact hno (if_neg (by simp [zlp, *])))
          · show cMp d (zpr v u w i (zit (zpr v u w) i s)) A'
            rw [hs2]
            have hz : ∀ k, zmp v u w i k (zit (zmp v u w i) j s2) = zit (zmp v u w i) j s2 := fun k => by rw [hs3]; exact zmp_nop q1
            show cMp d (zit (zmp v u w i) (vP u) s2) A'
            rw [zit_nop hz (vP u) (by omega), hs3]
            exact h2
      exact key2 0 (Nat.zero_le _) A' h1 h2
  exact key 0 (Nat.zero_le _) none A (fun _ _ _ => rfl) hs
end
