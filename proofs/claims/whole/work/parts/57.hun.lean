/-! the class's best pairing: prices -/
theorem zk_row : ∀ i, i < 25 → z_kind (75 + (1 + i)) = 10 ∧ z_len (75 + (1 + i)) = 25 := by decide +kernel
def zHm (s : Nat) (x : Nat → Nat → Int) (U V : Nat → Int) (K : zM) (A : Nat → Nat → Int32) : Prop := (∀ i j, 1 ≤ i → i ≤ s → 1 ≤ j → j ≤ s → A (75 + (1 + i)) j = iI (x i j)) ∧ (∀ i, 1 ≤ i → i ≤ s → A 101 i = iI (U i)) ∧ (∀ j, 1 ≤ j → j ≤ s → A 102 j = iI (V j)) ∧ (∀ j, j ≤ s → A 103 j = nI ((K.2 j).getD 0))
def zHb (s : Nat) (x : Nat → Nat → Int) (U V : Nat → Int) : Prop := (∀ i j, 1 ≤ i → i ≤ s → 1 ≤ j → j ≤ s → -198 ≤ x i j ∧ x i j ≤ 0) ∧ (∀ i, 1 ≤ i → i ≤ s → -198 ≤ U i ∧ U i ≤ 0) ∧ (∀ j, 1 ≤ j → j ≤ s → -198 ≤ V j ∧ V j ≤ 0)
def zcur (x : Nat → Nat → Int) (U V : Nat → Int) (r j : Nat) : Int := x r j - U r - V j
def zmi (sl cur : Int) : Int := if cur < sl then cur else sl
theorem zmi_le (a b : Int) : zmi a b ≤ a ∧ zmi a b ≤ b ∧ (zmi a b = a ∨ zmi a b = b) := by
  unfold zmi
  split <;> omega
section
variable {L : Nat} {xs : Nat → Int32} {I : Nat → Nat → Int32} {R : Nat → Nat → Option Nat} {A : Nat → Nat → Int32} {lo : Int64} {dd : UInt64} {Φ : zPo} {s : Nat} {x : Nat → Nat → Int} {U V : Nat → Int} {K : zM} {Q : Nat → Bool} {sl : Nat → Int} {cf : Nat → Nat}
theorem s0_nearestFrom (hs : s ≤ 24) (hI : I 72 4 = nI s) (hm : zHm s x U V K A) (hb : zHb s x U V) {j0 r : Nat} (hj0 : j0 ≤ s) (hr : K.2 j0 = some r) (hr1 : 1 ≤ r ∧ r ≤ s) (hQ : ∀ j, j ≤ s → A 106 j = nI (if Q j then 1 else 0)) (hsl : ∀ j, 1 ≤ j → j ≤ s → Q j = false → A 105 j = iI (sl j) ∧ -10000 ≤ sl j ∧ sl j ≤ 1000000) (hcf : ∀ j, 1 ≤ j → j ≤ s → A 104 j = nI (cf j)) (hfr : ∃ j, 1 ≤ j ∧ j ≤ s ∧ Q j = false) (h : ∀ (A' : Nat → Nat → Int32) b, (∀ c, c ≠ 104 → c ≠ 105 → A' c = A c) → (∀ j, 1 ≤ j → j ≤ s → A' 104 j = nI (if Q j = false ∧ zcur x U V r j < sl j then j0 else cf j)) → (∀ j, 1 ≤ j → j ≤ s → Q j = false → A' 105 j = iI (zmi (sl j) (zcur x U V r j))) → 1 ≤ b → b ≤ s → Q b = false → (∀ j, 1 ≤ j → j ≤ s → Q j = false → zmi (sl b) (zcur x U V r b) ≤ zmi (sl j) (zcur x U V r j)) → Φ (.inl (some (.int (nI b)))) (I, R, A', lo, dd) 0) : zC L xs mX0_nearestFrom [.ref 72, .int (nI j0)] (I, R, A, lo, dd) Φ := by
  obtain ⟨hx, hU, hV⟩ := hb
  have loop : ∀ j, j ≤ s + 1 → 1 ≤ j → ∀ (A' : Nat → Nat → Int32) (b : Nat) (zx : Option Value), (∀ c, c ≠ 104 → c ≠ 105 → A' c = A c) → (∀ k, 1 ≤ k → k ≤ s → A' 104 k = nI (if k < j ∧ Q k = false ∧ zcur x U V r k < sl k then j0 else cf k)) → (∀ k, 1 ≤ k → k ≤ s → Q k = false → A' 105 k = iI (if k < j then zmi (sl k) (zcur x U V r k) else sl k)) → ((b = 0 ∧ ∀ k, 1 ≤ k → k < j → Q k = true) ∨ (1 ≤ b ∧ b < j ∧ b ≤ s ∧ Q b = false ∧ ∀ k, 1 ≤ k → k < j → Q k = false → zmi (sl b) (zcur x U V r b) ≤ zmi (sl k) (zcur x U V r k))) → zW L xs mX0_nearestFrom 12 [some (.ref 72), some (.int (nI j0)), some (.int (nI r)), some (.int (nI b)), some (.int (nI j)), zx] [] (I, R, A', lo, dd) Φ := by
    refine ze_up ?_ ?_
    · intro _ A' b zx fr h4 h5 hbb
      refine vc_X0_nearestFrom_12 ⟨fun _ => ?_, fun z => absurd (by rw [hI]; exact nI_lt (by omega) (by omega)) z⟩
      rcases hbb with ⟨_, hz⟩ | ⟨b1, b2, b3, b4, b5⟩
      · obtain ⟨j, j1, j2, j3⟩ := hfr
        rw [hz j j1 (by omega)] at j3
        cases j3
      · refine h A' b fr (fun j j1 j2 => ?_) (fun j j1 j2 j3 => ?_) b1 b3 b4 (fun j j1 j2 j3 => b5 j j1 (by omega) j3)
        · rw [h4 j j1 j2]
          congr 1
          by_cases q : Q j = false ∧ zcur x U V r j < sl j
          · rw [if_pos q, if_pos ⟨by omega, q.1, q.2⟩]
          · rw [if_neg q, if_neg (fun z => q z.2)]
        · rw [h5 j j1 j2 j3, if_pos (by omega)]
    · intro j hj ih hj1 A' b zx fr h4 h5 hbb
      have hj2 : j ≤ s := by omega
      have hQj : A' 106 j = nI (if Q j then 1 else 0) := by rw [fr 106 (by decide) (by decide)]; exact hQ j hj2
      have hbs : b ≤ s := by rcases hbb with z | z <;> omega
      obtain ⟨zk1, zk2⟩ := zk_row r (by omega)
      refine vc_X0_nearestFrom_12 ⟨fun z => absurd z (by rw [hI]; exact nI_nlt (by omega) (by omega)), fun _ => ?_⟩
      rw [nI_clamp (by omega), nI_clamp (by omega), nI_clamp (by omega), nI_1, hQj]
      refine ⟨nI_in (by omega) (by omega), fun q => ?_, fun q => ?_⟩
      · have hq : Q j = false := by
          cases e : Q j with
          | false => rfl
          | true => rw [e] at q; exact absurd q (by decide)
        rw [zk1, zk2]
        refine ⟨nI_in (by omega) (by omega), rfl, nI_in (by omega) (by omega), nI_in (by omega) (by omega), nI_in (by omega) (by omega), nI_in (by omega) (by omega), ?_⟩
        have e1 : A' (75 + (1 + r)) j = iI (x r j) := by rw [fr _ (by omega) (by omega)]; exact hm.1 r j hr1.1 hr1.2 hj1 hj2
        have e2 : A' 101 r = iI (U r) := by rw [fr _ (by decide) (by decide)]; exact hm.2.1 r hr1.1 hr1.2
        have e3 : A' 102 j = iI (V j) := by rw [fr _ (by decide) (by decide)]; exact hm.2.2.1 j hj1 hj2
        have ec : (A' (75 + (1 + r)) j - A' 101 r) - A' 102 j = iI (zcur x U V r j) := by rw [e1, e2, e3, iI_sub, iI_sub]; rfl
        have hcb : -198 ≤ zcur x U V r j ∧ zcur x U V r j ≤ 396 := by
          have a1 := hx r j hr1.1 hr1.2 hj1 hj2
          have a2 := hU r hr1.1 hr1.2
          have a3 := hV j hj1 hj2
          unfold zcur
          omega
        have es := h5 j hj1 hj2 hq
        rw [if_neg (by omega)] at es
        have hslj := (hsl j hj1 hj2 hq).2
        rw [ec, es, iI_lt ⟨by omega, by omega⟩ ⟨by omega, by omega⟩]
        -- what the next column finds
        have nxt : ∀ (A2 : Nat → Nat → Int32) (b2 : Nat) (zx2 : Option Value), (∀ c, c ≠ 104 → c ≠ 105 → A2 c = A' c) → A2 104 j = nI (if zcur x U V r j < sl j then j0 else cf j) → A2 105 j = iI (zmi (sl j) (zcur x U V r j)) → (∀ k, k ≠ j → A2 104 k = A' 104 k ∧ A2 105 k = A' 105 k) → ((b2 = j ∧ (b = 0 ∨ zmi (sl j) (zcur x U V r j) ≤ zmi (sl b) (zcur x U V r b))) ∨ (b2 = b ∧ b ≠ 0 ∧ zmi (sl b) (zcur x U V r b) ≤ zmi (sl j) (zcur x U V r j))) → zW L xs mX0_nearestFrom 12 [some (.ref 72), some (.int (nI j0)), some (.int (nI r)), some (.int (nI b2)), some (.int (nI (j + 1))), zx2] [] (I, R, A2, lo, dd) Φ := by
          intro A2 b2 zx2 f2 g4 g5 gk gb
          refine ih (by omega) A2 b2 zx2 (fun c c1 c2 => by rw [f2 c c1 c2, fr c c1 c2]) (fun k k1 k2 => ?_) (fun k k1 k2 k3 => ?_) ?_
          · by_cases e : k = j
            · rw [e, g4]
              congr 1
              by_cases y : zcur x U V r j < sl j
              · rw [if_pos y, if_pos ⟨by omega, hq, y⟩]
              · rw [if_neg y, if_neg (fun z => y z.2.2)]
            · rw [(gk k e).1, h4 k k1 k2]
              congr 1
              by_cases y : k < j ∧ Q k = false ∧ zcur x U V r k < sl k
              · rw [if_pos y, if_pos ⟨by omega, y.2⟩]
              · rw [if_neg y, if_neg (fun z => y ⟨by omega, z.2⟩)]
          · by_cases e : k = j
            · rw [e, g5, if_pos (by omega)]
            · rw [(gk k e).2, h5 k k1 k2 k3]
              congr 1
              by_cases y : k < j
              · rw [if_pos y, if_pos (by omega)]
              · rw [if_neg y, if_neg (by omega)]
          · refine Or.inr ?_
            rcases gb with ⟨rfl, gb⟩ | ⟨rfl, gb1, gb2⟩
            · refine ⟨hj1, by omega, hj2, hq, fun k k1 k2 k3 => ?_⟩
              by_cases e : k = b2
              · rw [e]; exact Int.le_refl _
              · rcases hbb with ⟨_, hz⟩ | ⟨b1, _, _, _, b5⟩
                · rw [hz k k1 (by omega)] at k3
                  cases k3
                · have := b5 k k1 (by omega) k3
                  rcases gb with gb | gb
                  · omega
                  · omega
            · rcases hbb with ⟨hz, _⟩ | ⟨b1, b2', b3, b4, b5⟩
              · exact absurd hz gb1
              · refine ⟨b1, by omega, b3, b4, fun k k1 k2 k3 => ?_⟩
                by_cases e : k = j
                · rw [e]; exact gb2
                · exact b5 k k1 (by omega) k3
        have hb5 : b ≠ 0 → A' 105 b = iI (zmi (sl b) (zcur x U V r b)) ∧ -198 ≤ zcur x U V r b ∧ zcur x U V r b ≤ 396 ∧ -10000 ≤ sl b ∧ sl b ≤ 1000000 ∧ b ≠ j := by
          intro hb0
          rcases hbb with ⟨hz, _⟩ | ⟨b1, b2, b3, b4, b5⟩
          · exact absurd hz hb0
          · have a1 := hx r b hr1.1 hr1.2 b1 b3
            have a2 := hU r hr1.1 hr1.2
            have a3 := hV b b1 b3
            have a4 := (hsl b b1 b3 b4).2
            refine ⟨by rw [h5 b b1 b3 b4, if_pos b2], ?_, ?_, a4.1, a4.2, by omega⟩
            · unfold zcur; omega
            · unfold zcur; omega
        have hb0 : ∀ {P : Prop}, (nI b : Int32) = 0 → (b = 0 → P) → P := fun e f => f ((nI_eq (b := 0) (by omega) (by decide)).mp e)
        have hb1 : ∀ {P : Prop}, ¬ (nI b : Int32) = 0 → (b ≠ 0 → P) → P := fun e f => f (fun z => e (by rw [z]; rfl))
        have hzj := zmi_le (sl j) (zcur x U V r j)
        have hzb := zmi_le (sl b) (zcur x U V r b)
        refine ⟨fun y => ?_, fun y => ?_⟩
        · have hz : zmi (sl j) (zcur x U V r j) = zcur x U V r j := if_pos y
          have U4 : ∀ (zx2 : Option Value) (b2 : Nat), ((b2 = j ∧ (b = 0 ∨ zmi (sl j) (zcur x U V r j) ≤ zmi (sl b) (zcur x U V r b))) ∨ (b2 = b ∧ b ≠ 0 ∧ zmi (sl b) (zcur x U V r b) ≤ zmi (sl j) (zcur x U V r j))) → zW L xs mX0_nearestFrom 12 [some (.ref 72), some (.int (nI j0)), some (.int (nI r)), some (.int (nI b2)), some (.int (nI (j + 1))), zx2] [] (I, R, z_up (z_up A' 105 j (iI (zcur x U V r j))) 104 j (nI j0), lo, dd) Φ := fun zx2 b2 gb => nxt _ b2 zx2 (fun c c1 c2 => by funext k; rw [zup_n (fun z => c1 z.1), zup_n (fun z => c2 z.1)]) (by rw [zup_s, if_pos y]) (by rw [zup_n (by omega), zup_s, hz]) (fun k hk => ⟨by rw [zup_n (by omega), zup_n (by omega)], by rw [zup_n (by omega), zup_n (by omega)]⟩) gb
          refine ⟨nI_in (by omega) (by omega), nI_in (by omega) (by omega), fun e => hb0 e (fun e => U4 _ j (Or.inl ⟨rfl, Or.inl e⟩)), fun e => hb1 e (fun e => ⟨nI_in (by omega) (by omega), nI_in (by omega) (by omega), ?_⟩)⟩
          obtain ⟨c1, c2, c3, c4, c5, c6⟩ := hb5 e
          rw [show z_up (z_up A' 105 j (iI (zcur x U V r j))) 104 j (nI j0) 105 j = iI (zcur x U V r j) by rw [zup_n (by omega), zup_s], show z_up (z_up A' 105 j (iI (zcur x U V r j))) 104 j (nI j0) 105 b = iI (zmi (sl b) (zcur x U V r b)) by rw [zup_n (by omega), zup_n (by omega)]; exact c1, iI_lt ⟨by omega, by omega⟩ ⟨by omega, by omega⟩]
          exact ⟨fun w => U4 _ j (Or.inl ⟨rfl, Or.inr (by omega)⟩), fun w => U4 _ b (Or.inr ⟨rfl, e, by omega⟩)⟩
        · have hz : zmi (sl j) (zcur x U V r j) = sl j := if_neg y
          have h4j := h4 j hj1 hj2
          rw [if_neg (fun z => absurd z.1 (by omega))] at h4j
          have U4 : ∀ (zx2 : Option Value) (b2 : Nat), ((b2 = j ∧ (b = 0 ∨ zmi (sl j) (zcur x U V r j) ≤ zmi (sl b) (zcur x U V r b))) ∨ (b2 = b ∧ b ≠ 0 ∧ zmi (sl b) (zcur x U V r b) ≤ zmi (sl j) (zcur x U V r j))) → zW L xs mX0_nearestFrom 12 [some (.ref 72), some (.int (nI j0)), some (.int (nI r)), some (.int (nI b2)), some (.int (nI (j + 1))), zx2] [] (I, R, A', lo, dd) Φ := fun zx2 b2 gb => nxt _ b2 zx2 (fun _ _ _ => rfl) (by rw [if_neg y]; exact h4j) (by rw [hz]; exact es) (fun k hk => ⟨rfl, rfl⟩) gb
          refine ⟨fun e => hb0 e (fun e => U4 _ j (Or.inl ⟨rfl, Or.inl e⟩)), fun e => hb1 e (fun e => ⟨nI_in (by omega) (by omega), nI_in (by omega) (by omega), ?_⟩)⟩
          obtain ⟨c1, c2, c3, c4, c5, c6⟩ := hb5 e
          rw [c1, iI_lt ⟨by omega, by omega⟩ ⟨by omega, by omega⟩]
          exact ⟨fun w => U4 _ j (Or.inl ⟨rfl, Or.inr (by omega)⟩), fun w => U4 _ b (Or.inr ⟨rfl, e, by omega⟩)⟩
      · have hq : Q j = true := by
          cases e : Q j with
          | true => rfl
          | false => rw [e] at q; exact absurd rfl q
        refine ih (by omega) A' b zx fr (fun k k1 k2 => ?_) (fun k k1 k2 k3 => ?_) ?_
        · rw [h4 k k1 k2]
          congr 1
          by_cases y : k < j ∧ Q k = false ∧ zcur x U V r k < sl k
          · rw [if_pos y, if_pos ⟨by omega, y.2⟩]
          · rw [if_neg y, if_neg (fun z => y ⟨Nat.lt_of_le_of_ne (by omega) (fun e => by rw [e, hq] at z; cases z.2.1), z.2⟩)]
        · rw [h5 k k1 k2 k3]
          have hne : k ≠ j := fun e => by rw [e, hq] at k3; cases k3
          congr 1
          by_cases y : k < j
          · rw [if_pos y, if_pos (by omega)]
          · rw [if_neg y, if_neg (by omega)]
        · rcases hbb with ⟨b1, b2⟩ | ⟨b1, b2, b3, b4, b5⟩
          · refine Or.inl ⟨b1, fun k k1 k2 => ?_⟩
            by_cases e : k = j
            · rw [e]; exact hq
            · exact b2 k k1 (by omega)
          · refine Or.inr ⟨b1, by omega, b3, b4, fun k k1 k2 k3 => b5 k k1 ?_ k3⟩
            exact Nat.lt_of_le_of_ne (by omega) (fun e => by rw [e, hq] at k3; cases k3)
  refine zC_en (vc_X0_nearestFrom_0 ⟨nI_in (by omega) (by omega), ?_⟩)
  rw [nI_clamp (by omega), hm.2.2.2 j0 hj0, hr]
  refine loop 1 (by omega) (Nat.le_refl _) A 0 none (fun _ _ _ => rfl) (fun k k1 k2 => ?_) (fun k k1 k2 k3 => ?_) (Or.inl ⟨rfl, fun k k1 k2 => by omega⟩)
  · rw [if_neg (fun z => by omega)]
    exact hcf k k1 k2
  · rw [if_neg (by omega)]
    exact (hsl k k1 k2 k3).1
end
