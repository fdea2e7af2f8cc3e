/-! the class's file costs -/
theorem zEn_fa {b a : Nat} {v u : zV} {sp : zM} {sn : zMn} {I A I' A' : Nat → Nat → Int32} (hb : z_ib b) (ha : z_ib a) (h : zEn b a 48 v u sp sn I A) (hI : ∀ c, c ≠ 72 → I' c = I c) (hA : ∀ c, c ≤ 53 → A' c = A c) : zEn b a 48 v u sp sn I' A' := by
  have h45 := z_ib_45 hb
  have h45a := z_ib_45 ha
  obtain ⟨h1, h2, ⟨h3, h4⟩, h5, h6, h7⟩ := h
  exact ⟨cIm_fr h1 (hI _ (by omega)) (fun j hj => hA _ (by omega)), cIm_fr h2 (hI _ (by omega)) (fun j hj => hA _ (by omega)), ⟨fun i hi => by rw [hA _ (by omega)]; exact h3 i hi, fun i hi => by rw [hA _ (by omega)]; exact h4 i hi⟩, fun i hi => by rw [hA _ (by omega)]; exact h5 i hi, fun i hi => by rw [hA _ (by omega)]; exact h6 i hi, fun i hi => by rw [hA _ (by omega)]; exact h7 i hi⟩
def zFo (v : zV) (sp : zM) : zM := zfp (zfo v sp.1) (vN v)
def zFw (u : zV) : zM := zfp (zfw u) (vN u)
def zrc (v : zV) (sp : zM) : Nat := zcnt (zfo v sp.1) (vN v)
def zcc (u : zV) : Nat := zcnt (zfw u) (vN u)
def zsd (v u : zV) (sp : zM) : Nat := max (zrc v sp) (zcc u)
theorem zsd_le {v u : zV} {sp : zM} (hwf : zwf v) (hwu : zwf u) : zsd v u sp ≤ 24 := by
  have := zcnt_le (zfo v sp.1) (vN v)
  have := zcnt_le (zfw u) (vN u)
  have := hwf.2.1
  have := hwu.2.1
  unfold zsd zrc zcc
  omega
/-- what the pair of row i and column j costs more than both apart, if less -/
def zex (v u : zV) (sp : zM) (sn : zMn) (co : Nat → Nat) (i j : Nat) : Int := match (zFo v sp).1 i, (zFw u).1 j with
  | some n, some m => if sp.1 (vhom v n) = some (vhom u m) then (if 0 < - zgain v u sp sn co n m then 0 else - zgain v u sp sn co n m) else 0
  | _, _ => 0
theorem zex_n1 {v u : zV} {sp : zM} {sn : zMn} {co : Nat → Nat} {i j : Nat} (h : (zFo v sp).1 i = none) : zex v u sp sn co i j = 0 := by unfold zex; rw [h]
theorem zex_n2 {v u : zV} {sp : zM} {sn : zMn} {co : Nat → Nat} {i j : Nat} (h : (zFw u).1 j = none) : zex v u sp sn co i j = 0 := by
  unfold zex
  rw [h]
  cases (zFo v sp).1 i <;> rfl
theorem zex_s {v u : zV} {sp : zM} {sn : zMn} {co : Nat → Nat} {i j n m : Nat} (h1 : (zFo v sp).1 i = some n) (h2 : (zFw u).1 j = some m) : zex v u sp sn co i j = if sp.1 (vhom v n) = some (vhom u m) then (if 0 < - zgain v u sp sn co n m then 0 else - zgain v u sp sn co n m) else 0 := by unfold zex; rw [h1, h2]
theorem zex_b {v u : zV} {sp : zM} {sn : zMn} {co : Nat → Nat} (hc : ∀ k, k < 11 → co k ≤ 99) (i j : Nat) : -198 ≤ zex v u sp sn co i j ∧ zex v u sp sn co i j ≤ 0 := by
  unfold zex
  split
  · next n m _ _ =>
    have := zgain_b (v := v) (u := u) (sp := sp) (sn := sn) (i := n) (j := m) hc
    split
    · split <;> omega
    · omega
  · omega
section
variable {L : Nat} {xs : Nat → Int32} {I : Nat → Nat → Int32} {R : Nat → Nat → Option Nat} {A : Nat → Nat → Int32} {lo : Int64} {dd : UInt64} {Φ : zPo} {b a : Nat} {v u : zV} {sp : zM} {sn : zMn} {co : Nat → Nat}
theorem s0_fillExtra (hb : z_ib b) (ha : z_ib a) (hRb : R 48 0 = some b) (hRa : R 48 1 = some a) (hE : zEn b a 48 v u sp sn I A) (hwf : zwf v) (hwu : zwf u) (hmp : zmo (vP v) (vP u) sp) (hm : zmo (vN v) (vN u) sn.1) (hc : cCo co A) (h2 : I 72 2 = nI (zrc v sp)) (h3 : I 72 3 = nI (zcc u)) (h4 : I 72 4 = nI (zsd v u sp)) (g73 : ∀ n, n < vN v → zfo v sp.1 n = true → A 73 (zcnt (zfo v sp.1) n + 1) = nI n) (g74 : ∀ m, m < vN u → zfw u m = true → A 74 (zcnt (zfw u) m + 1) = nI m) (h : ∀ A' : Nat → Nat → Int32, (∀ c, ¬ (76 ≤ c ∧ c ≤ 100) → A' c = A c) → (∀ i j, 1 ≤ i → i ≤ zsd v u sp → 1 ≤ j → j ≤ zsd v u sp → A' (75 + (1 + i)) j = iI (zex v u sp sn co i j)) → Φ (.inl none) (I, R, A', lo, dd) 0) : zC L xs mX0_fillExtra [.ref 72, .ref 48, .ref 47] (I, R, A, lo, dd) Φ := by
  have h45 := z_ib_45 hb
  have h45a := z_ib_45 ha
  have hs := zsd_le (sp := sp) hwf hwu
  have hr : zrc v sp ≤ zsd v u sp := by unfold zsd; omega
  have hcs : zcc u ≤ zsd v u sp := by unfold zsd; omega
  have w1 := hwf.1
  have w2 := hwf.2.1
  have w3 := hwu.2.1
  have w4 := hwu.1
  generalize hsd : zsd v u sp = s at *
  have hx3 : A 47 9 + A 47 4 = nI (co 9 + co 4) := by rw [(hc 9 (by omega)).1, (hc 4 (by omega)).1, nI_add]
  refine zC_en (vc_X0_fillExtra_0 ?_)
  rw [hx3]
  have outer : ∀ i, i ≤ s + 1 → 1 ≤ i → ∀ (A' : Nat → Nat → Int32) (zx zy : Option Value), (∀ c, ¬ (76 ≤ c ∧ c ≤ 100) → A' c = A c) → (∀ i' j', 1 ≤ i' → i' < i → 1 ≤ j' → j' ≤ s → A' (75 + (1 + i')) j' = iI (zex v u sp sn co i' j')) → zW L xs mX0_fillExtra 12 [some (.ref 72), some (.ref 48), some (.ref 47), some (.int (nI (co 9 + co 4))), some (.int (nI i)), zx, zy] [] (I, R, A', lo, dd) Φ := by
    refine ze_up ?_ ?_
    · intro _ A' zx zy fr g
      exact vc_X0_fillExtra_12 ⟨fun _ => h A' fr (fun i j i1 i2 j1 j2 => g i j i1 (by omega) j1 j2), fun z => absurd (by rw [h4]; exact nI_lt (by omega) (by omega)) z⟩
    · intro i hi ihi i1 A' zx zy fr g
      obtain ⟨zk1, zk2⟩ := zk_row i (by omega)
      have inner : ∀ j, j ≤ s + 1 → 1 ≤ j → ∀ (A' : Nat → Nat → Int32) (zy : Option Value), (∀ c, ¬ (76 ≤ c ∧ c ≤ 100) → A' c = A c) → (∀ i' j', 1 ≤ i' → i' ≤ i → 1 ≤ j' → j' ≤ s → (i' < i ∨ j' < j) → A' (75 + (1 + i')) j' = iI (zex v u sp sn co i' j')) → zW L xs mX0_fillExtra 24 [some (.ref 72), some (.ref 48), some (.ref 47), some (.int (nI (co 9 + co 4))), some (.int (nI i)), some (.int (nI j)), zy] [] (I, R, A', lo, dd) Φ := by
        refine ze_up ?_ ?_
        · intro _ A' zy fr g
          refine vc_X0_fillExtra_24 hb ha hRb hRa ⟨fun _ => ?_, fun z => absurd (by rw [h4]; exact nI_lt (by omega) (by omega)) z⟩
          rw [nI_1]
          exact ihi (by omega) A' _ _ fr (fun i' j' q1 q2 q3 q4 => g i' j' q1 (by omega) q3 q4 (Or.inr (by omega)))
        · intro j hj ihj j1 A' zy fr g
          -- one place is written
          have put : ∀ (A2 : Nat → Nat → Int32) (y : Int32) (zy : Option Value), (∀ c k, ¬ (c = 75 + (1 + i) ∧ k = j) → A2 c k = A' c k) → A2 (75 + (1 + i)) j = iI (zex v u sp sn co i j) → zW L xs mX0_fillExtra 24 [some (.ref 72), some (.ref 48), some (.ref 47), some (.int (nI (co 9 + co 4))), some (.int (nI i)), some (.int (nI (j + 1))), zy] [] (I, R, A2, lo, dd) Φ := by
            intro A2 y zy f2 e2
            refine ihj (by omega) A2 zy (fun c hc => by rw [← fr c hc]; funext k; exact f2 c k (by omega)) (fun i' j' q1 q2 q3 q4 q5 => ?_)
            by_cases z : i' = i ∧ j' = j
            · rw [z.1, z.2]; exact e2
            · rw [f2 _ _ (by omega)]
              exact g i' j' q1 q2 q3 q4 (by omega)
          refine vc_X0_fillExtra_24 hb ha hRb hRa ⟨fun z => absurd z (by rw [h4]; exact nI_nlt (by omega) (by omega)), fun _ => ?_⟩
          rw [nI_clamp (by omega), nI_clamp (by omega), zk1, zk2, h2, h3, nI_1]
          have f0 : ∀ c k, ¬ (c = 75 + (1 + i) ∧ k = j) → z_up A' (75 + (1 + i)) j 0 c k = A' c k := fun c k hk => zup_n hk
          have f00 : z_up A' (75 + (1 + i)) j 0 (75 + (1 + i)) j = iI 0 := zup_s
          generalize z_up A' (75 + (1 + i)) j 0 = A0 at *
          refine ⟨nI_in (by omega) (by omega), rfl, nI_in (by omega) (by omega), fun q => put A0 0 _ f0 ?_, fun q => ⟨fun q2 => put A0 0 _ f0 ?_, fun q2 => ⟨nI_in (by omega) (by omega), nI_in (by omega) (by omega), ?_⟩⟩⟩
          · have q' : zrc v sp < i := (nI_ltI (by omega) (by omega)).mp q
            rw [zex_n1 (zfp_no q')]
            exact f00
          · have q' : zcc u < j := (nI_ltI (by omega) (by omega)).mp q2
            rw [zex_n2 (zfp_no q')]
            exact f00
          · have q' : i ≤ zrc v sp := Nat.le_of_not_lt (fun z => q (nI_lt z (by omega)))
            have q2' : j ≤ zcc u := Nat.le_of_not_lt (fun z => q2 (nI_lt z (by omega)))
            obtain ⟨n, n1, n2, n3, n4⟩ := zfp_le i1 q'
            obtain ⟨m, m1, m2, m3, m4⟩ := zfp_le j1 q2'
            have hz := zex_s (v := v) (u := u) (sn := sn) (co := co) (show (zFo v sp).1 i = some n from n1) (show (zFw u).1 j = some m from m1)
            have F0 : ∀ c, ¬ (76 ≤ c ∧ c ≤ 100) → A0 c = A c := fun c hc => by rw [← fr c hc]; funext k; exact f0 c k (by omega)
            have hE0 := zEn_fa hb ha hE (I' := I) (A' := A0) (fun _ _ => rfl) (fun c hc => F0 c (by omega))
            have e73 : A0 73 i = nI n := by rw [F0 73 (by decide), ← n4]; exact g73 n n2 n3
            have e74 : A0 74 j = nI m := by rw [F0 74 (by decide), ← m4]; exact g74 m m2 m3
            have hhn := hwf.2.2.1 n n2
            have hhm := hwu.2.2.1 m m2
            have e9 : A0 (b + 9) n = nI (vhom v n) := hE0.1.2.2.2.2.2.2.2.2.2.2.2.1 n n2
            have e9' : A0 (a + 9) m = nI (vhom u m) := hE0.2.1.2.2.2.2.2.2.2.2.2.2.2.1 m m2
            have e49 : A0 49 (vhom v n) = zpI (sp.1 (vhom v n)) := hE0.2.2.1.1 _ (by omega)
            rw [e73, nI_clamp (by omega), e74, nI_clamp (by omega), e9, nI_clamp (by omega), e9', e49]
            have hpl : ∀ k, sp.1 (vhom v n) = some k → k < 2 ^ 31 := fun k hk => by have := (hmp.1 _ _ hk).2.1; omega
            have hiff : zpI (sp.1 (vhom v n)) = nI (vhom u m) ↔ sp.1 (vhom v n) = some (vhom u m) := by
              have := zpI_inj (q := some (vhom u m)) hpl (fun k hk => by cases hk; omega)
              exact this
            rw [hiff]
            refine ⟨nI_in (by omega) (by omega), nI_in (by omega) (by omega), nI_in (by omega) (by omega), fun y => ⟨nI_in (by omega) (by omega), nI_in (by omega) (by omega), ?_⟩, fun y => put A0 0 _ f0 (by rw [hz, if_neg y]; exact f00)⟩
            refine s0_pairCost hb ha hRb hRa hE0 hwf hwu hmp hm (fun k hk => by rw [F0 47 (by decide)]; exact hc k hk) n2 m2 (zk_r (vc_X0_fillExtra_102 ?_))
            rw [nI_clamp (by omega), nI_clamp (by omega), zk1, zk2, nI_1]
            refine ⟨nI_in (by omega) (by omega), rfl, nI_in (by omega) (by omega), put _ 0 _ (fun c k hk => by rw [zup_n hk]; exact f0 c k hk) ?_⟩
            have hg := zgain_b (v := v) (u := u) (sp := sp) (sn := sn) (i := n) (j := m) (fun k hk => (hc k hk).2)
            have e : nI (zpc v u sp sn co n m) - nI (co 9 + co 4) = iI (- zgain v u sp sn co n m) := by
              rw [iI_n, iI_n, iI_sub]
              unfold zgain
              congr 1
              omega
            rw [zup_s, hz, if_pos y, e]
            have hlt : ((0 : Int32) < iI (- zgain v u sp sn co n m)) ↔ 0 < - zgain v u sp sn co n m := iI_lt (a := 0) ⟨by decide, by decide⟩ ⟨by omega, by omega⟩
            by_cases w : 0 < - zgain v u sp sn co n m
            · rw [if_pos w, if_pos (hlt.mpr w)]; rfl
            · rw [if_neg w, if_neg (fun z => w (hlt.mp z))]
      refine vc_X0_fillExtra_12 ⟨fun z => absurd z (by rw [h4]; exact nI_nlt (by omega) (by omega)), fun _ => ?_⟩
      exact inner 1 (by omega) (Nat.le_refl _) A' _ fr (fun i' j' q1 q2 q3 q4 q5 => g i' j' q1 (by omega) q3 q4)
  exact outer 1 (by omega) (Nat.le_refl _) A none none (fun _ _ => rfl) (fun i' j' q1 q2 => by omega)
/-- all apart -/
def zap (v u : zV) (sp : zM) (co : Nat → Nat) : Int := ((zrc v sp * co 9 + zcc u * co 4 : Nat) : Int)
theorem s0_leastCost (hb : z_ib b) (ha : z_ib a) (hRb : R 48 0 = some b) (hRa : R 48 1 = some a) (hE : zEn b a 48 v u sp sn I A) (hwf : zwf v) (hwu : zwf u) (hmp : zmo (vP v) (vP u) sp) (hm : zmo (vN v) (vN u) sn.1) (hc : cCo co A) (h : ∀ (I' A' : Nat → Nat → Int32) (K : zM) (U V : Nat → Int), (∀ c, c ≠ 72 → I' c = I c) → (∀ c, ¬ (73 ≤ c ∧ c ≤ 106) → A' c = A c) → zHq (zsd v u sp) (zsd v u sp) (zex v u sp sn co) K U V → Φ (.inl (some (.int (iI (zap v u sp co + zsm (fun j => zwo (fun i => zex v u sp sn co i j) (K.2 j)) (zsd v u sp + 1)))))) (I', R, A', lo, dd) 0) : zC L xs mX0_leastCost [.ref 72, .ref 48, .ref 47] (I, R, A, lo, dd) Φ := by
  have hs := zsd_le (sp := sp) hwf hwu
  have hco : ∀ k, k < 11 → co k ≤ 99 := fun k hk => (hc k hk).2
  refine zC_en (vc_X0_leastCost_0 (s0_listFiles hb ha hRb hRa hE hwf hwu hmp (fun I1 A1 f1 a1 g2 g3 g4 g73 g74 => zk_r (vc_X0_leastCost_5 ?_))))
  have hE1 := zEn_fa hb ha hE f1 (fun c hc => a1 c (by omega) (by omega))
  have hc1 : cCo co A1 := fun k hk => by rw [a1 47 (by decide) (by decide)]; exact hc k hk
  refine s0_fillExtra hb ha hRb hRa hE1 hwf hwu hmp hm hc1 g2 g3 g4 g73 g74 (fun A2 a2 gx => zk_r (vc_X0_leastCost_11 ?_))
  refine s0_assignAll hs g4 gx (fun i j _ _ _ _ => zex_b hco i j) (fun A3 K U V a3 hq g103 => zk_r (vc_X0_leastCost_15 ?_))
  have hA : ∀ c, ¬ (73 ≤ c ∧ c ≤ 106) → A3 c = A c := fun c hc => by rw [a3 c (by omega), a2 c (by omega), a1 c (by omega) (by omega)]
  have hz := h I1 A3 K U V f1 hA hq
  have gx3 : ∀ i j, 1 ≤ i → i ≤ zsd v u sp → 1 ≤ j → j ≤ zsd v u sp → A3 (75 + (1 + i)) j = iI (zex v u sp sn co i j) := fun i j i1 i2 j1 j2 => by rw [a3 _ (by omega)]; exact gx i j i1 i2 j1 j2
  rw [show A3 47 9 = nI (co 9) by rw [hA 47 (by decide)]; exact (hc 9 (by omega)).1, show A3 47 4 = nI (co 4) by rw [hA 47 (by decide)]; exact (hc 4 (by omega)).1, g2, g3]
  have e0 : nI (zcnt (zfo v sp.1) (vN v)) * nI (co 9) + nI (zcnt (zfw u) (vN u)) * nI (co 4) = iI (zap v u sp co) := by
    rw [pk_mul, pk_mul, nI_add, iI_n]
    rfl
  rw [e0]
  have g4' : I1 72 4 = nI (zsd v u sp) := g4
  generalize zsd v u sp = s at *
  have hK2 : ∀ j, 1 ≤ j → j ≤ s → ∃ i, K.2 j = some i ∧ 1 ≤ i ∧ i ≤ s := by
    intro j j1 j2
    cases e : K.2 j with
    | some i =>
      have := (hq.2.1 i).mp (by rw [(hq.1.2 i j e).2.2]; exact fun z => by cases z)
      exact ⟨i, rfl, this⟩
    | none =>
      have h1 : zcnt (fun k => (K.1 k).isSome) (s + 1) = s := by
        rw [zcnt_cong (q := fun k => decide (1 ≤ k) && decide (k ≤ s)) (fun i _ => ?_), zcnt_lo]
        · omega
        · have := hq.2.1 i
          cases e : K.1 i with
          | none =>
            rw [e] at this
            have h2 : ¬ (1 ≤ i ∧ i ≤ s) := fun z => this.mpr z rfl
            show false = _
            rw [← Bool.decide_and, decide_eq_false h2]
          | some c =>
            rw [e] at this
            have h2 := this.mp (fun z => by cases z)
            show true = _
            rw [← Bool.decide_and, decide_eq_true h2]
      rw [zcnt_mo hq.1] at h1
      have h2 : zcnt (fun k => (K.2 k).isSome) (s + 1) ≤ zcnt (fun k => decide (1 ≤ k) && decide (k ≤ s) && !decide (k = j)) (s + 1) := zcnt_mono (fun k hk hkt => by
        have k0 : k ≠ 0 := fun z => by rw [z, hq.2.2.1] at hkt; cases hkt
        have kj : k ≠ j := fun z => by rw [z, e] at hkt; cases hkt
        show (decide (1 ≤ k) && decide (k ≤ s) && !decide (k = j)) = true
        rw [decide_eq_true (show 1 ≤ k by omega), decide_eq_true (show k ≤ s by omega), decide_eq_false kj]
        rfl)
      have h3 : zcnt (fun k => decide (1 ≤ k) && decide (k ≤ s)) (s + 1) = zcnt (fun k => decide (1 ≤ k) && decide (k ≤ s) && !decide (k = j)) (s + 1) + 1 := zcnt_se (a := j) (by omega) (fun k hk => by rw [decide_eq_false hk]; exact (Bool.and_true _).symm) (by rw [decide_eq_true rfl]; exact Bool.and_false _) (by rw [decide_eq_true j1, decide_eq_true j2]; rfl)
      rw [zcnt_lo] at h3
      omega
  have loop : ∀ j, j ≤ s + 1 → 1 ≤ j → zW L xs mX0_leastCost 24 [some (.ref 72), some (.ref 48), some (.ref 47), some (.int (iI (zap v u sp co + zsm (fun j => zwo (fun i => zex v u sp sn co i j) (K.2 j)) j))), some (.int (nI j))] [] (I1, R, A3, lo, dd) Φ := by
    refine ze_up ?_ ?_
    · intro _
      exact vc_X0_leastCost_24 ⟨fun _ => hz, fun z => absurd (by rw [g4']; exact nI_lt (by omega) (by omega)) z⟩
    · intro j hj ih j1
      obtain ⟨i, e, i1, i2⟩ := hK2 j j1 (by omega)
      obtain ⟨zk1, zk2⟩ := zk_row i (by omega)
      refine vc_X0_leastCost_24 ⟨fun z => absurd z (by rw [g4']; exact nI_nlt (by omega) (by omega)), fun _ => ?_⟩
      rw [nI_clamp (by omega), g103 j j1 (by omega), e, show (some i).getD 0 = i from rfl, nI_clamp (by omega), zk1, zk2, gx3 i j i1 i2 j1 (by omega), iI_add, nI_1]
      refine ⟨nI_in (by omega) (by omega), nI_in (by omega) (by omega), rfl, nI_in (by omega) (by omega), ?_⟩
      have := ih (by omega)
      have e2 : zsm (fun j => zwo (fun i => zex v u sp sn co i j) (K.2 j)) (j + 1) = zsm (fun j => zwo (fun i => zex v u sp sn co i j) (K.2 j)) j + zex v u sp sn co i j := by
        show _ + zwo (fun i => zex v u sp sn co i j) (K.2 j) = _
        rw [e]
        rfl
      rw [e2, ← Int.add_assoc] at this
      exact this
  have := loop 1 (by omega) (Nat.le_refl _)
  have e1 : zsm (fun j => zwo (fun i => zex v u sp sn co i j) (K.2 j)) 1 = 0 := by
    show (0 : Int) + zwo (fun i => zex v u sp sn co i 0) (K.2 0) = 0
    rw [hq.2.2.1]
    rfl
  rw [e1, Int.add_zero] at this
  exact this
end
