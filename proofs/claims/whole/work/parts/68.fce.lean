/-! the file costs are the same -/
theorem zHq_col {s : Nat} {x : Nat → Nat → Int} {K : zM} {U V : Nat → Int} (hq : zHq s s x K U V) : ∀ j, 1 ≤ j → j ≤ s → ∃ i, K.2 j = some i ∧ 1 ≤ i ∧ i ≤ s := by
  intro j j1 j2
  cases e : K.2 j with
  | some i =>
    have := (hq.2.1 i).mp (by rw [(hq.1.2 i j e).2.2]; exact fun z => by cases z)
    exact ⟨i, rfl, this⟩
  | none =>
    have h1 : zcnt (fun k => (K.1 k).isSome) (s + 1) = s := by
      rw [zcnt_cong (q := fun k => decide (1 ≤ k) && decide (k ≤ s)) (fun i _ => ?_), zcnt_lo]
      · omega
      · have := hq.2.1 i
        cases e : K.1 i with
        | none =>
          rw [e] at this
          have h2 : ¬ (1 ≤ i ∧ i ≤ s) := fun z => this.mpr z rfl
          show false = _
          rw [← Bool.decide_and, decide_eq_false h2]
        | some c =>
          rw [e] at this
          have h2 := this.mp (fun z => by cases z)
          show true = _
          rw [← Bool.decide_and, decide_eq_true h2]
    rw [zcnt_mo hq.1] at h1
    have h2 : zcnt (fun k => (K.2 k).isSome) (s + 1) ≤ zcnt (fun k => decide (1 ≤ k) && decide (k ≤ s) && !decide (k = j)) (s + 1) := zcnt_mono (fun k hk hkt => by
      have k0 : k ≠ 0 := fun z => by rw [z, hq.2.2.1] at hkt; cases hkt
      have kj : k ≠ j := fun z => by rw [z, e] at hkt; cases hkt
      show (decide (1 ≤ k) && decide (k ≤ s) && !decide (k = j)) = true
      rw [decide_eq_true (show 1 ≤ k by omega), decide_eq_true (show k ≤ s by omega), decide_eq_false kj]
      rfl)
    have h3 : zcnt (fun k => decide (1 ≤ k) && decide (k ≤ s)) (s + 1) = zcnt (fun k => decide (1 ≤ k) && decide (k ≤ s) && !decide (k = j)) (s + 1) + 1 := zcnt_se (a := j) (by omega) (fun k hk => by rw [decide_eq_false hk]; exact (Bool.and_true _).symm) (by rw [decide_eq_true rfl]; exact Bool.and_false _) (by rw [decide_eq_true j1, decide_eq_true j2]; rfl)
    rw [zcnt_lo] at h3
    omega
theorem zfo_t {v : zV} {tp : Nat → Option Nat} {n : Nat} : zfo v tp n = true ↔ ¬ vnd v 2 n = -1 ∧ tp (vhom v n) ≠ none := by
  unfold zfo
  cases tp (vhom v n) <;> simp
theorem zfw_t {u : zV} {m : Nat} : zfw u m = true ↔ ¬ vnd u 2 m = -1 := by
  unfold zfw
  simp
theorem zfc_eq {v u : zV} {sp : zM} {sn : zMn} {co : Nat → Nat} {K T : zM} {U V p q : Nat → Int} (hq : zHq (zsd v u sp) (zsd v u sp) (zex v u sp sn co) K U V) (hT : zmo (vN v) (vN u) T) (hTf : ∀ n m, T.1 n = some m → zAl v u sp n m) (hD : zDu (vN v) (vN u) (zAl v u sp) (zfl v) (zgain v u sp sn co) T p q 0) : zap v u sp co + zsm (fun j => zwo (fun i => zex v u sp sn co i j) (K.2 j)) (zsd v u sp + 1) = zap v u sp co - zsm (fun n => zwo (zgain v u sp sn co n) (T.1 n)) (vN v) := by
  have hcol := zHq_col hq
  have hr : zrc v sp ≤ zsd v u sp := by unfold zsd; omega
  have hc : zcc u ≤ zsd v u sp := by unfold zsd; omega
  have hF : zmo (zsd v u sp + 1) (vN v) (zFo v sp) := zfp_mo hr
  have hG : zmo (zsd v u sp + 1) (vN u) (zFw u) := zfp_mo hc
  obtain ⟨hK, hro, hk0, ⟨hx, hU, hV⟩, ht, hf, hfe⟩ := hq
  obtain ⟨d0, d1, d2, d3, d4, d5, d6⟩ := hD
  have hFz : ∀ i n, (zFo v sp).1 i = some n → ¬ vnd v 2 n = -1 := fun i n e => (zfo_t.mp ((zfd_iff _ _ _).mp e).2.1).1
  have hGz : ∀ j m, (zFw u).1 j = some m → ¬ vnd u 2 m = -1 := fun j m e => zfw_t.mp ((zfd_iff _ _ _).mp e).2.1
  have key := zdual (E := zAl v u sp) (g := zgain v u sp sn co) (x := zex v u sp sn co) (F := zFo v sp) (G := zFw u) (U := U) (V := V) (p := fun n => if vnd v 2 n = -1 then 0 else p n) (q := q) hT hTf hF hG zfp_0 zfp_0 (fun n m hn hm e => ?_) (fun i j n m e1 e2 e => ?_) (fun i j hi hj i1 j1 => ?_) hK (fun i i1 i2 => (hro i).mpr ⟨i1, by omega⟩) (fun j j1 j2 => ?_) ⟨?_, hk0⟩ (fun i i1 i2 => (hU i i1 (by omega)).2) (fun j j1 j2 => (hV j j1 (by omega)).2) (fun i j i1 i2 j1 j2 => ?_) (fun i j e => ?_) (fun n hn => ?_) (fun m hm => (d2 m hm).1) (fun n m hn hm e => ?_) (fun n m e => ?_) (fun n hn e => ?_) d6
  · omega
  · obtain ⟨a1, a2, a3⟩ := e
    constructor
    · show (if n < vN v ∧ zfo v sp.1 n = true then some (zcnt (zfo v sp.1) n + 1) else none) ≠ none
      rw [if_pos ⟨hn, zfo_t.mpr ⟨a1, by rw [a3]; exact fun z => by cases z⟩⟩]
      exact fun z => by cases z
    · show (if m < vN u ∧ zfw u m = true then some (zcnt (zfw u) m + 1) else none) ≠ none
      rw [if_pos ⟨hm, zfw_t.mpr a2⟩]
      exact fun z => by cases z
  · rw [zex_s e1 e2, if_pos e.2.2]
    split <;> omega
  · cases e1 : (zFo v sp).1 i with
    | none => exact Or.inl (zex_n1 e1)
    | some n =>
      cases e2 : (zFw u).1 j with
      | none => exact Or.inl (zex_n2 e2)
      | some m =>
        rw [zex_s e1 e2]
        by_cases y : sp.1 (vhom v n) = some (vhom u m)
        · rw [if_pos y]
          by_cases w : 0 < - zgain v u sp sn co n m
          · exact Or.inl (if_pos w)
          · exact Or.inr ⟨n, m, rfl, rfl, ⟨hFz i n e1, hGz j m e2, y⟩, if_neg w⟩
        · exact Or.inl (if_neg y)
  · obtain ⟨i, e, _⟩ := hcol j j1 (by omega)
    rw [e]
    exact fun z => by cases z
  · cases e : K.1 0 with
    | none => rfl
    | some c => have := (hro 0).mp (by rw [e]; exact fun z => by cases z); omega
  · have := hfe i i1 (by omega) j j1 (by omega)
    unfold zcur at this
    omega
  · have := ht j i e
    unfold zcur at this
    omega
  · have := (d1 n hn).1
    show 0 ≤ (if vnd v 2 n = -1 then 0 else p n)
    split <;> omega
  · have := d3 n m hn hm e
    show _ ≤ (if vnd v 2 n = -1 then 0 else p n) + q m
    rw [if_neg e.1]
    omega
  · have := d4 n m e
    show _ = (if vnd v 2 n = -1 then 0 else p n) + q m
    rw [if_neg (hTf n m e).1]
    omega
  · show (if vnd v 2 n = -1 then 0 else p n) = 0
    by_cases z : vnd v 2 n = -1
    · exact if_pos z
    · rw [if_neg z]
      exact d5 n hn z e
section
variable {L : Nat} {xs : Nat → Int32} {I : Nat → Nat → Int32} {R : Nat → Nat → Option Nat} {A : Nat → Nat → Int32} {lo : Int64} {dd : UInt64} {Φ : zPo} {v u : zV} {sp : zM} {sn : zMn} {co : Nat → Nat} {b a : Nat}
theorem s6_filesCost {md : Nat} (hmd : md ≤ 1) (hv : mIm 0 v A) (hu : mIm 1 u A) (hwf : zwf v) (hwu : zwf u) (hc : mCo co A) (h : ∀ A' : Nat → Nat → Int32, (∀ c, ¬ (113 ≤ c ∧ c ≤ 120 ∧ c ≠ 118) → A' c = A c) → mEn 0 1 v u (zpa v u) (zna v u) (z_up (z_up I 107 14 (nI 0)) 107 15 (nI 1)) A' → (∀ n, n < vN v → A' 119 n = zpI (ztk0 v (zna v u) md n)) → (∀ m, m < vN u → A' 120 m = -1) → Φ (.inl (some (.int (iI (zap v u (zpa v u) co - zsm (fun n => zwo (zgain v u (zpa v u) (zna v u) co n) (ztk0 v (zna v u) md n)) (vN v)))))) (z_up (z_up I 107 14 (nI 0)) 107 15 (nI 1), R, A', lo, dd) 0) : zC L xs mX6_filesCost [.ref 107, .int (nI md)] (I, R, A, lo, dd) Φ := by
  refine zC_en (vc_X6_filesCost_0 (s6_identifies (ia := 0) (ib := 1) (by decide) rfl hv hu hwf hwu (fun A1 f1 p1 n1 => zk_r ?_)))
  have hE : mEn 0 1 v u (zpa v u) (zna v u) (z_up (z_up I 107 14 (nI 0)) 107 15 (nI 1)) A1 := ⟨by rw [zup_n (by omega), zup_s], zup_s, mIm_fr hv (f1 108 (by decide)), mIm_fr hu (f1 108 (by decide)), p1, n1⟩
  refine s6_filesCost5 hmd hE hwf hwu (zmo_pa v u) (zmk_na v u).1 (fun k hk => by rw [f1 109 (by decide)]; exact hc k hk) (fun A2 f2 g1 g2 => h A2 (fun c hc => by rw [f2 c (by omega), f1 c (by omega)]) (mEn_fq hE (fun c hc => f2 c (by omega))) g1 g2)
theorem s6_leastFileCost (hv : mIm 0 v A) (hu : mIm 1 u A) (hwf : zwf v) (hwu : zwf u) (hc : mCo co A) (h : ∀ (I' A' : Nat → Nat → Int32) (T : zM) (p q : Nat → Int), (∀ c j, ¬ (c = 107 ∧ (j = 0 ∨ j = 14 ∨ j = 15)) → I' c j = I c j) → I' 107 0 = 0 → (∀ c, ¬ (113 ≤ c ∧ c ≤ 122 ∧ c ≠ 118) → A' c = A c) → zmo (vN v) (vN u) T → (∀ n m, T.1 n = some m → zAl v u (zpa v u) n m) → zDu (vN v) (vN u) (zAl v u (zpa v u)) (zfl v) (zgain v u (zpa v u) (zna v u) co) T p q 0 → Φ (.inl (some (.int (iI (zap v u (zpa v u) co - zsm (fun n => zwo (zgain v u (zpa v u) (zna v u) co n) (T.1 n)) (vN v)))))) (I', R, A', lo, dd) 0) : zC L xs mX6_leastFileCost [.ref 107] (I, R, A, lo, dd) Φ := by
  have hco : ∀ k, k < 11 → co k ≤ 99 := fun k hk => (hc k hk).2
  have hgb := fun n m => zgain_b (v := v) (u := u) (sp := zpa v u) (sn := zna v u) (i := n) (j := m) hco
  refine zC_en (vc_X6_leastFileCost_0 (s6_filesCost (md := 0) (by decide) hv hu hwf hwu hc (fun A1 f1 hE g119 g120 => zk_r (vc_X6_leastFileCost_10 ?_))))
  have hI : ∀ c j, ¬ (c = 107 ∧ (j = 0 ∨ j = 14 ∨ j = 15)) → z_up (z_up (z_up I 107 0 0) 107 14 (nI 0)) 107 15 (nI 1) c j = I c j := fun c j q => by
    rw [zup_n (by omega), zup_n (by omega), zup_n (by omega)]
  have hI0 : z_up (z_up (z_up I 107 0 0) 107 14 (nI 0)) 107 15 (nI 1) 107 0 = 0 := by rw [zup_n (by omega), zup_n (by omega), zup_s]
  generalize z_up (z_up (z_up I 107 0 0) 107 14 (nI 0)) 107 15 (nI 1) = I1 at *
  have hc1 : mCo co A1 := fun k hk => by rw [f1 109 (by decide)]; exact hc k hk
  have hT : zmo (vN v) (vN u) ((fun _ => none, fun _ => none) : zM) := ⟨fun _ _ e => (by cases e), fun _ _ e => (by cases e)⟩
  have hD : zDu (vN v) (vN u) (zAl v u (zpa v u)) (zfl v) (zgain v u (zpa v u) (zna v u) co) ((fun _ => none, fun _ => none) : zM) (fun _ => 0) (fun _ => 0) 198 := ⟨by decide, fun _ _ => show (0 : Int) ≤ 0 ∧ (0 : Int) ≤ 198 - 198 by decide, fun _ _ => show (0 : Int) ≤ 0 ∧ (0 : Int) ≤ 198 - 198 by decide, fun n m _ _ _ => by have := (hgb n m).2; dsimp only; omega, fun _ _ e => (by cases e), fun _ _ _ _ => rfl, fun _ _ _ => rfl⟩
  have e0 : ztk0 v (zna v u) 0 = fun _ => none := by
    funext n
    exact if_pos rfl
  rw [e0] at g119 ⊢
  refine s6_bestEnd hE hwf hwu (zmo_pa v u) (zmk_na v u).1 hc1 hT (fun _ _ e => (by cases e)) g119 g120 hD ⟨fun _ => by decide, fun _ => by decide⟩ (fun A2 d fr b f2 hM hB hF hb => zk_r (vc_X6_leastFileCost_15 ?_))
  refine s6_leastFrom16 hE hwf hwu (zmo_pa v u) (zmk_na v u).1 hc1 (fun A3 T p q f3 hT3 hTf3 hD3 => h I1 A3 T p q hI hI0 (fun c hc => by rw [f3 c (by omega), f1 c (by omega)]) hT3 hTf3 hD3) _ A2 (fun _ => none, fun _ => none) _ _ _ d fr b none none (Nat.le_refl _) (fun c hc => f2 c (by omega) (by omega)) (fun n hn => by rw [f2 119 (by decide) (by decide)]; exact g119 n hn) (fun m hm => by rw [f2 120 (by decide) (by decide)]; exact g120 m hm) hT (fun _ _ e => (by cases e)) hD hM hB hF hb
theorem s6_fileCost (hv : mIm 0 v A) (hu : mIm 1 u A) (hwf : zwf v) (hwu : zwf u) (hc : mCo co A) (h : ∀ (I' A' : Nat → Nat → Int32), (∀ c j, ¬ (c = 107 ∧ (j = 0 ∨ j = 14 ∨ j = 15)) → I' c j = I c j) → I' 107 0 = 0 → (∀ c, ¬ (113 ≤ c ∧ c ≤ 122 ∧ c ≠ 118) → A' c = A c) → Φ (.inl (some (.int (iI (zap v u (zpa v u) co - zsm (fun n => zwo (zgain v u (zpa v u) (zna v u) co n) (ztk0 v (zna v u) 1 n)) (vN v)))))) (I', R, A', lo, dd) 0) : zC L xs mX6_fileCost [.ref 107] (I, R, A, lo, dd) Φ := by
  refine zC_en (vc_X6_fileCost_0 (s6_filesCost (md := 1) (by decide) hv hu hwf hwu hc (fun A1 f1 hE g119 g120 => zk_r (vc_X6_fileCost_10 (h _ A1 (fun c j q => ?_) ?_ (fun c hc => f1 c (by omega)))))))
  · rw [zup_n (by omega), zup_n (by omega), zup_n (by omega)]
  · rw [zup_n (by omega), zup_n (by omega), zup_s]
theorem s0_costOfMatched (hb : z_ib b) (ha : z_ib a) (hRb : R 48 0 = some b) (hRa : R 48 1 = some a) (hE : zEn b a 48 v u sp sn I A) (hwf : zwf v) (hwu : zwf u) (hmp : zmo (vP v) (vP u) sp) (hmk : zmk v u sp.1 sn) (hc : cCo co A) (h : ∀ I' A' : Nat → Nat → Int32, (∀ c, c ≠ 72 → I' c = I c) → (∀ c, c ≠ 73 → c ≠ 74 → A' c = A c) → Φ (.inl (some (.int (iI (zap v u sp co - zsm (fun n => zwo (zgain v u sp sn co n) (ztk0 v sn 1 n)) (vN v)))))) (I', R, A', lo, dd) 0) : zC L xs mX0_costOfMatched [.ref 72, .ref 48, .ref 47] (I, R, A, lo, dd) Φ := by
  have hm := hmk.1
  have w2 := hwf.2.1
  refine zC_en (vc_X0_costOfMatched_0 (s0_listFiles hb ha hRb hRa hE hwf hwu hmp (fun I1 A1 f1 a1 g2 g3 g4 g73 g74 => zk_r (vc_X0_costOfMatched_5 ?_))))
  have hz := h I1 A1 f1 a1
  have hE1 := zEn_fa hb ha hE f1 (fun c hc => a1 c (by omega) (by omega))
  have hc1 : cCo co A1 := fun k hk => by rw [a1 47 (by decide) (by decide)]; exact hc k hk
  rw [(hc1 9 (by omega)).1, (hc1 4 (by omega)).1, g2, g3]
  have e0 : nI (zcnt (zfo v sp.1) (vN v)) * nI (co 9) + nI (zcnt (zfw u) (vN u)) * nI (co 4) = iI (zap v u sp co) := by
    rw [pk_mul, pk_mul, nI_add, iI_n]
    rfl
  rw [e0]
  have hFm : zmo (zrc v sp + 1) (vN v) (zFo v sp) := zfp_mo (Nat.le_refl _)
  have hsum : zsm (fun i => zwo (fun n => zwo (zgain v u sp sn co n) (sn.1.1 n)) ((zFo v sp).1 i)) (zrc v sp + 1) = zsm (fun n => zwo (zgain v u sp sn co n) (ztk0 v sn 1 n)) (vN v) := by
    rw [zsm_mo hFm]
    refine zsm_cong (fun n hn => ?_)
    show (if (if n < vN v ∧ zfo v sp.1 n = true then some (zcnt (zfo v sp.1) n + 1) else none) = none then 0 else zwo (zgain v u sp sn co n) (sn.1.1 n)) = zwo (zgain v u sp sn co n) (if 1 = 0 then none else if vnd v 2 n = -1 then none else sn.1.1 n)
    rw [if_neg (show ¬ 1 = 0 by decide)]
    by_cases y : vnd v 2 n = -1
    · rw [if_neg (show ¬ (n < vN v ∧ zfo v sp.1 n = true) from fun z => (zfo_t.mp z.2).1 y), if_pos rfl, if_pos y]
      rfl
    · rw [if_neg y]
      by_cases w : zfo v sp.1 n = true
      · rw [if_pos (show n < vN v ∧ zfo v sp.1 n = true from ⟨hn, w⟩), if_neg (fun z => by cases z)]
      · rw [if_neg (show ¬ (n < vN v ∧ zfo v sp.1 n = true) from fun z => w z.2), if_pos rfl]
        cases e : sn.1.1 n with
        | none => rfl
        | some j =>
          have := (hmk.2.1 n j e).1
          exact absurd (zfo_t.mpr ⟨y, by rw [this]; exact fun z => by cases z⟩) w
  rw [← hsum] at hz
  have hrc : zrc v sp ≤ vN v := zcnt_le _ _
  have loop : ∀ i, i ≤ zrc v sp + 1 → 1 ≤ i → ∀ z5 z6 : Option Value, zW L xs mX0_costOfMatched 14 [some (.ref 72), some (.ref 48), some (.ref 47), some (.int (iI (zap v u sp co - zsm (fun i => zwo (fun n => zwo (zgain v u sp sn co n) (sn.1.1 n)) ((zFo v sp).1 i)) i))), some (.int (nI i)), z5, z6] [] (I1, R, A1, lo, dd) Φ := by
    refine ze_up ?_ ?_
    · intro _ z5 z6
      exact vc_X0_costOfMatched_14 ⟨fun _ => hz, fun z => absurd (by rw [g2]; exact nI_lt (show zrc v sp < zrc v sp + 1 by omega) (by omega)) z⟩
    · intro i hi ih i1 z5 z6
      obtain ⟨n, n1, n2, n3, n4⟩ := zfp_le (p := zfo v sp.1) (N := vN v) i1 (show i ≤ zcnt (zfo v sp.1) (vN v) by have : zrc v sp = zcnt (zfo v sp.1) (vN v) := rfl; omega)
      have e73 : A1 73 i = nI n := by rw [← n4]; exact g73 n n2 n3
      have e51 : A1 51 n = zpI (sn.1.1 n) := hE1.2.2.2.1 n (by omega)
      have htl : ∀ k, sn.1.1 n = some k → k < 2 ^ 31 := fun k hk => by
        have := (hm.1 _ _ hk).2.1
        have := hwu.2.1
        omega
      have e2 : zsm (fun i => zwo (fun n => zwo (zgain v u sp sn co n) (sn.1.1 n)) ((zFo v sp).1 i)) (i + 1) = zsm (fun i => zwo (fun n => zwo (zgain v u sp sn co n) (sn.1.1 n)) ((zFo v sp).1 i)) i + zwo (zgain v u sp sn co n) (sn.1.1 n) := by
        show _ + zwo (fun n => zwo (zgain v u sp sn co n) (sn.1.1 n)) ((zFo v sp).1 i) = _
        rw [show (zFo v sp).1 i = some n from n1]
        rfl
      have nx := ih (by omega)
      rw [e2] at nx
      refine vc_X0_costOfMatched_14 ⟨fun z => absurd z (by rw [g2]; exact nI_nlt (show i ≤ zrc v sp by omega) (by have := zcnt_le (zfo v sp.1) (vN v); omega)), fun _ => ?_⟩
      rw [nI_clamp (by omega), e73, nI_clamp (by omega), e51, zpI_none htl, nI_1]
      refine ⟨nI_in (by omega) (by omega), nI_in (by omega) (by omega), fun q => ?_, fun q => ?_⟩
      · rw [q] at nx ⊢
        have e : zap v u sp co - (zsm (fun i => zwo (fun n => zwo (zgain v u sp sn co n) (sn.1.1 n)) ((zFo v sp).1 i)) i + zwo (zgain v u sp sn co n) none) = zap v u sp co - zsm (fun i => zwo (fun n => zwo (zgain v u sp sn co n) (sn.1.1 n)) ((zFo v sp).1 i)) i := by
          show _ - (_ + 0) = _
          omega
        rw [e] at nx
        exact nx _ _
      · cases e : sn.1.1 n with
        | none => exact absurd e q
        | some m =>
          rw [e] at nx
          refine s0_pairCost hb ha hRb hRa hE1 hwf hwu hmp hm hc1 n2 (hm.1 n m e).2.1 (zk_r (vc_X0_costOfMatched_57 ?_))
          rw [(hc1 9 (by omega)).1, (hc1 4 (by omega)).1, iI_n (zpc v u sp sn co n m), iI_n (co 9), iI_n (co 4), iI_sub, iI_sub, iI_add, nI_1]
          have e3 : zap v u sp co - (zsm (fun i => zwo (fun n => zwo (zgain v u sp sn co n) (sn.1.1 n)) ((zFo v sp).1 i)) i + zwo (zgain v u sp sn co n) (some m)) = zap v u sp co - zsm (fun i => zwo (fun n => zwo (zgain v u sp sn co n) (sn.1.1 n)) ((zFo v sp).1 i)) i + ((zpc v u sp sn co n m : Int) - (co 9 : Int) - (co 4 : Int)) := by
            show _ - (_ + zgain v u sp sn co n m) = _
            unfold zgain
            omega
          rw [e3] at nx
          exact nx _ _
  have := loop 1 (by omega) (Nat.le_refl _) none none
  have e1 : zsm (fun i => zwo (fun n => zwo (zgain v u sp sn co n) (sn.1.1 n)) ((zFo v sp).1 i)) 1 = 0 := by
    show (0 : Int) + zwo _ ((zFo v sp).1 0) = 0
    rw [show (zFo v sp).1 0 = none from zfp_0]
    rfl
  rw [e1, Int.sub_zero] at this
  exact this
end
