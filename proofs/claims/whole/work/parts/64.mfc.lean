/-! the model's file costs: all apart -/
theorem zx02 {n : Nat} (h : n < 24) : (((((159 * 0) + 15) + (6 * nI n)) + 2 : Int32)) = nI (159 * 0 + 15 + 6 * n + 2) := by simp (disch := omega) only [ze_lit, pk_mul, nI_add, nI_clamp, ze_inI, nI_ltI, nI_eq]
theorem zx05 {n : Nat} (h : n < 24) : (((((159 * 0) + 15) + (6 * nI n)) + 5 : Int32)) = nI (159 * 0 + 15 + 6 * n + 5) := by simp (disch := omega) only [ze_lit, pk_mul, nI_add, nI_clamp, ze_inI, nI_ltI, nI_eq]
theorem zx12 {n : Nat} (h : n < 24) : (((((159 * 1) + 15) + (6 * nI n)) + 2 : Int32)) = nI (159 * 1 + 15 + 6 * n + 2) := by simp (disch := omega) only [ze_lit, pk_mul, nI_add, nI_clamp, ze_inI, nI_ltI, nI_eq]
theorem zx15 {n : Nat} (h : n < 24) : (((((159 * 1) + 15) + (6 * nI n)) + 5 : Int32)) = nI (159 * 1 + 15 + 6 * n + 5) := by simp (disch := omega) only [ze_lit, pk_mul, nI_add, nI_clamp, ze_inI, nI_ltI, nI_eq]
theorem zsm_cn (p : Nat → Bool) (c n : Nat) : zsm (fun i => if p i = true then (c : Int) else 0) n = ((zcnt p n * c : Nat) : Int) := by
  induction n with
  | zero => show (0 : Int) = ((0 * c : Nat) : Int); simp
  | succ n ih =>
    show zsm _ n + (if p n = true then (c : Int) else 0) = (((zcnt p n + if p n = true then 1 else 0) * c : Nat) : Int)
    rw [ih]
    split
    · rw [Nat.add_mul]; simp
    · simp
theorem mEn_fq {ia ib : Nat} {v u : zV} {sp : zM} {sn : zMn} {I A A' : Nat → Nat → Int32} (h : mEn ia ib v u sp sn I A) (g : ∀ c, c < 119 → A' c = A c) : mEn ia ib v u sp sn I A' := by
  obtain ⟨h1, h2, h3, h4, ⟨h5, h6⟩, h7, h8, h9⟩ := h
  exact ⟨h1, h2, mIm_fr h3 (g 108 (by decide)), mIm_fr h4 (g 108 (by decide)), ⟨fun i hi => by rw [g 113 (by decide)]; exact h5 i hi, fun i hi => by rw [g 114 (by decide)]; exact h6 i hi⟩, fun i hi => by rw [g 115 (by decide)]; exact h7 i hi, fun i hi => by rw [g 116 (by decide)]; exact h8 i hi, fun i hi => by rw [g 117 (by decide)]; exact h9 i hi⟩
def ztk0 (v : zV) (sn : zMn) (md n : Nat) : Option Nat := if md = 0 then none else if vnd v 2 n = -1 then none else sn.1.1 n
section
variable {L : Nat} {xs : Nat → Int32} {I : Nat → Nat → Int32} {R : Nat → Nat → Option Nat} {A : Nat → Nat → Int32} {lo : Int64} {dd : UInt64} {Φ : zPo} {v u : zV} {sp : zM} {sn : zMn} {co : Nat → Nat}
theorem s6_filesCost5 {md : Nat} (hmd : md ≤ 1) (hE : mEn 0 1 v u sp sn I A) (hwf : zwf v) (hwu : zwf u) (hmp : zmo (vP v) (vP u) sp) (hm : zmo (vN v) (vN u) sn.1) (hc : mCo co A) (h : ∀ A' : Nat → Nat → Int32, (∀ c, ¬ (119 ≤ c ∧ c ≤ 120) → A' c = A c) → (∀ n, n < vN v → A' 119 n = zpI (ztk0 v sn md n)) → (∀ m, m < vN u → A' 120 m = -1) → Φ (.inl (some (.int (iI (zap v u sp co - zsm (fun n => zwo (zgain v u sp sn co n) (ztk0 v sn md n)) (vN v)))))) (I, R, A', lo, dd) 0) : zW L xs mX6_filesCost 5 [some (.ref 107), some (.int (nI md)), none, none] [] (I, R, A, lo, dd) Φ := by
  have w1 := hwf.1
  have w2 := hwf.2.1
  have w3 := hwu.2.1
  have w4 := hwu.1
  obtain ⟨hI14, hI15, ⟨m0, m1, m2, p0, p1, p2, n0, n1, n2, n3, n4, n5⟩, ⟨m0', m1', m2', p0', p1', p2', n0', n1', n2', n3', n4', n5'⟩, ⟨e3, e4⟩, e5, e6, e7⟩ := hE
  have hE : mEn 0 1 v u sp sn I A := ⟨hI14, hI15, ⟨m0, m1, m2, p0, p1, p2, n0, n1, n2, n3, n4, n5⟩, ⟨m0', m1', m2', p0', p1', p2', n0', n1', n2', n3', n4', n5'⟩, ⟨e3, e4⟩, e5, e6, e7⟩
  have hfin : zap v u sp co - zsm (fun n => zwo (zgain v u sp sn co n) (ztk0 v sn md n)) (vN v) = zsm (fun n => (if zfo v sp.1 n = true then (co 9 : Int) else 0) + - zwo (zgain v u sp sn co n) (ztk0 v sn md n)) (vN v) + zsm (fun m => if zfw u m = true then (co 4 : Int) else 0) (vN u) := by
    rw [zsm_add, zsm_neg, zsm_cn, zsm_cn]
    show ((zrc v sp * co 9 + zcc u * co 4 : Nat) : Int) - _ = ((zrc v sp * co 9 : Nat) : Int) + - _ + ((zcc u * co 4 : Nat) : Int)
    rw [Int.natCast_add]
    omega
  have tkl : ∀ n m, ztk0 v sn md n = some m → m < vN u ∧ m < 2 ^ 31 := fun n m e => by
    unfold ztk0 at e
    split at e
    · cases e
    · split at e
      · cases e
      · have := (hm.1 n m e).2.1
        omega
  -- the new files
  have second : ∀ m, m ≤ vN u → ∀ A' : Nat → Nat → Int32, (∀ c, ¬ (119 ≤ c ∧ c ≤ 120) → A' c = A c) → (∀ n, n < vN v → A' 119 n = zpI (ztk0 v sn md n)) → (∀ k, k < m → A' 120 k = -1) → zW L xs mX6_filesCost 122 [some (.ref 107), some (.int (nI md)), some (.int (iI (zsm (fun n => (if zfo v sp.1 n = true then (co 9 : Int) else 0) + - zwo (zgain v u sp sn co n) (ztk0 v sn md n)) (vN v) + zsm (fun m => if zfw u m = true then (co 4 : Int) else 0) m))), some (.int (nI m))] [] (I, R, A', lo, dd) Φ := by
    refine ze_up ?_ ?_
    · intro A' fr g1 g2
      refine vc_X6_filesCost_122 ⟨by decide, fun z => absurd z ?_, fun _ => ?_⟩
      · rw [fr 108 (by decide), show A 108 (Int32.toNatClampNeg ((159 * 1) + 2)) = nI (vN u) from m2']
        exact nI_nlt (by omega) (by omega)
      · rw [← hfin]
        exact h A' fr g1 g2
    · intro m hm' ih A' fr g1 g2
      have f2 : ∀ c k, ¬ (c = 120 ∧ k = m) → z_up A' 120 m (-1) c k = A' c k := fun c k hk => zup_n hk
      have f3 : z_up A' 120 m (-1) 120 m = -1 := zup_s
      refine vc_X6_filesCost_122 ⟨by decide, fun _ => ?_, fun z => absurd ?_ z⟩
      · rw [nI_clamp (by omega), zx12 (by omega), nI_clamp (by omega), nI_1]
        generalize z_up A' 120 m (-1) = A2 at *
        have F : ∀ c, ¬ (119 ≤ c ∧ c ≤ 120) → A2 c = A c := fun c hc => by rw [← fr c hc]; funext k; exact f2 c k (by omega)
        rw [F 108 (by decide), n2' m hm', F 109 (by decide), (hc 4 (by omega)).1, iI_n (co 4), show (0 : Int32) = iI 0 from rfl, iI_add, iI_add]
        have e2 : zsm (fun m => if zfw u m = true then (co 4 : Int) else 0) (m + 1) = zsm (fun m => if zfw u m = true then (co 4 : Int) else 0) m + (if zfw u m = true then (co 4 : Int) else 0) := rfl
        have nx := fun (y : zsm (fun m => if zfw u m = true then (co 4 : Int) else 0) (m + 1) = zsm (fun m => if zfw u m = true then (co 4 : Int) else 0) (m + 1)) => ih A2 F (fun n hn => by rw [f2 _ _ (by omega)]; exact g1 n hn) (fun k hk => by
          by_cases z : k = m
          · rw [z]; exact f3
          · rw [f2 _ _ (by omega)]; exact g2 k (by omega))
        replace nx := nx rfl
        rw [e2, ← Int.add_assoc] at nx
        refine ⟨nI_in (by omega) (by omega), nI_in (by omega) (by omega), fun q => ?_, fun q => ?_⟩
        · have e : zfw u m = false := by unfold zfw; rw [decide_eq_true q]; rfl
          rw [if_neg (fun z => by rw [e] at z; cases z)] at nx
          exact nx
        · have e : zfw u m = true := by unfold zfw; rw [decide_eq_false q]; rfl
          rw [if_pos e] at nx
          exact nx
      · rw [fr 108 (by decide), show A 108 (Int32.toNatClampNeg ((159 * 1) + 2)) = nI (vN u) from m2']
        exact nI_lt hm' (by omega)
  -- the old files
  have first : ∀ n, n ≤ vN v → ∀ A' : Nat → Nat → Int32, (∀ c, ¬ (119 ≤ c ∧ c ≤ 120) → A' c = A c) → (∀ k, k < n → A' 119 k = zpI (ztk0 v sn md k)) → zW L xs mX6_filesCost 9 [some (.ref 107), some (.int (nI md)), some (.int (iI (zsm (fun n => (if zfo v sp.1 n = true then (co 9 : Int) else 0) + - zwo (zgain v u sp sn co n) (ztk0 v sn md n)) n))), some (.int (nI n))] [] (I, R, A', lo, dd) Φ := by
    refine ze_up ?_ ?_
    · intro A' fr g1
      refine vc_X6_filesCost_9 ⟨by decide, fun z => absurd z ?_, fun _ => ?_⟩
      · rw [fr 108 (by decide), show A 108 (Int32.toNatClampNeg ((159 * 0) + 2)) = nI (vN v) from m2]
        exact nI_nlt (by omega) (by omega)
      · have := second 0 (Nat.zero_le _) A' fr g1 (fun k hk => absurd hk (Nat.not_lt_zero _))
        rw [show zsm (fun m => if zfw u m = true then (co 4 : Int) else 0) 0 = 0 from rfl, Int.add_zero] at this
        exact this
    · intro n hn ih A' fr g1
      have hh := hwf.2.2.1 n hn
      -- once n's partner is written
      have key : ∀ A2 : Nat → Nat → Int32, (∀ c k, ¬ (c = 119 ∧ k = n) → A2 c k = A' c k) → A2 119 n = zpI (ztk0 v sn md n) → (∀ c, ¬ (119 ≤ c ∧ c ≤ 120) → A2 c = A c) ∧ (∀ (y : Int) , y = (if zfo v sp.1 n = true then (co 9 : Int) else 0) → (ztk0 v sn md n = none → zW L xs mX6_filesCost 9 [some (.ref 107), some (.int (nI md)), some (.int (iI (zsm (fun n => (if zfo v sp.1 n = true then (co 9 : Int) else 0) + - zwo (zgain v u sp sn co n) (ztk0 v sn md n)) n + y - 0))), some (.int (nI (n + 1)))] [] (I, R, A2, lo, dd) Φ) ∧ (∀ m, ztk0 v sn md n = some m → zC L xs mX6_gain [.ref 107, .int (nI n), .int (nI m)] (I, R, A2, lo, dd) (z_kont [] (fun r τ Ψ => zW L xs mX6_filesCost 112 [some (.ref 107), some (.int (nI md)), some (.int (iI (zsm (fun n => (if zfo v sp.1 n = true then (co 9 : Int) else 0) + - zwo (zgain v u sp sn co n) (ztk0 v sn md n)) n + y))), some (.int (nI n))] (r.toList ++ [.int (iI (zsm (fun n => (if zfo v sp.1 n = true then (co 9 : Int) else 0) + - zwo (zgain v u sp sn co n) (ztk0 v sn md n)) n + y))]) τ Ψ) Φ))) := by
        intro A2 f2 f3
        have F : ∀ c, ¬ (119 ≤ c ∧ c ≤ 120) → A2 c = A c := fun c hc => by rw [← fr c hc]; funext k; exact f2 c k (by omega)
        have nx := ih A2 F (fun k hk => by
          by_cases z : k = n
          · rw [z]; exact f3
          · rw [f2 _ _ (by omega)]; exact g1 k (by omega))
        have e2 : zsm (fun n => (if zfo v sp.1 n = true then (co 9 : Int) else 0) + - zwo (zgain v u sp sn co n) (ztk0 v sn md n)) (n + 1) = zsm (fun n => (if zfo v sp.1 n = true then (co 9 : Int) else 0) + - zwo (zgain v u sp sn co n) (ztk0 v sn md n)) n + ((if zfo v sp.1 n = true then (co 9 : Int) else 0) + - zwo (zgain v u sp sn co n) (ztk0 v sn md n)) := rfl
        rw [e2] at nx
        refine ⟨F, fun y hy => ⟨fun e => ?_, fun m e => ?_⟩⟩
        · rw [e] at nx
          rw [hy]
          have : ∀ s w : Int, s + w - 0 = s + (w + - zwo (zgain v u sp sn co n) none) := fun s w => by show _ = s + (w + - 0); omega
          rw [this]
          exact nx
        · rw [e] at nx
          refine s6_gain (by decide) (by decide) (mEn_fq hE (fun c hc => F c (by omega))) hwf hwu hmp hm (fun k hk => by rw [F 109 (by decide)]; exact hc k hk) hn (tkl n m e).1 (zk_r (vc_X6_filesCost_112 ?_))
          rw [iI_sub, nI_1, hy]
          have : ∀ s w : Int, s + w - zgain v u sp sn co n m = s + (w + - zwo (zgain v u sp sn co n) (some m)) := fun s w => by show _ = s + (w + - zgain v u sp sn co n m); omega
          rw [this]
          exact nx
      have zpn : (zpI (ztk0 v sn md n) = -1) ↔ ztk0 v sn md n = none := zpI_none (fun k hk => (tkl n k hk).2)
      have hpl : ∀ k, sp.1 (vhom v n) = some k → k < 2 ^ 31 := fun k hk => by have := (hmp.1 _ _ hk).2.1; omega
      have fin : ∀ (y : Int) (A2 : Nat → Nat → Int32), A2 119 n = zpI (ztk0 v sn md n) → ((ztk0 v sn md n = none → zW L xs mX6_filesCost 9 [some (.ref 107), some (.int (nI md)), some (.int (iI (zsm (fun n => (if zfo v sp.1 n = true then (co 9 : Int) else 0) + - zwo (zgain v u sp sn co n) (ztk0 v sn md n)) n + y - 0))), some (.int (nI (n + 1)))] [] (I, R, A2, lo, dd) Φ) ∧ (∀ m, ztk0 v sn md n = some m → zC L xs mX6_gain [.ref 107, .int (nI n), .int (nI m)] (I, R, A2, lo, dd) (z_kont [] (fun r τ Ψ => zW L xs mX6_filesCost 112 [some (.ref 107), some (.int (nI md)), some (.int (iI (zsm (fun n => (if zfo v sp.1 n = true then (co 9 : Int) else 0) + - zwo (zgain v u sp sn co n) (ztk0 v sn md n)) n + y))), some (.int (nI n))] (r.toList ++ [.int (iI (zsm (fun n => (if zfo v sp.1 n = true then (co 9 : Int) else 0) + - zwo (zgain v u sp sn co n) (ztk0 v sn md n)) n + y))]) τ Ψ) Φ))) → z_in (nI n) 24 ∧ ((A2 119 n = -1 → zW L xs mX6_filesCost 9 [some (.ref 107), some (.int (nI md)), some (.int (iI (zsm (fun n => (if zfo v sp.1 n = true then (co 9 : Int) else 0) + - zwo (zgain v u sp sn co n) (ztk0 v sn md n)) n + y - 0))), some (.int (nI (n + 1)))] [] (I, R, A2, lo, dd) Φ) ∧ (¬ A2 119 n = -1 → z_in (nI n) 24 ∧ zC L xs mX6_gain [.ref 107, .int (nI n), .int (A2 119 n)] (I, R, A2, lo, dd) (z_kont [] (fun r τ Ψ => zW L xs mX6_filesCost 112 [some (.ref 107), some (.int (nI md)), some (.int (iI (zsm (fun n => (if zfo v sp.1 n = true then (co 9 : Int) else 0) + - zwo (zgain v u sp sn co n) (ztk0 v sn md n)) n + y))), some (.int (nI n))] (r.toList ++ [.int (iI (zsm (fun n => (if zfo v sp.1 n = true then (co 9 : Int) else 0) + - zwo (zgain v u sp sn co n) (ztk0 v sn md n)) n + y))]) τ Ψ) Φ))) := by
        intro y A2 e9 g
        rw [e9, zpn]
        refine ⟨nI_in (by omega) (by omega), g.1, fun q => ⟨nI_in (by omega) (by omega), ?_⟩⟩
        cases e : ztk0 v sn md n with
        | none => exact absurd e q
        | some m => exact g.2 m e
      refine vc_X6_filesCost_9 ⟨by decide, fun _ => ⟨fun q => ⟨nI_in (by omega) (by omega), ?_⟩, fun q => ⟨?_, fun q2 => ⟨nI_in (by omega) (by omega), ?_⟩, fun q2 => ⟨nI_in (by omega) (by omega), nI_in (by omega) (by omega), ?_⟩⟩⟩, fun z => absurd ?_ z⟩
      case refine_5 =>
        rw [fr 108 (by decide), show A 108 (Int32.toNatClampNeg ((159 * 0) + 2)) = nI (vN v) from m2]
        exact nI_lt hn (by omega)
      case refine_2 =>
        rw [zx02 (by omega)]
        exact nI_in (by omega) (by omega)
      case refine_1 =>
        have hmd0 : md = 0 := (nI_eq (b := 0) (by omega) (by decide)).mp q
        rw [nI_clamp (by omega), zx02 (by omega), nI_clamp (n := 159 * 0 + 15 + 6 * n + 2) (by omega), zx05 (by omega), nI_clamp (n := 159 * 0 + 15 + 6 * n + 5) (by omega), nI_1]
        have f2 : ∀ c k, ¬ (c = 119 ∧ k = n) → z_up A' 119 n (-1) c k = A' c k := fun c k hk => zup_n hk
        have f3 : z_up A' 119 n (-1) 119 n = zpI (ztk0 v sn md n) := by
          rw [zup_s]
          unfold ztk0
          rw [if_pos hmd0]
          rfl
        generalize z_up A' 119 n (-1) = A2 at *
        have hk := key A2 f2 f3
        rw [hk.1 108 (by decide), n2 n hn, n5 n hn, nI_clamp (n := vhom v n) (by omega), hk.1 113 (by decide), e3 _ (by omega), zpI_none hpl, hk.1 109 (by decide), (hc 9 (by omega)).1, iI_n (co 9), show (0 : Int32) = iI 0 from rfl, iI_add, iI_add, iI_sub, iI_sub]
        exact ⟨nI_in (by omega) (by omega), fun d => fin 0 A2 f3 (hk.2 0 (by rw [if_neg (fun z => by unfold zfo at z; rw [decide_eq_true d] at z; cases z)])), fun d => ⟨nI_in (by omega) (by omega), nI_in (by omega) (by omega), fun e => fin 0 A2 f3 (hk.2 0 (by rw [if_neg (fun z => by unfold zfo at z; rw [e, Bool.and_comm] at z; cases z)])), fun e => fin (co 9) A2 f3 (hk.2 _ (by
          rw [if_pos]
          unfold zfo
          rw [decide_eq_false d]
          cases y : sp.1 (vhom v n) with
          | none => exact absurd y e
          | some k => rfl))⟩⟩
      case refine_3 =>
        have hmd1 : ¬ md = 0 := fun z => q (by rw [z]; rfl)
        rw [zx02 (by omega), nI_clamp (by omega), fr 108 (by decide), n2 n hn] at q2
        rw [nI_clamp (by omega), zx02 (by omega), nI_clamp (n := 159 * 0 + 15 + 6 * n + 2) (by omega), zx05 (by omega), nI_clamp (n := 159 * 0 + 15 + 6 * n + 5) (by omega), nI_1]
        have f2 : ∀ c k, ¬ (c = 119 ∧ k = n) → z_up A' 119 n (-1) c k = A' c k := fun c k hk => zup_n hk
        have f3 : z_up A' 119 n (-1) 119 n = zpI (ztk0 v sn md n) := by
          rw [zup_s]
          unfold ztk0
          rw [if_neg hmd1, if_pos q2]
          rfl
        generalize z_up A' 119 n (-1) = A2 at *
        have hk := key A2 f2 f3
        rw [hk.1 108 (by decide), n2 n hn, n5 n hn, nI_clamp (n := vhom v n) (by omega), hk.1 113 (by decide), e3 _ (by omega), zpI_none hpl, hk.1 109 (by decide), (hc 9 (by omega)).1, iI_n (co 9), show (0 : Int32) = iI 0 from rfl, iI_add, iI_add, iI_sub, iI_sub]
        exact ⟨nI_in (by omega) (by omega), fun d => fin 0 A2 f3 (hk.2 0 (by rw [if_neg (fun z => by unfold zfo at z; rw [decide_eq_true d] at z; cases z)])), fun d => ⟨nI_in (by omega) (by omega), nI_in (by omega) (by omega), fun e => fin 0 A2 f3 (hk.2 0 (by rw [if_neg (fun z => by unfold zfo at z; rw [e, Bool.and_comm] at z; cases z)])), fun e => fin (co 9) A2 f3 (hk.2 _ (by
          rw [if_pos]
          unfold zfo
          rw [decide_eq_false d]
          cases y : sp.1 (vhom v n) with
          | none => exact absurd y e
          | some k => rfl))⟩⟩
      case refine_4 =>
        have hmd1 : ¬ md = 0 := fun z => q (by rw [z]; rfl)
        rw [zx02 (by omega), nI_clamp (by omega), fr 108 (by decide), n2 n hn] at q2
        have e115 : A' 115 n = zpI (sn.1.1 n) := by rw [fr 115 (by decide)]; exact e5 n (by omega)
        rw [nI_clamp (by omega), zx02 (by omega), nI_clamp (n := 159 * 0 + 15 + 6 * n + 2) (by omega), zx05 (by omega), nI_clamp (n := 159 * 0 + 15 + 6 * n + 5) (by omega), nI_1]
        have f2 : ∀ c k, ¬ (c = 119 ∧ k = n) → z_up A' 119 n (A' 115 n) c k = A' c k := fun c k hk => zup_n hk
        have f3 : z_up A' 119 n (A' 115 n) 119 n = zpI (ztk0 v sn md n) := by
          rw [zup_s]
          unfold ztk0
          rw [if_neg hmd1, if_neg q2]
          exact e115
        generalize z_up A' 119 n (A' 115 n) = A2 at *
        have hk := key A2 f2 f3
        rw [hk.1 108 (by decide), n2 n hn, n5 n hn, nI_clamp (n := vhom v n) (by omega), hk.1 113 (by decide), e3 _ (by omega), zpI_none hpl, hk.1 109 (by decide), (hc 9 (by omega)).1, iI_n (co 9), show (0 : Int32) = iI 0 from rfl, iI_add, iI_add, iI_sub, iI_sub]
        exact ⟨nI_in (by omega) (by omega), fun d => fin 0 A2 f3 (hk.2 0 (by rw [if_neg (fun z => by unfold zfo at z; rw [decide_eq_true d] at z; cases z)])), fun d => ⟨nI_in (by omega) (by omega), nI_in (by omega) (by omega), fun e => fin 0 A2 f3 (hk.2 0 (by rw [if_neg (fun z => by unfold zfo at z; rw [e, Bool.and_comm] at z; cases z)])), fun e => fin (co 9) A2 f3 (hk.2 _ (by
          rw [if_pos]
          unfold zfo
          rw [decide_eq_false d]
          cases y : sp.1 (vhom v n) with
          | none => exact absurd y e
          | some k => rfl))⟩⟩
  exact vc_X6_filesCost_5 (first 0 (Nat.zero_le _) A (fun _ _ => rfl) (fun k hk => absurd hk (Nat.not_lt_zero _)))
end
