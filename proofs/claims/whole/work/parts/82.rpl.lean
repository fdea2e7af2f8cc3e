/-! the replay: present, agreement, readyAfter -/
theorem zops_num {v u : zV} {sp sn : zM} (hp : zmo (vP v) (vP u) sp) (hn : zmo (vN v) (vN u) sn) (h1 : vP v ≤ 4) (h2 : vP u ≤ 4) (h3 : vN v ≤ 24) (h4 : vN u ≤ 24) {e : zOp} (h : e ∈ zops v u sp sn) : (∀ k, e.2.1 = some k → k < 24) ∧ (∀ k, e.2.2 = some k → k < 24) ∧ (e.1 = 0 → ∃ p, e.2.1 = some p ∧ p < 4) := by
  rcases zops_mem h with ⟨i, a, rfl, b⟩ | ⟨i, j, k, a, b, c, d, rfl⟩ | ⟨j, a, rfl, b⟩ | ⟨j, a, rfl, b⟩ | ⟨i, j, k, a, b, c, rfl⟩ | ⟨i, a, rfl, b, c⟩ | rfl
  · exact ⟨fun k z => (by cases z; omega), fun k z => (by cases z), fun _ => ⟨i, rfl, by omega⟩⟩
  · have := (hp.1 i j b).2.1
    exact ⟨fun k z => (by cases z; omega), fun k z => (by cases z; omega), fun z => by have : k = 0 := z; omega⟩
  · exact ⟨fun k z => (by cases z), fun k z => (by cases z; omega), fun z => absurd (show 3 = 0 from z) (by decide)⟩
  · exact ⟨fun k z => (by cases z), fun k z => (by cases z; omega), fun z => absurd (show 4 = 0 from z) (by decide)⟩
  · have := (hn.1 i j b).2.1
    exact ⟨fun k z => (by cases z; omega), fun k z => (by cases z; omega), fun z => by have : 5 + k = 0 := z; omega⟩
  · exact ⟨fun k z => (by cases z; omega), fun k z => (by cases z), fun z => absurd (show 9 = 0 from z) (by decide)⟩
  · exact ⟨fun k z => (by cases z), fun k z => (by cases z), fun z => absurd (show 10 = 0 from z) (by decide)⟩
theorem zOl_num {s : zAb} (hok : zOK s) {e : zOp} (h : e ∈ zOl s) : (∀ k, e.2.1 = some k → k < 24) ∧ (∀ k, e.2.2 = some k → k < 24) ∧ (e.1 = 0 → ∃ p, e.2.1 = some p ∧ p < 4) := zops_num (zmo_pa _ _) (zmk_na _ _).1 (hok.1 0 (by decide)).1 (hok.1 1 (by decide)).1 (hok.1 0 (by decide)).2.1 (hok.1 1 (by decide)).2.1 h
def zF_present (s : zAb) (x : Int32) : zOc := match zix x ((zOl s).length + 1) with
  | none => (1, 0, s)
  | some n => (0, zps (sV s 0) (zOl s) n, s)
def zF_agreement (s : zAb) (x : Int32) : zOc := match zix x ((zOl s).length + 1) with
  | none => (1, 0, s)
  | some n => (0, nI (zcnt (fun j => decide (zl (zq13 j) (zOl s) ≤ n)) (vP (sV s 1)) + zcnt (fun j => decide (zl (zq48 j) (zOl s) ≤ n)) (vN (sV s 1))), s)
def zF_readyAfter (s : zAb) (x : Int32) : zOc := match zix x (vN (sV s 1)) with
  | none => (1, 0, s)
  | some n => (0, nI (zl (zq48 n) (zOl s)), s)
theorem zcf_le (l : List zOp) (p : zOp → Bool) (n : Nat) : zcf l p n ≤ l.length := Nat.le_trans (zcnt_le _ _) (Nat.sub_le _ _)
theorem zcnt_t {f : Nat → Bool} {n : Nat} (h : f n = true) : zcnt f (n + 1) = zcnt f n + 1 := by
  conv => lhs; unfold zcnt
  rw [h]; rfl
theorem zcnt_f {f : Nat → Bool} {n : Nat} (h : f n = false) : zcnt f (n + 1) = zcnt f n + 0 := by
  conv => lhs; unfold zcnt
  rw [h]; rfl
section
variable {L : Nat} {xs : Nat → Int32} {I : Nat → Nat → Int32} {R : Nat → Nat → Option Nat} {A : Nat → Nat → Int32} {lo : Int64} {dd : UInt64} {Φ : zPo} {s : zAb} {o w sp : Nat} {x y z : Int32}
theorem z5_present (hok : zOK s) (hs : zS5 o w sp s I R A) (hk : zK0 [(0, 1)] (zF_present s x) I R A lo dd Φ) : zC L xs mX5_present [.ref 0, .int x] (I, R, A, lo, dd) Φ := by
  have hl := zOl_le hok
  refine zC_en (vc_X5_present_0 (z5_refresh hok hs (fun I' R' A' hs' hf hg => zk_r ?_)))
  obtain ⟨ho, hw, r5, r6, hv, hu, hc⟩ := zS5_go hs'
  have hS : cSc 54 (zOl s) I' A' := hf.2.2.2.2.2.1
  refine vc_X5_present_4 ho r5 ?_
  rw [hS.1]
  refine zh_rg (by omega) (fun n hn e => ?_) (fun hno => zK0_t hk (k := 0) (x := 0) (s' := s) (by unfold zF_present; rw [zix_n (fun n hn => hno n (by omega))]) rfl hs' hg)
  subst e
  exact s4_presentAfter (f := 54) (Or.inl rfl) ho hv (hok.1 0 (by decide)) hS hl zOl_k (fun e he => (zOl_num hok he).2.2) hn (zk_r (vc_X5_present_21 (zK0_r hk (by unfold zF_present; rw [zix_s (by omega) (by omega)]) hs' hg)))
theorem z5_agreement (hok : zOK s) (hs : zS5 o w sp s I R A) (hk : zK0 [(0, 1)] (zF_agreement s x) I R A lo dd Φ) : zC L xs mX5_agreement [.ref 0, .int x] (I, R, A, lo, dd) Φ := by
  have hl := zOl_le hok
  refine zC_en (vc_X5_agreement_0 (z5_refresh hok hs (fun I' R' A' hs' hf hg => zk_r ?_)))
  obtain ⟨ho, hw, r5, r6, hv, hu, hc⟩ := zS5_go hs'
  have hS : cSc 54 (zOl s) I' A' := hf.2.2.2.2.2.1
  refine vc_X5_agreement_4 hw r6 ?_
  rw [hS.1]
  refine zh_rg (by omega) (fun n hn e => ?_) (fun hno => zK0_t hk (k := 0) (x := 0) (s' := s) (by unfold zF_agreement; rw [zix_n (fun n hn => hno n (by omega))]) rfl hs' hg)
  subst e
  exact s4_agreementAfter (f := 54) (Or.inl rfl) hw hu (hok.1 1 (by decide)) (l := zOl s) hl hf.2.2.2.2.2.2.1 hf.2.2.2.2.2.2.2 hn (zk_r (vc_X5_agreement_21 (zK0_r hk (by unfold zF_agreement; rw [zix_s (by omega) (by omega)]) hs' hg)))
theorem z5_readyAfter (hok : zOK s) (hs : zS5 o w sp s I R A) (hk : zK0 [(0, 1)] (zF_readyAfter s x) I R A lo dd Φ) : zC L xs mX5_readyAfter [.ref 0, .int x] (I, R, A, lo, dd) Φ := by
  obtain ⟨ho, hw, r5, r6, hv, hu, hc⟩ := zS5_go hs
  have w2 := (hok.1 1 (by decide)).2.1
  refine zC_en (vc_X5_readyAfter_0 hw r6 ?_)
  rw [hu.2.2.1]
  refine zh_nd (by omega) (fun n hn e => z5_refresh hok hs (fun I' R' A' hs' hf hg => zk_r (vc_X5_readyAfter_12 ?_))) (fun hno => zK0_t hk (k := 0) (x := 0) (s' := s) (by unfold zF_readyAfter; rw [zix_n hno]) rfl hs (zG5_rf _ _ _))
  subst e
  rw [nI_clamp (by omega), show A' 59 n = nI (zl (zq48 n) (zOl s)) from hf.2.2.2.2.2.2.2 n hn]
  exact ⟨nI_in (by omega) (by decide), zK0_r hk (by unfold zF_readyAfter; rw [zix_s hn (by omega)]) hs' hg⟩
theorem z6_readyAfter (hok : zOK s) (hm : zM6 s I A) (hk : zK6 (zF_readyAfter s x) I R A lo dd Φ) : zC L xs mX6_readyAfter [.ref 107, .int x] (I, R, A, lo, dd) Φ := by
  have hl := zOl_le hok
  have m0 : ∀ x, zM6 s (z_up I 107 0 x) A := fun x => zM6_up hm (by omega)
  have w2 := (hok.1 1 (by decide)).2.1
  refine zC_en (vc_X6_readyAfter_0 (zh_6i (k := 1) (by decide) hm.2.2.2.1 w2 (fun n hn e => zh_ok ?_) (fun hno => zh_ng (by decide) (zK6_e hk (k := 1) (v := 0) (s' := s) (by unfold zF_readyAfter; rw [zix_n hno]) (m0 _) zG6_up (zup_s.trans rfl) (fun _ => rfl)))))
  subst e
  refine z6_scr hok (m0 _) (fun I' A' e0 hm' hg hE hS => zk_r (vc_X6_readyAfter_32 ?_))
  have hS1 := hS.1
  have key : ∀ i, i ≤ (zOl s).length → zW L xs mX6_readyAfter 36 [some (.ref 107), some (.int (nI n)), some (.int (nI (zlf (fun k => zq48 n (zat (zOl s) k)) i))), some (.int (nI i))] [] (I', R, A', lo, dd) Φ := by
    refine ze_up ?_ ?_
    · refine vc_X6_readyAfter_36 ?_
      rw [hS1]
      exact ⟨fun q => absurd ((nI_ltI (by omega) (by omega)).mp q) (Nat.lt_irrefl _), fun _ => zK6_e hk (k := 0) (v := nI (zl (zq48 n) (zOl s))) (s' := s) (by unfold zF_readyAfter; rw [zix_s hn (by omega)]) hm' (zG6_tr zG6_up hg) (by rw [e0, zup_s]; rfl) (fun _ => rfl)⟩
    · intro i hi ih
      obtain ⟨e1, e2, e3⟩ := hS.2 i hi
      have h10 := zOl_k (s := s) _ (zat_mem hi)
      have h24 := (zOl_num hok (zat_mem hi)).2.1
      have hno : zq48 n (zat (zOl s) i) = false → zlf (fun k => zq48 n (zat (zOl s) k)) (i + 1) = zlf (fun k => zq48 n (zat (zOl s) k)) i := fun z => by
        conv => lhs; unfold zlf
        rw [z]; rfl
      have hyes : zq48 n (zat (zOl s) i) = true → zlf (fun k => zq48 n (zat (zOl s) k)) (i + 1) = i + 1 := fun z => by
        conv => lhs; unfold zlf
        rw [z]; rfl
      refine vc_X6_readyAfter_36 ?_
      simp (disch := omega) only [ze_lit, pk_mul, nI_add, nI_clamp, ze_inI, nI_ltI, nI_eq, hS1, e1, e3]
      refine ⟨fun _ => ⟨by omega, fun q => ?_, fun q => ⟨fun q2 => ?_, fun q2 => ⟨by omega, fun q3 => ?_, fun q3 => ?_⟩⟩⟩, fun q => absurd hi q⟩
      · rw [hno (zq48_f (by omega))] at ih
        exact ih
      · rw [hno (zq48_f (by omega))] at ih
        exact ih
      · have q3 := (zpI_eqn (fun j z => by have := h24 j z; omega) (by omega)).mp q3
        rw [hyes (decide_eq_true ⟨by omega, by omega, q3⟩)] at ih
        exact ih
      · rw [hno (decide_eq_false (fun z => q3 ((zpI_eqn (fun j z => by have := h24 j z; omega) (by omega)).mpr z.2.2)))] at ih
        exact ih
  exact key 0 (Nat.zero_le _)
theorem z6_isReplay (hok : zOK s) (hm : zM6 s I A) (h1 : ∀ (n : Nat) (I' A' : Nat → Nat → Int32), n ≤ (zOl s).length → x = nI n → I' 107 0 = 0 → zM6 s I' A' → zG6 I A I' A' → mEn 0 1 (sV s 0) (sV s 1) (zpa (sV s 0) (sV s 1)) (zna (sV s 0) (sV s 1)) I' A' → mSc (zOl s) I' A' → Φ (.inl (some (.int 1))) (I', R, A', lo, dd) 0) (h0 : (∀ n, n ≤ (zOl s).length → x ≠ nI n) → ∀ I' A' : Nat → Nat → Int32, I' 107 0 = 1 → zM6 s I' A' → zG6 I A I' A' → Φ (.inl (some (.int 0))) (I', R, A', lo, dd) 0) : zC L xs mX6_isReplay [.ref 107, .int x] (I, R, A, lo, dd) Φ := by
  have hl := zOl_le hok
  refine zC_en (vc_X6_isReplay_0 (z6_scr hok hm (fun I' A' e0 hm' hg hE hS => zk_r (vc_X6_isReplay_5 ?_))))
  rw [hS.1]
  refine zh_rg (by omega) (fun n hn e => ⟨fun _ => ?_, fun z => absurd zup_s z⟩) (fun hno => ⟨fun z => ?_, fun _ => ?_⟩)
  · exact h1 n _ A' hn e zup_s (zM6_up hm' (by omega)) (zG6_tr hg zG6_up) ⟨by rw [zup_n (by omega)]; exact hE.1, by rw [zup_n (by omega)]; exact hE.2.1, hE.2.2⟩ ⟨by rw [zup_n (by omega)]; exact hS.1, hS.2⟩
  · rw [zup_s] at z
    exact absurd z (by decide)
  · exact h0 hno _ A' zup_s (zM6_up hm' (by omega)) (zG6_tr hg zG6_up)
theorem z6_present (hok : zOK s) (hm : zM6 s I A) (hk : zK6 (zF_present s x) I R A lo dd Φ) : zC L xs mX6_present [.ref 107, .int x] (I, R, A, lo, dd) Φ := by
  have hl := zOl_le hok
  have hwf := hok.1 0 (by decide)
  have w1 := hwf.1
  have w2 := hwf.2.1
  have w3 := hwf.2.2.1
  refine zC_en (vc_X6_present_0 (z6_isReplay hok hm (fun n I' A' hn e e0 hm' hg hE hS => zk_r (vc_X6_present_5 ⟨fun z => absurd z (by decide), fun _ => ?_⟩)) (fun hno I' A' e0 hm' hg => zk_r (vc_X6_present_5 ⟨fun _ => zK6_e hk (k := 1) (v := 0) (s' := s) (by unfold zF_present; rw [zix_n (fun n hn => hno n (by omega))]) hm' hg e0 (fun _ => rfl), fun z => absurd rfl z⟩))))
  subst e
  refine s6_opsTo (k := 4) hS hl zOl_k hn (by decide) (zk_r (vc_X6_present_16 ?_))
  obtain ⟨ea, eb, hv, hu, ⟨hp1, hp2⟩, hn1, hn2, hn3⟩ := hE
  have hN : A' 108 (159 * 0 + 2) = nI (vN (sV s 0)) := hv.2.2.1
  obtain ⟨c0, hc0⟩ : ∃ c0, c0 = zcnt (fun i => decide ((zat (zOl s) i).1 = 4)) n := ⟨_, rfl⟩
  have hc105 : c0 ≤ 105 := by have := zcnt_le (fun i => decide ((zat (zOl s) i).1 = 4)) n; omega
  rw [← hc0]
  obtain ⟨f, hf⟩ : ∃ f : Nat → Bool, f = fun m => !(zgn (sV s 0) (zpa (sV s 0) (sV s 1)) (zna (sV s 0) (sV s 1)).1 (zOl s) n m) := ⟨_, rfl⟩
  have key : ∀ i, i ≤ vN (sV s 0) → ∀ zx4 zx5, zW L xs mX6_present 19 [some (.ref 107), some (.int (nI n)), some (.int (nI (c0 + zcnt f i))), some (.int (nI i)), zx4, zx5] [] (I', R, A', lo, dd) Φ := by
    refine ze_up ?_ ?_
    · intro zx4 zx5
      refine vc_X6_present_19 ?_
      simp (disch := omega) only [ze_lit, pk_mul, nI_add, nI_clamp, ze_inI, nI_ltI, nI_eq, hN]
      refine ⟨by decide, fun q => absurd q (Nat.lt_irrefl _), fun _ => zK6_e hk (k := 0) (s' := s) (v := zps (sV s 0) (zOl s) n) (by unfold zF_present; rw [zix_s (by omega) (by omega)]) hm' hg e0 (fun _ => ?_)⟩
      rw [hc0, hf]
      exact (zpsok (sp := zpa (sV s 0) (sV s 1)) (sn := (zna (sV s 0) (sV s 1)).1) hwf hn).symm
    · intro i hi ih zx4 zx5
      have hh := w3 i hi
      have e5 : A' 108 (159 * 0 + 15 + 6 * i + 5) = nI (vhom (sV s 0) i) := hv.2.2.2.2.2.2.2.2.2.2.2 i hi
      have ep := hp1 (vhom (sV s 0) i) (by omega)
      have en := hn1 i (by omega)
      have yes : f i = true → ∀ zx4 zx5, zW L xs mX6_present 19 [some (.ref 107), some (.int (nI n)), some (.int (nI (c0 + zcnt f i) + 1)), some (.int (nI i + 1)), zx4, zx5] [] (I', R, A', lo, dd) Φ := fun z zx4 zx5 => by
        have := ih zx4 zx5
        rw [zcnt_t z] at this
        rw [nI_1, nI_1]
        exact this
      have no : f i = false → ∀ zx4 zx5, zW L xs mX6_present 19 [some (.ref 107), some (.int (nI n)), some (.int (nI (c0 + zcnt f i) + 0)), some (.int (nI i + 1)), zx4, zx5] [] (I', R, A', lo, dd) Φ := fun z zx4 zx5 => by
        have := ih zx4 zx5
        rw [zcnt_f z] at this
        rw [show (0 : Int32) = nI 0 from rfl, nI_add, nI_1]
        exact this
      refine vc_X6_present_19 ?_
      have x2 : ((159 : Int32) * 0) + 2 = nI (159 * 0 + 2) := rfl
      have x5 : (((159 : Int32) * 0) + 15) + (6 * nI i) + 5 = nI (159 * 0 + 15 + 6 * i + 5) := by simp (disch := omega) only [ze_lit, pk_mul, nI_add, nI_clamp, ze_inI, nI_ltI, nI_eq]
      rw [x2, x5, nI_clamp (show 159 * 0 + 2 < 2 ^ 31 by decide), nI_clamp (show 159 * 0 + 15 + 6 * i + 5 < 2 ^ 31 by omega), hN, e5, nI_clamp (show vhom (sV s 0) i < 2 ^ 31 by omega), nI_clamp (show i < 2 ^ 31 by omega), ep, en]
      refine ⟨nI_in (by decide) (by decide), fun _ => ⟨nI_in (by omega) (by decide), nI_in (by omega) (by decide), fun q => ?_, fun q => ⟨nI_in (by omega) (by decide), fun q2 => ?_, fun q2 => ?_⟩⟩, fun q => absurd (nI_lt hi (by omega)) q⟩
      · have q : (zpa (sV s 0) (sV s 1)).1 (vhom (sV s 0) i) = none := (zpI_none (fun k z => by have := ((zmo_pa (sV s 0) (sV s 1)).1 _ k z).2.1; have := (hok.1 1 (by decide)).1; omega)).mp q
        refine s6_opsFrom (lw := 0) (hi := 0) hS hl zOl_k (fun e he => (zOl_num hok he).1) hn (by decide) (by decide) (by omega) (zk_r (vc_X6_present_57 ⟨fun z => no ?_ _ _, fun z => yes ?_ _ _⟩))
        · have z : zcf (zOl s) (zqf 0 0 (vhom (sV s 0) i)) n = 0 := (nI_eq (b := 0) (by have := zcf_le (zOl s) (zqf 0 0 (vhom (sV s 0) i)) n; omega) (by decide)).mp z
          rw [hf]
          dsimp only
          unfold zgn
          rw [if_pos q, decide_eq_true z]; rfl
        · have z : ¬ zcf (zOl s) (zqf 0 0 (vhom (sV s 0) i)) n = 0 := fun w => z (by show nI (zcf (zOl s) (zqf 0 0 (vhom (sV s 0) i)) n) = 0; rw [w]; rfl)
          rw [hf]
          dsimp only
          unfold zgn
          rw [if_pos q, decide_eq_false z]; rfl
      · have q : ¬ (zpa (sV s 0) (sV s 1)).1 (vhom (sV s 0) i) = none := fun z => q (by rw [z]; rfl)
        have q2 : (zna (sV s 0) (sV s 1)).1.1 i = none := (zpI_none (fun k z => by have := ((zmk_na (sV s 0) (sV s 1)).1.1 _ k z).2.1; have := (hok.1 1 (by decide)).2.1; omega)).mp q2
        refine s6_opsFrom (lw := 9) (hi := 9) hS hl zOl_k (fun e he => (zOl_num hok he).1) hn (by decide) (by decide) (by omega) (zk_r (vc_X6_present_88 ⟨fun z => no ?_ _ _, fun z => yes ?_ _ _⟩))
        · have z : zcf (zOl s) (zqf 9 9 i) n = 0 := (nI_eq (b := 0) (by have := zcf_le (zOl s) (zqf 9 9 i) n; omega) (by decide)).mp z
          rw [hf]
          dsimp only
          unfold zgn
          rw [if_neg q, decide_eq_true q2, decide_eq_true z]; rfl
        · have z : ¬ zcf (zOl s) (zqf 9 9 i) n = 0 := fun w => z (by show nI (zcf (zOl s) (zqf 9 9 i) n) = 0; rw [w]; rfl)
          rw [hf]
          dsimp only
          unfold zgn
          rw [if_neg q, decide_eq_true q2, decide_eq_false z]; rfl
      · have q : ¬ (zpa (sV s 0) (sV s 1)).1 (vhom (sV s 0) i) = none := fun z => q (by rw [z]; rfl)
        have q2 : ¬ (zna (sV s 0) (sV s 1)).1.1 i = none := fun z => q2 (by rw [z]; rfl)
        refine yes ?_ _ _
        rw [hf]
        dsimp only
        unfold zgn
        rw [if_neg q, decide_eq_false q2]; rfl
  exact key 0 (Nat.zero_le _) _ _
theorem z6_agreement (hok : zOK s) (hm : zM6 s I A) (hk : zK6 (zF_agreement s x) I R A lo dd Φ) : zC L xs mX6_agreement [.ref 107, .int x] (I, R, A, lo, dd) Φ := by
  have hl := zOl_le hok
  have hwf := hok.1 0 (by decide)
  have w1 := hwf.1
  have w2 := hwf.2.1
  refine zC_en (vc_X6_agreement_0 (z6_isReplay hok hm (fun n I' A' hn e e0 hm' hg hE hS => zk_r (vc_X6_agreement_5 ⟨fun z => absurd z (by decide), fun _ => ?_⟩)) (fun hno I' A' e0 hm' hg => zk_r (vc_X6_agreement_5 ⟨fun _ => zK6_e hk (k := 1) (v := 0) (s' := s) (by unfold zF_agreement; rw [zix_n (fun n hn => hno n (by omega))]) hm' hg e0 (fun _ => rfl), fun z => absurd rfl z⟩))))
  subst e
  refine s6_opsTo (k := 3) hS hl zOl_k hn (by decide) (zk_r (vc_X6_agreement_16 ?_))
  refine s6_opsTo (k := 4) hS hl zOl_k hn (by decide) (zk_r (vc_X6_agreement_22 ?_))
  obtain ⟨ea, eb, hv, hu, ⟨hp1, hp2⟩, hn1, hn2, hn3⟩ := hE
  have hN : A' 108 (159 * 0 + 2) = nI (vN (sV s 0)) := hv.2.2.1
  have hP : A' 108 (159 * 0 + 1) = nI (vP (sV s 0)) := hv.2.1
  rw [nI_add]
  obtain ⟨c0, hc0⟩ : ∃ c0, c0 = zcnt (fun i => decide ((zat (zOl s) i).1 = 3)) n + zcnt (fun i => decide ((zat (zOl s) i).1 = 4)) n := ⟨_, rfl⟩
  have hc105 : c0 ≤ 210 := by
    have := zcnt_le (fun i => decide ((zat (zOl s) i).1 = 3)) n
    have := zcnt_le (fun i => decide ((zat (zOl s) i).1 = 4)) n
    omega
  rw [← hc0]
  obtain ⟨f, hf⟩ : ∃ f : Nat → Bool, f = fun i => decide (¬ (zpa (sV s 0) (sV s 1)).1 i = none) && decide (zcf (zOl s) (zqf 1 2 i) n = 0) := ⟨_, rfl⟩
  obtain ⟨g, hgg⟩ : ∃ g : Nat → Bool, g = fun i => decide (¬ (zna (sV s 0) (sV s 1)).1.1 i = none) && decide (zcf (zOl s) (zqf 5 8 i) n = 0) := ⟨_, rfl⟩
  have x2 : ((159 : Int32) * 0) + 2 = nI (159 * 0 + 2) := rfl
  have x1 : ((159 : Int32) * 0) + 1 = nI (159 * 0 + 1) := rfl
  have key2 : ∀ i, i ≤ vN (sV s 0) → zW L xs mX6_agreement 72 [some (.ref 107), some (.int (nI n)), some (.int (nI (c0 + zcnt f (vP (sV s 0)) + zcnt g i))), some (.int (nI i))] [] (I', R, A', lo, dd) Φ := by
    refine ze_up ?_ ?_
    · refine vc_X6_agreement_72 ?_
      rw [x2, nI_clamp (by decide), hN]
      refine ⟨nI_in (by decide) (by decide), fun q => absurd ((nI_ltI (by omega) (by omega)).mp q) (Nat.lt_irrefl _), fun _ => zK6_e hk (k := 0) (s' := s) (v := nI (zcnt (fun j => decide (zl (zq13 j) (zOl s) ≤ n)) (vP (sV s 1)) + zcnt (fun j => decide (zl (zq48 j) (zOl s) ≤ n)) (vN (sV s 1)))) (by unfold zF_agreement; rw [zix_s (by omega) (by omega)]) hm' hg e0 (fun _ => ?_)⟩
      have a1 := zagrP (v := sV s 0) (u := sV s 1) (sp := zpa (sV s 0) (sV s 1)) (sn := (zna (sV s 0) (sV s 1)).1) (zmo_pa _ _) hn
      have a2 := zagrN (v := sV s 0) (u := sV s 1) (sp := zpa (sV s 0) (sV s 1)) (sn := (zna (sV s 0) (sV s 1)).1) (zmk_na _ _).1 hn
      rw [hc0, hf, hgg]
      congr 1
      have e1 : zOl s = zops (sV s 0) (sV s 1) (zpa (sV s 0) (sV s 1)) (zna (sV s 0) (sV s 1)).1 := rfl
      rw [e1]
      omega
    · intro i hi ih
      have en := hn1 i (by omega)
      have yes : g i = true → zW L xs mX6_agreement 72 [some (.ref 107), some (.int (nI n)), some (.int (nI (c0 + zcnt f (vP (sV s 0)) + zcnt g i) + 1)), some (.int (nI i + 1))] [] (I', R, A', lo, dd) Φ := fun z => by
        rw [zcnt_t z] at ih
        rw [nI_1, nI_1]
        exact ih
      have no : g i = false → zW L xs mX6_agreement 72 [some (.ref 107), some (.int (nI n)), some (.int (nI (c0 + zcnt f (vP (sV s 0)) + zcnt g i) + 0)), some (.int (nI i + 1))] [] (I', R, A', lo, dd) Φ := fun z => by
        rw [zcnt_f z] at ih
        rw [show (0 : Int32) = nI 0 from rfl, nI_add, nI_1]
        exact ih
      refine vc_X6_agreement_72 ?_
      rw [x2, nI_clamp (show 159 * 0 + 2 < 2 ^ 31 by decide), hN, nI_clamp (show i < 2 ^ 31 by omega), en]
      refine ⟨nI_in (by decide) (by decide), fun _ => ⟨nI_in (by omega) (by decide), fun q => ?_, fun q => ?_⟩, fun q => absurd (nI_lt hi (by omega)) q⟩
      · have q : (zna (sV s 0) (sV s 1)).1.1 i = none := (zpI_none (fun k z => by have := ((zmk_na (sV s 0) (sV s 1)).1.1 _ k z).2.1; have := (hok.1 1 (by decide)).2.1; omega)).mp q
        refine no ?_
        rw [hgg]
        dsimp only
        rw [decide_eq_false (fun z => z q)]; rfl
      · have q : ¬ (zna (sV s 0) (sV s 1)).1.1 i = none := fun z => q (by rw [z]; rfl)
        refine s6_opsFrom (lw := 5) (hi := 8) hS hl zOl_k (fun e he => (zOl_num hok he).1) hn (by decide) (by decide) (by omega) (zk_r (vc_X6_agreement_101 ⟨fun z => yes ?_, fun z => no ?_⟩))
        · have z : zcf (zOl s) (zqf 5 8 i) n = 0 := (nI_eq (b := 0) (by have := zcf_le (zOl s) (zqf 5 8 i) n; omega) (by decide)).mp z
          rw [hgg]
          dsimp only
          rw [decide_eq_true q, decide_eq_true z]; rfl
        · have z : ¬ zcf (zOl s) (zqf 5 8 i) n = 0 := fun w => z (by show nI (zcf (zOl s) (zqf 5 8 i) n) = 0; rw [w]; rfl)
          rw [hgg]
          dsimp only
          rw [decide_eq_true q, decide_eq_false z]; rfl
  have key1 : ∀ i, i ≤ vP (sV s 0) → zW L xs mX6_agreement 26 [some (.ref 107), some (.int (nI n)), some (.int (nI (c0 + zcnt f i))), some (.int (nI i))] [] (I', R, A', lo, dd) Φ := by
    refine ze_up ?_ ?_
    · refine vc_X6_agreement_26 ?_
      rw [x1, nI_clamp (by decide), hP]
      exact ⟨nI_in (by decide) (by decide), fun q => absurd ((nI_ltI (by omega) (by omega)).mp q) (Nat.lt_irrefl _), fun _ => key2 0 (Nat.zero_le _)⟩
    · intro i hi ih
      have ep := hp1 i (by omega)
      have yes : f i = true → zW L xs mX6_agreement 26 [some (.ref 107), some (.int (nI n)), some (.int (nI (c0 + zcnt f i) + 1)), some (.int (nI i + 1))] [] (I', R, A', lo, dd) Φ := fun z => by
        rw [zcnt_t z] at ih
        rw [nI_1, nI_1]
        exact ih
      have no : f i = false → zW L xs mX6_agreement 26 [some (.ref 107), some (.int (nI n)), some (.int (nI (c0 + zcnt f i) + 0)), some (.int (nI i + 1))] [] (I', R, A', lo, dd) Φ := fun z => by
        rw [zcnt_f z] at ih
        rw [show (0 : Int32) = nI 0 from rfl, nI_add, nI_1]
        exact ih
      refine vc_X6_agreement_26 ?_
      rw [x1, nI_clamp (show 159 * 0 + 1 < 2 ^ 31 by decide), hP, nI_clamp (show i < 2 ^ 31 by omega), ep]
      refine ⟨nI_in (by decide) (by decide), fun _ => ⟨nI_in (by omega) (by decide), fun q => ?_, fun q => ?_⟩, fun q => absurd (nI_lt hi (by omega)) q⟩
      · have q : (zpa (sV s 0) (sV s 1)).1 i = none := (zpI_none (fun k z => by have := ((zmo_pa (sV s 0) (sV s 1)).1 _ k z).2.1; have := (hok.1 1 (by decide)).1; omega)).mp q
        refine no ?_
        rw [hf]
        dsimp only
        rw [decide_eq_false (fun z => z q)]; rfl
      · have q : ¬ (zpa (sV s 0) (sV s 1)).1 i = none := fun z => q (by rw [z]; rfl)
        refine s6_opsFrom (lw := 1) (hi := 2) hS hl zOl_k (fun e he => (zOl_num hok he).1) hn (by decide) (by decide) (by omega) (zk_r (vc_X6_agreement_54 ⟨fun z => yes ?_, fun z => no ?_⟩))
        · have z : zcf (zOl s) (zqf 1 2 i) n = 0 := (nI_eq (b := 0) (by have := zcf_le (zOl s) (zqf 1 2 i) n; omega) (by decide)).mp z
          rw [hf]
          dsimp only
          rw [decide_eq_true q, decide_eq_true z]; rfl
        · have z : ¬ zcf (zOl s) (zqf 1 2 i) n = 0 := fun w => z (by show nI (zcf (zOl s) (zqf 1 2 i) n) = 0; rw [w]; rfl)
          rw [hf]
          dsimp only
          rw [decide_eq_true q, decide_eq_false z]; rfl
  exact key1 0 (Nat.zero_le _)
end
