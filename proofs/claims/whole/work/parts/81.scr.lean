/-! the script: operations, operation, operationsOf, cost, costBack, setCost -/
def zOl (s : zAb) : List zOp := zops (sV s 0) (sV s 1) (zpa (sV s 0) (sV s 1)) (zna (sV s 0) (sV s 1)).1
def zOb (s : zAb) : List zOp := zops (sV s 1) (sV s 0) (zpa (sV s 1) (sV s 0)) (zna (sV s 1) (sV s 0)).1
theorem zOl_le {s : zAb} (hok : zOK s) : (zOl s).length ≤ 105 := zops_le _ _ _ _ (zmo_pa _ _) (zmk_na _ _).1 (hok.1 0 (by decide)).1 (hok.1 1 (by decide)).1 (hok.1 0 (by decide)).2.1 (hok.1 1 (by decide)).2.1
theorem zOb_le {s : zAb} (hok : zOK s) : (zOb s).length ≤ 105 := zops_le _ _ _ _ (zmo_pa _ _) (zmk_na _ _).1 (hok.1 1 (by decide)).1 (hok.1 0 (by decide)).1 (hok.1 1 (by decide)).2.1 (hok.1 0 (by decide)).2.1
def zopv (e : zOp) (w : Nat) : Int32 := if w = 0 then nI e.1 else if w = 1 then zpI e.2.1 else zpI e.2.2
def zF_operation (s : zAb) (x y : Int32) : zOc := match zix x (zOl s).length with
  | none => (1, 0, s)
  | some k => match zix y 3 with
    | none => (2, 0, s)
    | some w => (0, zopv (zat (zOl s) k) w, s)
def zF_operationsOf (s : zAb) (x : Int32) : zOc := match zix x 11 with
  | none => (1, 0, s)
  | some k => (0, nI (zcnt (fun i => decide ((zat (zOl s) i).1 = k)) (zOl s).length), s)
def sOw (s : zAb) (k c : Nat) : zAb := (sT s, sC s, sE s, sV s, zse (sO s) k c, sP s)
def zF_setCost (s : zAb) (x y : Int32) : zOc := match zix x 11 with
  | none => (1, 0, s)
  | some k => match zix y 100 with
    | none => (1, 0, s)
    | some c => (0, nI (sO s k), sOw s k c)
theorem zOK_setCost {s : zAb} {x y : Int32} (h : zOK s) : zOK (zF_setCost s x y).2.2 := by
  unfold zF_setCost
  cases zix x 11 with
  | none => exact h
  | some k =>
    dsimp only
    cases zix y 100 with
    | none => exact h
    | some c => exact h
theorem zOl_k {s : zAb} : ∀ e, e ∈ zOl s → e.1 ≤ 10 := fun e he => zops_kind he
section
variable {L : Nat} {xs : Nat → Int32} {I : Nat → Nat → Int32} {R : Nat → Nat → Option Nat} {A : Nat → Nat → Int32} {lo : Int64} {dd : UInt64} {Φ : zPo} {s : zAb} {o w sp : Nat} {x y z : Int32}
theorem z6_scr (hok : zOK s) (hm : zM6 s I A) (h : ∀ I' A' : Nat → Nat → Int32, I' 107 0 = I 107 0 → zM6 s I' A' → zG6 I A I' A' → mEn 0 1 (sV s 0) (sV s 1) (zpa (sV s 0) (sV s 1)) (zna (sV s 0) (sV s 1)) I' A' → mSc (zOl s) I' A' → Φ (.inl none) (I', R, A', lo, dd) 0) : zC L xs mX6_scripts [.ref 107, .int 0] (I, R, A, lo, dd) Φ := by
  have hv := hm.2.2.1
  have hu := hm.2.2.2.1
  refine s6_scripts (ia := 0) (ib := 1) (by decide) rfl hv hu (hok.1 0 (by decide)) (hok.1 1 (by decide)) (fun I' A' f1 g1 hE hS => ?_)
  exact h I' A' (f1 _ _ (by omega)) (zM6_fr hm (fun j hj => f1 _ _ (by omega)) (fun c c1 c2 => g1 c (by omega))) (fun c hc => ⟨by funext j; exact f1 _ _ (by omega), g1 c (by omega)⟩) hE hS
theorem z5_operations (hok : zOK s) (hs : zS5 o w sp s I R A) (hk : zK0 [] (0, nI (zOl s).length, s) I R A lo dd Φ) : zC L xs mX5_operations [.ref 0] (I, R, A, lo, dd) Φ := by
  refine zC_en (vc_X5_operations_0 (z5_refresh hok hs (fun I' R' A' hs' hf hg => zk_r (vc_X5_operations_4 ?_))))
  rw [hf.2.2.2.2.2.1.1]
  exact zK0_r hk rfl hs' hg
theorem z6_operations (hok : zOK s) (hm : zM6 s I A) (hk : zK6 (0, nI (zOl s).length, s) I R A lo dd Φ) : zC L xs mX6_operations [.ref 107] (I, R, A, lo, dd) Φ := by
  refine zC_en (vc_X6_operations_0 (z6_scr hok (zM6_up hm (by omega)) (fun I' A' e0 hm' hg hE hS => zk_r (vc_X6_operations_10 ?_))))
  rw [hS.1]
  exact zK6_e hk rfl hm' (zG6_tr zG6_up hg) (by rw [e0, zup_s]; rfl) (fun _ => rfl)
theorem z5_operation (hok : zOK s) (hs : zS5 o w sp s I R A) (hk : zK0 [(0, 1), (1, 2)] (zF_operation s x y) I R A lo dd Φ) : zC L xs mX5_operation [.ref 0, .int x, .int y] (I, R, A, lo, dd) Φ := by
  have hl := zOl_le hok
  refine zC_en (vc_X5_operation_0 (z5_refresh hok hs (fun I' R' A' hs' hf hg => zk_r (vc_X5_operation_4 ?_))))
  have hS : cSc 54 (zOl s) I' A' := hf.2.2.2.2.2.1
  rw [hS.1]
  refine zh_nd (by omega) (fun n hn e => ?_) (fun hno => zK0_t hk (k := 0) (x := 0) (s' := s) (by unfold zF_operation; rw [zix_n hno]) rfl hs' hg)
  subst e
  obtain ⟨h1, h2, h3⟩ := hS.2 n hn
  have hF : ∀ w, w < 3 → y = nI w → zF_operation s (nI n) y = (0, zopv (zat (zOl s) n) w, s) := fun w hw e => by
    unfold zF_operation
    rw [zix_s hn (by omega), e]
    dsimp only
    rw [zix_s hw (by decide)]
  have hin : z_in (nI n) 105 := nI_in (by omega) (by decide)
  rw [nI_clamp (by omega)]
  refine ⟨fun q => ⟨hin, ?_⟩, fun q0 => ⟨fun q => ⟨hin, ?_⟩, fun q1 => ⟨fun q => ⟨hin, ?_⟩, fun q2 => ?_⟩⟩⟩
  · rw [show A' 55 n = nI (zat (zOl s) n).1 from h1]; exact zK0_r hk (hF 0 (by decide) q) hs' hg
  · rw [show A' 56 n = zpI (zat (zOl s) n).2.1 from h2]; exact zK0_r hk (hF 1 (by decide) q) hs' hg
  · rw [show A' 57 n = zpI (zat (zOl s) n).2.2 from h3]; exact zK0_r hk (hF 2 (by decide) q) hs' hg
  · refine zK0_t hk (k := 1) (x := 0) (s' := s) ?_ rfl hs' hg
    unfold zF_operation
    rw [zix_s hn (by omega)]
    dsimp only
    rw [zix_n (fun w hw => ?_)]
    rcases (show w = 0 ∨ w = 1 ∨ w = 2 by omega) with rfl | rfl | rfl
    · exact q0
    · exact q1
    · exact q2
theorem z6_operation (hok : zOK s) (hm : zM6 s I A) (hk : zK6 (zF_operation s x y) I R A lo dd Φ) : zC L xs mX6_operation [.ref 107, .int x, .int y] (I, R, A, lo, dd) Φ := by
  have hl := zOl_le hok
  refine zC_en (vc_X6_operation_0 (z6_scr hok hm (fun I' A' e0 hm' hg hE hS => zk_r (vc_X6_operation_5 ?_))))
  have m0 : ∀ x, zM6 s (z_up I' 107 0 x) A' := fun x => zM6_up hm' (by omega)
  have g0 : ∀ x, zG6 I A (z_up I' 107 0 x) A' := fun x => zG6_tr hg zG6_up
  rw [hS.1]
  refine zh_mn (by omega) (fun n hn e => zh_rg (m := 2) (by decide) (fun w hw ew => zh_ok ?_) (fun hno => zh_ng (by decide) (zK6_e hk (k := 2) (v := 0) (s' := s) ?_ (m0 _) (g0 _) (zup_s.trans rfl) (fun _ => rfl)))) (fun hno => zh_ng (by decide) (zK6_e hk (k := 1) (v := 0) (s' := s) (by unfold zF_operation; rw [zix_n hno]) (m0 _) (g0 _) (zup_s.trans rfl) (fun _ => rfl)))
  · subst e
    subst ew
    obtain ⟨h1, h2, h3⟩ := hS.2 n hn
    have e1 : (3 * nI n + nI w : Int32) = nI (3 * n + w) := by simp (disch := omega) only [ze_lit, pk_mul, nI_add, nI_clamp, ze_inI, nI_ltI, nI_eq]
    rw [e1, nI_clamp (by omega)]
    have hF : zF_operation s (nI n) (nI w) = (0, zopv (zat (zOl s) n) w, s) := by
      unfold zF_operation
      rw [zix_s hn (by omega)]
      dsimp only
      rw [zix_s (by omega) (by decide)]
    refine ⟨nI_in (by omega) (by decide), zK6_e hk hF (m0 _) (g0 _) (zup_s.trans rfl) (fun _ => ?_)⟩
    rcases (show w = 0 ∨ w = 1 ∨ w = 2 by omega) with rfl | rfl | rfl
    · exact h1
    · exact h2
    · exact h3
  · unfold zF_operation
    rw [e, zix_s hn (by omega)]
    dsimp only
    rw [zix_n (fun w hw => hno w (by omega))]
theorem z5_operationsOf (hok : zOK s) (hs : zS5 o w sp s I R A) (hk : zK0 [(1, 1)] (zF_operationsOf s x) I R A lo dd Φ) : zC L xs mX5_operationsOf [.ref 0, .int x] (I, R, A, lo, dd) Φ := by
  have hl := zOl_le hok
  refine zC_en (vc_X5_operationsOf_0 (zh_nd (N := 11) (by decide) (fun n hn e => z5_refresh hok hs (fun I' R' A' hs' hf hg => zk_r (vc_X5_operationsOf_8 ?_))) (fun hno => zK0_t hk (k := 0) (x := 0) (s' := s) (by unfold zF_operationsOf; rw [zix_n hno]) rfl hs (zG5_rf _ _ _))))
  subst e
  exact s4_countOf (f := 54) (Or.inl rfl) (l := zOl s) hf.2.2.2.2.2.1 hl zOl_k (by omega) (zk_r (vc_X5_operationsOf_16 (zK0_r hk (by unfold zF_operationsOf; rw [zix_s hn (by decide)]) hs' hg)))
theorem z6_operationsOf (hok : zOK s) (hm : zM6 s I A) (hk : zK6 (zF_operationsOf s x) I R A lo dd Φ) : zC L xs mX6_operationsOf [.ref 107, .int x] (I, R, A, lo, dd) Φ := by
  have hl := zOl_le hok
  have m0 : ∀ x, zM6 s (z_up I 107 0 x) A := fun x => zM6_up hm (by omega)
  refine zC_en (vc_X6_operationsOf_0 (zh_rg (m := 10) (by decide) (fun n hn e => zh_ok ?_) (fun hno => zh_ng (by decide) (zK6_e hk (k := 1) (v := 0) (s' := s) (by unfold zF_operationsOf; rw [zix_n (fun n hn => hno n (by omega))]) (m0 _) zG6_up (zup_s.trans rfl) (fun _ => rfl)))))
  subst e
  refine z6_scr hok (m0 _) (fun I' A' e0 hm' hg hE hS => zk_r (vc_X6_operationsOf_33 ?_))
  have hS1 := hS.1
  have hF : zF_operationsOf s (nI n) = (0, nI (zcnt (fun i => decide ((zat (zOl s) i).1 = n)) (zOl s).length), s) := by
    unfold zF_operationsOf
    rw [zix_s (by omega) (by decide)]
  have key : ∀ i, i ≤ (zOl s).length → zW L xs mX6_operationsOf 37 [some (.ref 107), some (.int (nI n)), some (.int (nI (zcnt (fun i => decide ((zat (zOl s) i).1 = n)) i))), some (.int (nI i))] [] (I', R, A', lo, dd) Φ := by
    refine ze_up ?_ ?_
    · refine vc_X6_operationsOf_37 ?_
      rw [hS1]
      exact ⟨fun q => absurd ((nI_ltI (by omega) (by omega)).mp q) (Nat.lt_irrefl _), fun _ => zK6_e hk hF hm' (zG6_tr zG6_up hg) (by rw [e0, zup_s]; rfl) (fun _ => rfl)⟩
    · intro i hi ih
      have e3 := (hS.2 i hi).1
      have h10 := zOl_k (s := s) _ (zat_mem hi)
      refine vc_X6_operationsOf_37 ?_
      simp (disch := omega) only [ze_lit, pk_mul, nI_add, nI_clamp, ze_inI, nI_ltI, nI_eq, hS1, e3]
      refine ⟨fun _ => ⟨by omega, fun q => ?_, fun q => ?_⟩, fun q => absurd hi q⟩
      · have : zcnt (fun i => decide ((zat (zOl s) i).1 = n)) (i + 1) = zcnt (fun i => decide ((zat (zOl s) i).1 = n)) i + 1 := by
          conv => lhs; unfold zcnt
          rw [decide_eq_true q]; rfl
        rw [this] at ih
        exact ih
      · have : zcnt (fun i => decide ((zat (zOl s) i).1 = n)) (i + 1) = zcnt (fun i => decide ((zat (zOl s) i).1 = n)) i + 0 := by
          conv => lhs; unfold zcnt
          rw [decide_eq_false q]; rfl
        rw [this] at ih
        exact ih
  exact key 0 (Nat.zero_le _)
theorem z5_cost (hok : zOK s) (hs : zS5 o w sp s I R A) (hk : zK0 [] (0, zcs (fun k => nI (sO s k)) (zOl s) (zOl s).length, s) I R A lo dd Φ) : zC L xs mX5_cost [.ref 0] (I, R, A, lo, dd) Φ := by
  have hl := zOl_le hok
  refine zC_en (vc_X5_cost_0 (z5_refresh hok hs (fun I' R' A' hs' hf hg => zk_r (vc_X5_cost_4 ?_))))
  have hc := (zS5_go hs').2.2.2.2.2.2
  exact s4_costWith (f := 54) (Or.inl rfl) (l := zOl s) hf.2.2.2.2.2.1 hl zOl_k (co := fun k => nI (sO s k)) (fun k hk => (hc k hk).1) (zk_r (vc_X5_cost_15 (zK0_r hk rfl hs' hg)))
theorem z6_cost (hok : zOK s) (hm : zM6 s I A) (hk : zK6 (0, zcs (fun k => nI (sO s k)) (zOl s) (zOl s).length, s) I R A lo dd Φ) : zC L xs mX6_cost [.ref 107] (I, R, A, lo, dd) Φ := by
  refine zC_en (vc_X6_cost_0 ?_)
  refine s6_scriptCost (ia := 0) (ib := 1) (by decide) rfl hm.2.2.1 hm.2.2.2.1 (hok.1 0 (by decide)) (hok.1 1 (by decide)) (co := fun k => nI (sO s k)) (fun k hk => (hm.2.2.2.2.2 k hk).1) (fun I' A' f1 g1 => zk_r (vc_X6_cost_10 (zK6_e hk rfl (zM6_fr hm (fun j hj => ?_) (fun c c1 c2 => g1 c (by omega))) (fun c hc => ⟨?_, g1 c (by omega)⟩) ?_ (fun _ => rfl))))
  · rw [f1 _ _ (by omega), zup_n (by omega)]
  · funext j; rw [f1 _ _ (by omega), zup_n (by omega)]
  · rw [f1 _ _ (by omega), zup_s]; rfl
theorem z6_costBack (hok : zOK s) (hm : zM6 s I A) (hk : zK6 (0, zcs (fun k => nI (sO s k)) (zOb s) (zOb s).length, s) I R A lo dd Φ) : zC L xs mX6_costBack [.ref 107] (I, R, A, lo, dd) Φ := by
  refine zC_en (vc_X6_costBack_0 ?_)
  refine s6_scriptCost (ia := 1) (ib := 0) (by decide) rfl hm.2.2.2.1 hm.2.2.1 (hok.1 1 (by decide)) (hok.1 0 (by decide)) (co := fun k => nI (sO s k)) (fun k hk => (hm.2.2.2.2.2 k hk).1) (fun I' A' f1 g1 => zk_r (vc_X6_costBack_10 (zK6_e hk rfl (zM6_fr hm (fun j hj => ?_) (fun c c1 c2 => g1 c (by omega))) (fun c hc => ⟨?_, g1 c (by omega)⟩) ?_ (fun _ => rfl))))
  · rw [f1 _ _ (by omega), zup_n (by omega)]
  · funext j; rw [f1 _ _ (by omega), zup_n (by omega)]
  · rw [f1 _ _ (by omega), zup_s]; rfl
theorem z5_costBack (hok : zOK s) (hs : zS5 o w sp s I R A) (hk : zK0 [] (0, zcs (fun k => nI (sO s k)) (zOb s) (zOb s).length, s) I R A lo dd Φ) : zC L xs mX5_costBack [.ref 0] (I, R, A, lo, dd) Φ := by
  obtain ⟨ho, hw, r5, r6, hv, hu, hc⟩ := zS5_go hs
  have bo := zib_le ho
  have bw := zib_le hw
  have wf0 := hok.1 0 (by decide)
  have wf1 := hok.1 1 (by decide)
  refine zC_en (vc_X5_costBack_0 hw ho r6 r5 ?_)
  refine s1_match (d := 60) (Or.inr rfl) hw ho hu hv wf1 wf0 (fun A1 f1 p1 n1 => zk_r (vc_X5_costBack_15 ?_))
  have hv1 : cIm o (sV s 0) I A1 := cIm_fr hv rfl (fun j hj => f1 _ (by omega))
  have hu1 : cIm w (sV s 1) I A1 := cIm_fr hu rfl (fun j hj => f1 _ (by omega))
  have ra : z_up (z_up R 60 0 (some w)) 60 1 (some o) 60 0 = some w := by rw [zup_n (by omega), zup_s]
  refine s4_explain (f := 66) (d := 60) (Or.inr rfl) (Or.inr rfl) hw ho ra zup_s ⟨hu1, hv1, p1, n1⟩ wf1 wf0 (zmo_pa _ _) (zmk_na _ _).1 (fun I2 A2 f2 g2 sr => zk_r (vc_X5_costBack_26 ?_))
  have fR : ∀ c, c ≠ 60 → z_up (z_up R 60 0 (some w)) 60 1 (some o) c = R c := fun c hc => by funext j; rw [zup_n (by omega), zup_n (by omega)]
  have hs2 : zS5 o w sp s I2 (z_up (z_up R 60 0 (some w)) 60 1 (some o)) A2 := zS5_fr hs (fun c hc => f2 c (by omega)) (fun c hc => fR c (by omega)) (fun c hc => by rw [g2 c (by omega), f1 c (by omega)])
  have hc2 := (zS5_go hs2).2.2.2.2.2.2
  refine s4_costWith (f := 66) (Or.inr rfl) (l := zOb s) sr.1 (zOb_le hok) (fun e he => zops_kind he) (co := fun k => nI (sO s k)) (fun k hk => (hc2 k hk).1) (zk_r (vc_X5_costBack_37 (zK0_r hk rfl hs2 (fun c hc => ⟨f2 c (by omega), fR c (by omega), by rw [g2 c (by omega), f1 c (by omega)]⟩))))
theorem z5_setCost (hs : zS5 o w sp s I R A) (hk : zK0 [(1, 1)] (zF_setCost s x y) I R A lo dd Φ) : zC L xs mX5_setCost [.ref 0, .int x, .int y] (I, R, A, lo, dd) Φ := by
  have g := zG5_rf I R A
  refine zC_en (vc_X5_setCost_0 (zh_nd (N := 11) (by decide) (fun n hn e => zh_rg (m := 99) (by decide) (fun c hc ec => ?_) (fun hno => zK0_t hk (k := 0) (x := 0) (s' := s) ?_ rfl hs g)) (fun hno => zK0_t hk (k := 0) (x := 0) (s' := s) (by unfold zF_setCost; rw [zix_n hno]) rfl hs g)))
  · subst e
    subst ec
    have hs' := hs
    obtain ⟨ho, hw, hsp, hne, ⟨r5, r6, r7⟩, hT, ⟨e2, e3⟩, hv, hu, hP, hco, hf⟩ := hs'
    have bo := zib_le ho
    have bw := zib_le hw
    have hin : z_in (nI n) 11 := nI_in (by omega) (by decide)
    rw [nI_clamp (by omega), (hco n hn).1]
    have fA : ∀ c', c' ≠ 47 → z_up A 47 n (nI c) c' = A c' := fun c' h => by funext j; rw [zup_n (by omega)]
    refine ⟨hin, hin, zK0_r hk (s' := sOw s n c) ?_ ⟨ho, hw, hsp, hne, ⟨r5, r6, r7⟩, cTt_fr hT rfl (fA _ (by omega)), ⟨e2, e3⟩, cIm_fr hv rfl (fun j hj => fA _ (by omega)), cIm_fr hu rfl (fun j hj => fA _ (by omega)), cPa_fr hP rfl (fA _ (by omega)), fun i hi => ?_, hf.elim Or.inl (fun z => Or.inr (zFre_fr z rfl rfl rfl (fun c' c1 _ => fA c' (by omega))))⟩ (fun c' hc' => ⟨rfl, rfl, fA c' (by omega)⟩)⟩
    · unfold zF_setCost
      rw [zix_s hn (by decide)]
      dsimp only
      rw [zix_s (by omega) (by decide)]
    · show z_up A 47 n (nI c) 47 i = nI (zse (sO s) n c i) ∧ zse (sO s) n c i ≤ 99
      by_cases q : i = n
      · rw [q, zup_s, zse_s]
        exact ⟨rfl, hc⟩
      · rw [zup_n (fun z => q z.2), zse_n q]
        exact hco i hi
  · unfold zF_setCost
    rw [e, zix_s hn (by decide)]
    dsimp only
    rw [zix_n (fun c hc => hno c (by omega))]
theorem z6_setCost (hm : zM6 s I A) (hk : zK6 (zF_setCost s x y) I R A lo dd Φ) : zC L xs mX6_setCost [.ref 107, .int x, .int y] (I, R, A, lo, dd) Φ := by
  have m0 : ∀ x, zM6 s (z_up I 107 0 x) A := fun x => zM6_up hm (by omega)
  refine zC_en (vc_X6_setCost_0 (zh_rg (m := 10) (by decide) (fun n hn e => zh_rg (m := 99) (by decide) (fun c hc ec => zh_ok ?_) (fun hno => zh_ng (by decide) (zK6_e hk (k := 1) (v := 0) (s' := s) ?_ (m0 _) zG6_up (zup_s.trans rfl) (fun _ => rfl)))) (fun hno => zh_ng (by decide) (zK6_e hk (k := 1) (v := 0) (s' := s) (by unfold zF_setCost; rw [zix_n (fun n hn => hno n (by omega))]) (m0 _) zG6_up (zup_s.trans rfl) (fun _ => rfl)))))
  · subst e
    subst ec
    obtain ⟨⟨t1, t2, t3⟩, ⟨e6, e7⟩, hv, hu, ⟨p1, p2⟩, hco⟩ := m0 0
    have hin : z_in (nI n) 11 := nI_in (by omega) (by decide)
    rw [nI_clamp (by omega), (hco n (by omega)).1]
    have fA : ∀ c', c' ≠ 109 → z_up A 109 n (nI c) c' = A c' := fun c' h => by funext j; rw [zup_n (by omega)]
    refine ⟨hin, hin, zK6_e hk (k := 0) (v := nI (sO s n)) (s' := sOw s n c) ?_ ⟨⟨t1, t2, fun i hi => by rw [fA 110 (by omega)]; exact t3 i hi⟩, ⟨e6, e7⟩, mIm_fr hv (fA _ (by omega)), mIm_fr hu (fA _ (by omega)), ⟨p1, fun i hi => by rw [fA 111 (by omega)]; exact p2 i hi⟩, fun i hi => ?_⟩ (fun c' hc' => ⟨by funext j; rw [zup_n (by omega)], fA c' (by omega)⟩) (zup_s.trans rfl) (fun _ => rfl)⟩
    · unfold zF_setCost
      rw [zix_s (by omega) (by decide)]
      dsimp only
      rw [zix_s (by omega) (by decide)]
    · show z_up A 109 n (nI c) 109 i = nI (zse (sO s) n c i) ∧ zse (sO s) n c i ≤ 99
      by_cases q : i = n
      · rw [q, zup_s, zse_s]
        exact ⟨rfl, hc⟩
      · rw [zup_n (fun z => q z.2), zse_n q]
        exact hco i hi
  · unfold zF_setCost
    rw [e, zix_s (by omega) (by decide)]
    dsimp only
    rw [zix_n (fun c hc => hno c (by omega))]
end
