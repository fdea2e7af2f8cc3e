/-! similarity -/
def zfpk (u N : Nat) : Bool := decide (FP.dmul 4611686018427387904 (FP.i2d (nI u)) = FP.i2d (nI (2 * u))) && decide ((FP.i2d (nI (2 * u))) &&& 0x7fffffffffffffff ≤ 0x7ff0000000000000) && decide ((FP.ddiv (FP.i2d (nI (2 * u))) (FP.i2d (nI N))) &&& 0x7fffffffffffffff ≤ 0x7ff0000000000000) && decide ((Op.cmpValue (FP.dcmp (FP.ddiv (FP.i2d (nI (2 * u))) (FP.i2d (nI N))) (FP.ddiv (FP.i2d (nI (2 * u))) (FP.i2d (nI N)))) CmpOp.l : Int32) = 0)
theorem zfp_all : ((List.range 25).all fun u => (List.range 48).all fun N => zfpk u (N + 1)) = true := by decide +kernel
theorem zfp_ok {u N : Nat} (hu : u ≤ 24) (h1 : 0 < N) (hN : N ≤ 48) : FP.dmul 4611686018427387904 (FP.i2d (nI u)) = FP.i2d (nI (2 * u)) ∧ ((FP.i2d (nI (2 * u))) &&& 0x7fffffffffffffff ≤ 0x7ff0000000000000) ∧ ((FP.ddiv (FP.i2d (nI (2 * u))) (FP.i2d (nI N))) &&& 0x7fffffffffffffff ≤ 0x7ff0000000000000) ∧ (Op.cmpValue (FP.dcmp (FP.ddiv (FP.i2d (nI (2 * u))) (FP.i2d (nI N))) (FP.ddiv (FP.i2d (nI (2 * u))) (FP.i2d (nI N)))) CmpOp.l : Int32) = 0 := by
  have h := List.all_eq_true.mp zfp_all u (List.mem_range.mpr (by omega))
  have h := List.all_eq_true.mp h (N - 1) (List.mem_range.mpr (by omega))
  rw [show N - 1 + 1 = N by omega] at h
  unfold zfpk at h
  rw [Bool.and_eq_true, Bool.and_eq_true, Bool.and_eq_true] at h
  exact ⟨of_decide_eq_true h.1.1.1, of_decide_eq_true h.1.1.2, of_decide_eq_true h.1.2, of_decide_eq_true h.2⟩
def zN2 (s : zAb) : Nat := vN (sV s 0) + vN (sV s 1)
def zUu (s : zAb) : Nat := zcnt (zun (sV s 0) (sV s 1) (zpa (sV s 0) (sV s 1)) (zna (sV s 0) (sV s 1)).1) (vN (sV s 0))
def zsv (s : zAb) : UInt64 := FP.ddiv (FP.i2d (nI (2 * zUu s))) (FP.i2d (nI (zN2 s)))
theorem zsv_ok {s : zAb} (hok : zOK s) (h : 0 < zN2 s) : FP.dmul 4611686018427387904 (FP.i2d (nI (zUu s))) = FP.i2d (nI (2 * zUu s)) ∧ ((FP.i2d (nI (2 * zUu s))) &&& 0x7fffffffffffffff ≤ 0x7ff0000000000000) ∧ ((zsv s) &&& 0x7fffffffffffffff ≤ 0x7ff0000000000000) ∧ (Op.cmpValue (FP.dcmp (zsv s) (zsv s)) CmpOp.l : Int32) = 0 := by
  have w0 := (hok.1 0 (by decide)).2.1
  have w1 := (hok.1 1 (by decide)).2.1
  have hu : zUu s ≤ 24 := Nat.le_trans (zcnt_le _ _) w0
  exact zfp_ok hu h (by unfold zN2; omega)
section
variable {L : Nat} {xs : Nat → Int32} {I : Nat → Nat → Int32} {R : Nat → Nat → Option Nat} {A : Nat → Nat → Int32} {lo : Int64} {dd : UInt64} {Φ : zPo} {s : zAb} {o w sp : Nat} {x y z : Int32}
theorem z5_similarity (hok : zOK s) (hs : zS5 o w sp s I R A) (h1 : 0 < zN2 s → ∀ (I' : Nat → Nat → Int32) (R' : Nat → Nat → Option Nat) (A' : Nat → Nat → Int32), zS5 o w sp s I' R' A' → zG5 I R A I' R' A' → Φ (.inl (some (.double (zsv s)))) (I', R', A', lo, dd) 0) (h0 : ¬ 0 < zN2 s → Φ (.inr 3) (I, R, A, lo, dd) 1) : zC L xs mX5_similarity [.ref 0] (I, R, A, lo, dd) Φ := by
  obtain ⟨ho, hw, r5, r6, hv, hu, hc⟩ := zS5_go hs
  have w0 := (hok.1 0 (by decide)).2.1
  have w1 := (hok.1 1 (by decide)).2.1
  refine zC_en (vc_X5_similarity_0 ho hw r5 r6 ?_)
  rw [hv.2.2.1, hu.2.2.1, nI_add]
  refine ⟨fun q => ?_, fun q => h0 (fun z => q (nI_lt (a := 0) z (by omega)))⟩
  have hN : 0 < zN2 s := (nI_ltI (a := 0) (b := vN (sV s 0) + vN (sV s 1)) (by decide) (by omega)).mp q
  refine z5_refresh hok hs (fun I1 R1 A1 hs1 hf hg => zk_r (vc_X5_similarity_35 ?_))
  obtain ⟨ho, hw, r5, r6, hv, hu, hc⟩ := zS5_go hs1
  refine s1_unchangedNodes (d := 48) (Or.inl rfl) ho hw hf.2.1 hf.2.2.1 ⟨hv, hu, hf.2.2.2.1, hf.2.2.2.2.1⟩ (hok.1 0 (by decide)) (hok.1 1 (by decide)) (zmo_pa _ _) (zmk_na _ _).1 (zk_r (vc_X5_similarity_43 ?_))
  have e2 : (2 * nI (zUu s) : Int32) = nI (2 * zUu s) := pk_mul 2 _
  show ((FP.ddiv (FP.i2d (2 * nI (zUu s))) (FP.i2d (nI (zN2 s)))) &&& 0x7fffffffffffffff ≤ 0x7ff0000000000000) ∧ (Φ (.inl (some (.double (FP.ddiv (FP.i2d (2 * nI (zUu s))) (FP.i2d (nI (zN2 s))))))) (I1, R1, A1, lo, dd) 0)
  rw [e2]
  exact ⟨(zsv_ok hok hN).2.2.1, h1 hN I1 R1 A1 hs1 hg⟩
theorem z6_similarity (hok : zOK s) (hm : zM6 s I A) (h1 : 0 < zN2 s → ∀ (I' A' : Nat → Nat → Int32), zM6 s I' A' → zG6 I A I' A' → I' 107 0 = 0 → Φ (.inl (some (.double (zsv s)))) (I', R, A', lo, dd) 0) (h0 : ¬ 0 < zN2 s → ∀ I' A' : Nat → Nat → Int32, zM6 s I' A' → zG6 I A I' A' → I' 107 0 = 1 → Φ (.inl (some (.double 0))) (I', R, A', lo, dd) 0) : zC L xs mX6_similarity [.ref 107] (I, R, A, lo, dd) Φ := by
  have w0 := (hok.1 0 (by decide)).2.1
  have w1 := (hok.1 1 (by decide)).2.1
  have x0 : ((159 : Int32) * 0) + 2 = nI (159 * 0 + 2) := rfl
  have x1 : ((159 : Int32) * 1) + 2 = nI (159 * 1 + 2) := rfl
  refine zC_en (vc_X6_similarity_0 ?_)
  rw [x0, x1, nI_clamp (by decide), nI_clamp (by decide), hm.2.2.1.2.2.1, hm.2.2.2.1.2.2.1, nI_add]
  refine ⟨nI_in (by decide) (by decide), nI_in (by decide) (by decide), fun q => zh_ok ?_, fun q => zh_ng (by decide) (h0 (fun z => q (nI_lt (a := 0) z (by omega))) _ A (zM6_up hm (by omega)) zG6_up zup_s)⟩
  have hN : 0 < zN2 s := (nI_ltI (a := 0) (b := vN (sV s 0) + vN (sV s 1)) (by decide) (by omega)).mp q
  refine z6_idf hok (zM6_up hm (by omega)) (fun I' A' e0 hm' hg hE => zk_r (vc_X6_similarity_37 ?_))
  have hv := hm'.2.2.1
  have hu := hm'.2.2.2.1
  have key : ∀ i, i ≤ vN (sV s 0) → zW L xs mX6_similarity 41 [some (.ref 107), some (.int (nI (zcnt (zun (sV s 0) (sV s 1) (zpa (sV s 0) (sV s 1)) (zna (sV s 0) (sV s 1)).1) i))), some (.int (nI i))] [] (I', R, A', lo, dd) Φ := by
    refine ze_up ?_ ?_
    · refine vc_X6_similarity_41 ?_
      rw [x0, x1, nI_clamp (by decide), nI_clamp (by decide), hv.2.2.1, hu.2.2.1, nI_add]
      obtain ⟨k1, k2, k3, k4⟩ := zsv_ok hok hN
      refine ⟨nI_in (by decide) (by decide), fun q => absurd ((nI_ltI (by omega) (by omega)).mp q) (Nat.lt_irrefl _), fun _ => ?_⟩
      show ((FP.dmul 4611686018427387904 (FP.i2d (nI (zUu s)))) &&& 0x7fffffffffffffff ≤ 0x7ff0000000000000) ∧ (_ ∧ (_ ∧ (((FP.ddiv (FP.dmul 4611686018427387904 (FP.i2d (nI (zUu s)))) (FP.i2d (nI (zN2 s)))) &&& 0x7fffffffffffffff ≤ 0x7ff0000000000000) ∧ (Φ (.inl (some (.double (FP.ddiv (FP.dmul 4611686018427387904 (FP.i2d (nI (zUu s)))) (FP.i2d (nI (zN2 s))))))) (I', R, A', lo, dd) 0))))
      rw [k1]
      exact ⟨k2, nI_in (by decide) (by decide), nI_in (by decide) (by decide), k3, h1 hN I' A' hm' (zG6_tr zG6_up hg) (by rw [e0, zup_s])⟩
    · intro i hi ih
      refine vc_X6_similarity_41 ?_
      rw [x0, nI_clamp (by decide), hv.2.2.1]
      refine ⟨nI_in (by decide) (by decide), fun _ => ?_, fun q => absurd (nI_lt hi (by omega)) q⟩
      refine s6_isPlain (by decide) (by decide) hE (hok.1 0 (by decide)) (hok.1 1 (by decide)) (zmo_pa _ _) (zmk_na _ _).1 hi (fun z => zk_r (vc_X6_similarity_56 ⟨fun q => absurd q (by decide), fun _ => ?_⟩)) (fun z => zk_r (vc_X6_similarity_56 ⟨fun _ => ?_, fun q => absurd rfl q⟩))
      · rw [zcnt_t z] at ih
        rw [nI_1, nI_1]
        exact ih
      · rw [zcnt_f z] at ih
        rw [show (0 : Int32) = nI 0 from rfl, nI_add, nI_1]
        exact ih
  exact key 0 (Nat.zero_le _)
end
