/-! remove, swap -/
def zF_remove (s : zAb) (x y : Int32) : zOc := zFn s x y (fun k n => (0, nI (zte (sV s k) n - n), sVw s k (zrm (sV s k) n)))
theorem zOK_remove {s : zAb} {x y : Int32} (h : zOK s) : zOK (zF_remove s x y).2.2 := zFn_ok h (fun k n hk hn => zOK_ch h (zwf_rm (h.1 k hk) hn).1)
def sSw (s : zAb) : zAb := (sT s, sC s, sE s, fun k => sV s (1 - k), sO s, sP s)
theorem zOK_swap {s : zAb} (h : zOK s) : zOK (sSw s) := ⟨fun k hk => h.1 (1 - k) (by omega), h.2⟩
section
variable {L : Nat} {xs : Nat → Int32} {I : Nat → Nat → Int32} {R : Nat → Nat → Option Nat} {A : Nat → Nat → Int32} {lo : Int64} {dd : UInt64} {Φ : zPo} {s : zAb} {o w sp : Nat} {x y z : Int32}
theorem z5_remove (hok : zOK s) (hs : zS5 o w sp s I R A) (hk : zK0 [(0, 1)] (zF_remove s x y) I R A lo dd Φ) : zC L xs mX5_remove [.ref 0, .int x, .int y] (I, R, A, lo, dd) Φ := by
  have hs' := hs
  obtain ⟨ho, hw, hsp, hne, ⟨r5, r6, r7⟩, -⟩ := hs'
  have g := zG5_rf I R A
  refine zi_remove hok hs (fun k b n hb ex hn ey => ?_) (fun hF => zK0_t hk (hF _) rfl hs g)
  obtain ⟨hk1, hib, hv⟩ := zS5_im hs hb
  have hwf := hok.1 k hk1
  have hb4 := zib_le hib
  subst ex
  subst ey
  refine s2_cutTree hib (cIm_fr hv (by funext j; rw [zup_n (by omega)]) (fun _ _ => rfl)) hwf hn (fun I' A' f1 f2 hv2 => zk_r (vc_X5_remove_17 hib (zK0_r hk (s' := sVw s k (zrm (sV s k) n)) (zFn_s hok hk1 hn) (zS5_ch hs hb ?_ (fun c j c1 c2 => ?_) (fun c c1 => f2 c (by omega)) hv2) (fun c hc => ⟨?_, rfl, f2 c (by omega)⟩))))
  · rw [f1 0 13 (by omega), zup_s]
  · rw [f1 c j (by omega), zup_n c2]
  · funext j
    rw [f1 c j (by omega), zup_n (by omega)]
theorem z6_remove (hok : zOK s) (hm : zM6 s I A) (hk : zK6 (zF_remove s x y) I R A lo dd Φ) : zC L xs mX6_remove [.ref 107, .int x, .int y] (I, R, A, lo, dd) Φ := by
  have m0 : ∀ x, zM6 s (z_up I 107 0 x) A := fun x => zM6_up hm (by omega)
  refine zC_en (vc_X6_remove_0 (zh_6n hok hm (fun k n hk1 ex hn ey => zh_ok ?_) (fun hF => zh_ng (by decide) (zK6_e hk (hF _) (m0 _) zG6_up (zup_s.trans rfl) (fun _ => rfl)))))
  subst ex
  subst ey
  have hwf := hok.1 k hk1
  have w1 := hwf.1
  have w2 := hwf.2.1
  have w3 := hwf.2.2.1
  have hv := zM6_im hm hk1
  obtain ⟨r1, r2, r3, r4⟩ := zwf_rm hwf hn
  have hg := zte_gt (sV s k) n
  have hl := zte_le hn
  refine s6_sizeOf (by omega) hv hwf hn (zk_r (vc_X6_remove_33 ?_))
  have hF : zF_remove s (nI k) (nI n) = (0, nI (zte (sV s k) n - n), sVw s k (zrm (sV s k) n)) := zFn_s hok hk1 hn
  obtain ⟨e, he⟩ : ∃ e, e = zte (sV s k) n := ⟨_, rfl⟩
  have key : ∀ j, j ≤ vN (sV s k) → ∀ (q : Nat) (A' : Nat → Nat → Int32), (j ≤ n ∧ q = j ∨ n < j ∧ j ≤ e ∧ q = n ∨ e < j ∧ q = j - (e - n)) → (∀ c, c ≠ 112 → A' c = A c) → (∀ i, i < q → A' 112 i = nI (zor n (e - n) i)) → zW L xs mX6_remove 40 [some (.ref 107), some (.int (nI k)), some (.int (nI n)), some (.int (nI (e - n))), some (.int (nI q)), some (.int (nI j))] [] (z_up I 107 0 0, R, A', lo, dd) Φ := by
    refine ze_up ?_ ?_
    · intro q A' hq h1 h2
      have hv' : mIm k (sV s k) A' := mIm_fr hv (h1 _ (by omega))
      have hq2 : q = vN (sV s k) - (e - n) := by omega
      subst hq2
      have hix : ((159 : Int32) * nI k) + 2 = nI (159 * k + 2) := by simp (disch := omega) only [ze_lit, pk_mul, nI_add, nI_clamp, ze_inI, nI_ltI, nI_eq]
      refine vc_X6_remove_40 ?_
      rw [hix, nI_clamp (by omega), hv'.2.2.1]
      refine ⟨nI_in (by omega) (by decide), fun z => absurd ((nI_ltI (by omega) (by omega)).mp z) (Nat.lt_irrefl _), fun _ => ?_⟩
      refine s6_renumbers hk1 hv' w1 w2 (fun i hi => by have := w3 i hi; omega) (fun i p hi e => (zpar_lt hwf hi e).2) (by omega) (fun i hi => ⟨h2 i hi, he ▸ r3 i (he ▸ hi)⟩) (fun A'' f1 f2 hv2 => zk_r (vc_X6_remove_89 ?_))
      rw [he] at hv2 ⊢
      refine zK6_e hk hF (zM6_ch hok hm hk1 (fun j hj => by rw [zup_n (by omega)]) (fun c c1 c2 => by rw [f1 c (by omega), h1 c (by omega)]) (fun j hj hj2 => by rw [f2 j hj2 hj, h1 108 (by decide)]) hv2) (fun c hc => ⟨by funext j; rw [zup_n (by omega)], by rw [f1 c (by omega), h1 c (by omega)]⟩) (zup_s.trans rfl) (fun _ => rfl)
    · intro j hj ih q A' hq h1 h2
      have hv' : mIm k (sV s k) A' := mIm_fr hv (h1 _ (by omega))
      have hix : ((159 : Int32) * nI k) + 2 = nI (159 * k + 2) := by simp (disch := omega) only [ze_lit, pk_mul, nI_add, nI_clamp, ze_inI, nI_ltI, nI_eq]
      have hput : ∀ q', q' = q + 1 → (j + 1 ≤ n ∧ q' = j + 1 ∨ n < j + 1 ∧ j + 1 ≤ e ∧ q' = n ∨ e < j + 1 ∧ q' = j + 1 - (e - n)) → zor n (e - n) q = j → zW L xs mX6_remove 40 [some (.ref 107), some (.int (nI k)), some (.int (nI n)), some (.int (nI (e - n))), some (.int (nI q + 1)), some (.int (nI j + 1))] [] (z_up I 107 0 0, R, z_up A' 112 (Int32.toNatClampNeg (nI q)) (nI j), lo, dd) Φ := by
        intro q' e1 e2 e3
        rw [nI_1, nI_1, nI_clamp (by omega), ← e1]
        refine ih q' _ e2 (fun c hc => ?_) (fun i hi => ?_)
        · funext z
          rw [zup_n (fun q => hc q.1)]
          exact congrFun (h1 c hc) z
        · by_cases e4 : i = q
          · rw [e4, zup_s, e3]
          · rw [zup_n (fun z => e4 z.2)]
            exact h2 i (by omega)
      have hs1 : (nI n + nI (e - n)) - 1 = nI (e - 1) := by
        rw [nI_add, show (1 : Int32) = nI 1 from rfl, ze_sub (by omega)]
        congr 1
        omega
      refine vc_X6_remove_40 ?_
      rw [hix, nI_clamp (by omega), hv'.2.2.1, hs1]
      refine ⟨nI_in (by omega) (by decide), fun _ => ⟨fun q1 => ⟨nI_in (by omega) (by decide), ?_⟩, fun q1 => ⟨fun q2 => ⟨nI_in (by omega) (by decide), ?_⟩, fun q2 => ?_⟩⟩, fun z => absurd (nI_lt hj (by omega)) z⟩
      · have q1 := (nI_ltI (by omega) (by omega)).mp q1
        refine hput (q + 1) rfl (by omega) ?_
        unfold zor
        rw [if_pos (by omega)]
        omega
      · have q2 := (nI_ltI (by omega) (by omega)).mp q2
        refine hput (q + 1) rfl (by omega) ?_
        unfold zor
        rw [if_neg (by omega)]
        omega
      · have q1 : ¬ j < n := fun z => q1 (nI_lt z (by omega))
        have q2 : ¬ e - 1 < j := fun z => q2 (nI_lt z (by omega))
        rw [nI_1]
        exact ih q A' (by omega) h1 h2
  rw [← he]
  exact key 0 (Nat.zero_le _) 0 A (Or.inl ⟨Nat.zero_le _, rfl⟩) (fun _ _ => rfl) (fun i hi => absurd hi (Nat.not_lt_zero i))
theorem z5_swap (hs : zS5 o w sp s I R A) (h : ∀ (I' : Nat → Nat → Int32) (R' : Nat → Nat → Option Nat), zS5 w o sp (sSw s) I' R' A → zG5 I R A I' R' A → Φ (.inl none) (I', R', A, lo, dd) 0) : zC L xs mX5_swap [.ref 0] (I, R, A, lo, dd) Φ := by
  obtain ⟨ho, hw, hsp, hne, ⟨r5, r6, r7⟩, hT, ⟨e2, e3⟩, hv, hu, hP, hc, hf⟩ := hs
  have bo := zib_le ho
  have bw := zib_le hw
  refine zC_en (vc_X5_swap_0 ho hw r5 r6 (h _ _ ⟨hw, ho, hsp, ⟨fun z => hne.1 z.symm, hne.2.2, hne.2.1⟩, ⟨by rw [zup_n (by omega), zup_s], zup_s, by rw [zup_n (by omega), zup_n (by omega)]; exact r7⟩, cTt_fr hT (zup_n (by omega)) rfl, ⟨(zup_n (by omega)).trans e2, (zup_n (by omega)).trans e3⟩, cIm_fr hu (by funext j; rw [zup_n (by omega)]) (fun _ _ => rfl), cIm_fr hv (by funext j; rw [zup_n (by omega)]) (fun _ _ => rfl), cPa_fr hP (zup_n (by omega)) rfl, hc, Or.inl zup_s⟩ (fun c hc => ⟨by funext j; rw [zup_n (by omega)], by funext j; rw [zup_n (by omega), zup_n (by omega)], rfl⟩)))
theorem z6_swap (hok : zOK s) (hm : zM6 s I A) (h : ∀ I' A' : Nat → Nat → Int32, zM6 (sSw s) I' A' → zG6 I A I' A' → Φ (.inl none) (I', R, A', lo, dd) 0) : zC L xs mX6_swap [.ref 107] (I, R, A, lo, dd) Φ := by
  have a0 := (hok.1 0 (by decide)).1
  have b0 := (hok.1 0 (by decide)).2.1
  have a1 := (hok.1 1 (by decide)).1
  have b1 := (hok.1 1 (by decide)).2.1
  have hm' := hm
  obtain ⟨⟨t1, t2, t3⟩, ⟨e6, e7⟩, hv, hu, ⟨p1, p2⟩, hc⟩ := hm'
  refine zC_en (vc_X6_swap_0 ?_)
  refine s6_copies (s := 0) (t := 2) (by decide) (by decide) (by decide) (fun A1 f1 g1 k1 => zk_r (vc_X6_swap_11 ?_))
  refine s6_copies (s := 1) (t := 0) (by decide) (by decide) (by decide) (fun A2 f2 g2 k2 => zk_r (vc_X6_swap_17 ?_))
  refine s6_copies (s := 2) (t := 1) (by decide) (by decide) (by decide) (fun A3 f3 g3 k3 => zk_r (vc_X6_swap_23 (h _ A3 ?_ ?_)))
  · have v2 : mIm 2 (sV s 0) A1 := mIm_mv hv a0 b0 k1
    have u1 : mIm 1 (sV s 1) A1 := mIm_st hu a1 b1 (fun j j1 j2 => g1 j (by omega))
    have u0 : mIm 0 (sV s 1) A2 := mIm_mv u1 a1 b1 k2
    have v2' : mIm 2 (sV s 0) A2 := mIm_st v2 a0 b0 (fun j j1 j2 => g2 j (by omega))
    have v1 : mIm 1 (sV s 0) A3 := mIm_mv v2' a0 b0 k3
    have u0' : mIm 0 (sV s 1) A3 := mIm_st u0 a1 b1 (fun j j1 j2 => g3 j (by omega))
    have fa : ∀ c, c ≠ 108 → A3 c = A c := fun c hc => by rw [f3 c hc, f2 c hc, f1 c hc]
    exact ⟨⟨(zup_n (by omega)).trans t1, t2, fun i hi => by rw [fa 110 (by decide)]; exact t3 i hi⟩, ⟨(zup_n (by omega)).trans e6, (zup_n (by omega)).trans e7⟩, u0', v1, ⟨(zup_n (by omega)).trans p1, fun k hk => by rw [fa 111 (by decide)]; exact p2 k hk⟩, fun k hk => by rw [fa 109 (by decide)]; exact hc k hk⟩
  · exact fun c hc => ⟨by funext j; rw [zup_n (by omega)], by rw [f3 c (by omega), f2 c (by omega), f1 c (by omega)]⟩
end
