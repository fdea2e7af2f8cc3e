/-! the model reads an image: trees, partitions, the whole -/
theorem ziw_23 {t : zT} {s : Nat} (h : ziw t s (zwl 202)) : ¬ ziw t s (zwl 203) := fun k => by
  have h1 : zrun t 1 s - s = 4 := h.2.1
  have h2 : zrun t 1 s - s = 3 := k.2.1
  omega
theorem zrtree_f {t : zT} : ∀ n m {v : zV} {h : Option Nat} {s : Nat}, s ≤ t.2 → zwf v → zhold v h → t.2 - s < n → t.2 - s < m → zrtree t n v h s = zrtree t m v h s := by
  intro n
  induction n with
  | zero => intro m v h s _ _ _ q; omega
  | succ n ih =>
    intro m v h s hs hw hh q1 q2
    cases m with
    | zero => omega
    | succ m =>
      unfold zrtree
      split
      · next q =>
        have h3 := znx_gt (zat_sym q.1).1
        have h4 := znx_le hs
        cases h with
        | none => rfl
        | some d => exact ih m h4 hw (zhold_up hw hh) (by omega) (by omega)
      · cases e : zrnode t v h s with
        | inl e' => rfl
        | inr r =>
          obtain ⟨v', h', s'⟩ := r
          obtain ⟨b1, b2, b3, b4, b5⟩ := zrnode_ok hs hw hh e
          exact ih m b4 b1 b2 (by omega) (by omega)
section
variable {L : Nat} {xs : Nat → Int32} {I : Nat → Nat → Int32} {R : Nat → Nat → Option Nat} {A : Nat → Nat → Int32} {lo : Int64} {dd : UInt64} {Φ : zPo} {t : zT} {s k : Nat} {v : zV}
theorem s6_readTree (hT : mTx t I A) (hk : k ≤ t.2) (h5 : I 107 5 = nI k) (h8 : I 107 8 = 0) (hv : mIm 2 v A) (hw : zwf v) (hh : zhold v none) (h1 : ∀ (I' A' : Nat → Nat → Int32) v' s' k', zrtree t (t.2 + 1) v none (zsk t k) = .inr (v', s') → zMd I I' → zMa A A' → I' 107 8 = 0 → I' 107 5 = nI k' → k' ≤ t.2 → zsk t k' = s' → mIm 2 v' A' → Φ (.inl none) (I', R, A', lo, dd) 0) (h0 : ∀ (I' A' : Nat → Nat → Int32) c p, zrtree t (t.2 + 1) v none (zsk t k) = .inl (c, p) → zMd I I' → zMa A A' → zMb 810 c p I' → Φ (.inl none) (I', R, A', lo, dd) 0) : zC L xs mX6_readTree [.ref 107] (I, R, A, lo, dd) Φ := by
  refine zC_en (vc_X6_readTree_0 ?_)
  have key : ∀ n (v : zV) (h : Option Nat) (k : Nat) (I1 A1 : Nat → Nat → Int32) (zx zy zz : Option Value), t.2 - zsk t k < n → k ≤ t.2 → zMd I I1 → zMa A A1 → I1 107 5 = nI k → I1 107 8 = 0 → mIm 2 v A1 → zwf v → zhold v h → (∀ (I' A' : Nat → Nat → Int32) v' s' k', zrtree t n v h (zsk t k) = .inr (v', s') → zMd I I' → zMa A A' → I' 107 8 = 0 → I' 107 5 = nI k' → k' ≤ t.2 → zsk t k' = s' → mIm 2 v' A' → Φ (.inl none) (I', R, A', lo, dd) 0) → (∀ (I' A' : Nat → Nat → Int32) c p, zrtree t n v h (zsk t k) = .inl (c, p) → zMd I I' → zMa A A' → zMb 810 c p I' → Φ (.inl none) (I', R, A', lo, dd) 0) → zW L xs mX6_readTree 4 [some (.ref 107), some (.int (zpI h)), some (.int 1), zx, zy, zz] [] (I1, R, A1, lo, dd) Φ := by
    intro n
    induction n with
    | zero => intro v h k I1 A1 zx zy zz q; omega
    | succ n ih =>
      intro v h k I1 A1 zx zy zz q hk d1 a1 e5 e8 hv hw hh k1 k0
      have hT1 := mTx_fr hT d1 (a1.1 110 (by decide))
      have hT2 := hT.2.1
      have hsat := zsk_at hk
      refine vc_X6_readTree_4 ⟨fun z => absurd z (by decide), fun _ => ⟨fun _ => ?_, fun z => absurd e8 z⟩⟩
      refine s6_here hT1 hk e5 (fun I2 hI2 e25 => zk_r (vc_X6_readTree_19 ?_))
      generalize zsk t k = s at *
      have hs1 := hsat.1
      have d2 := zMd_tr d1 (zMd_5 hI2)
      have e28 : I2 107 8 = 0 := by rw [hI2 107 8 (by omega)]; exact e8
      have hT2' := mTx_fr hT d2 (a1.1 110 (by decide))
      rw [show (125 : Int32) = nI 125 from rfl, zis_here (c := 125) rfl (fun i hi => (hT.2.2 i hi).2)]
      refine ⟨fun qs => ?_, fun qs => ?_⟩
      · -- the end of a directory or of the partition
        refine s6_word hT2' hs1 e25 (fun I3 hI3 e35 => zk_r (vc_X6_readTree_34 ⟨fun z => absurd z (by decide), fun _ => ?_⟩))
        rw [zsk_id hsat] at e35
        have d3 := zMd_tr d2 (zMd_5 hI3)
        have e38 : I3 107 8 = 0 := by rw [hI3 107 8 (by omega)]; exact e28
        obtain ⟨c1, c2, c3⟩ := zat_sym qs.1
        have hgt := znx_gt c1
        have e4 : z_up I3 107 5 (I3 107 5 + 1) 107 5 = nI (ztx t s) := by rw [zup_s, e35, nI_1, c3]
        have d4 : zMd I (z_up I3 107 5 (I3 107 5 + 1)) := zMd_up d3 (by decide)
        have e48 : z_up I3 107 5 (I3 107 5 + 1) 107 8 = 0 := by rw [zup_n (by omega)]; exact e38
        cases h with
        | none =>
          have hz : zrtree t (n + 1) v none s = .inr (v, znx t s) := if_pos qs
          exact ⟨fun _ => vc_X6_readTree_4 ⟨fun _ => k1 _ A1 v _ (ztx t s) hz d4 a1 e48 e4 (ztx_le hs1) rfl hv, fun z => absurd rfl z⟩, fun z => absurd rfl z⟩
        | some d =>
          have hz : zrtree t (n + 1) v (some d) s = zrtree t n v (vpar v d) (znx t s) := if_pos qs
          obtain ⟨f1, f2, f3, f4⟩ := hh.2 d rfl
          have := hw.2.1
          have hA4 := hv.2.2.2.2.2.2.2.2.2.2.1 d f1
          refine ⟨fun z => ((ze_m1 (by omega)).mp z).elim, fun _ => ?_⟩
          show z_in ((((159 * 2) + 15) + (6 * nI d)) + 4) 477 ∧ zW L xs mX6_readTree 4 [some (.ref 107), some (.int (A1 108 (Int32.toNatClampNeg ((((159 * 2) + 15) + (6 * nI d)) + 4)))), some (.int 1), some (.int 1), _, _] [] (z_up I3 107 5 (I3 107 5 + 1), R, A1, lo, dd) Φ
          have hix : ((((159 * 2) + 15) + (6 * nI d)) + 4 : Int32) = nI (159 * 2 + 15 + 6 * d + 4) := by simp (disch := omega) only [ze_lit, pk_mul, nI_add, nI_clamp, ze_inI, nI_ltI, nI_eq]
          rw [hix, nI_clamp (by omega), hA4]
          refine ⟨nI_in (by omega) (by decide), ?_⟩
          exact ih v (vpar v d) (ztx t s) _ A1 _ _ _ (by show t.2 - znx t s < n; omega) (ztx_le hs1) d4 a1 e4 e48 hv hw (zhold_up hw hh) (fun I' A' v' s' k' e => k1 I' A' v' s' k' (by rw [hz]; exact e)) (fun I' A' c p e => k0 I' A' c p (by rw [hz]; exact e))
      · have hz : ∀ r, zrnode t v h s = r → zrtree t (n + 1) v h s = (match r with
          | .inl e => .inl e
          | .inr (v', h', s') => zrtree t n v' h' s') := fun r hr => by
          have : zrtree t (n + 1) v h s = (match zrnode t v h s with
            | .inl e => .inl e
            | .inr (v', h', s') => zrtree t n v' h' s') := if_neg qs
          rw [this, hr]
        refine s6_word hT2' hs1 e25 (fun I3 hI3 e35 => zk_r (vc_X6_readTree_34 ⟨fun _ => ?_, fun z => absurd rfl z⟩))
        rw [zsk_id hsat] at e35 ⊢
        have d3 := zMd_tr d2 (zMd_5 hI3)
        have e38 : I3 107 8 = 0 := by rw [hI3 107 8 (by omega)]; exact e28
        have hT3 := mTx_fr hT d3 (a1.1 110 (by decide))
        have node : ∀ f : Bool, ztk t s = 1 → zrnode t v h s = zif (zfull v h) (.inl (5, s)) (zpA t v h f (znx t s)) → zC L xs mX6_readNode [.ref 107, .int (zpI h), .int (nI (if f then 1 else 0))] (I3, R, A1, lo, dd) (z_kont [] (fun r τ Ψ => zW L xs mX6_readTree 117 [some (.ref 107), some (.int (zpI h)), some (.int 1), some (.int 0), some (.long (zwv t s)), none] (r.toList ++ []) τ Ψ) Φ) := by
          intro f hk1 hn
          refine s6_readNode (f := f) hT3 hsat hk1 e35 e38 hv hw hh (fun I4 A4 v' h' s' k' e d4 a4 e48 e45 hk' hsk hv' => zk_r (vc_X6_readTree_117 ?_)) (fun I4 c p x e d4 b4 => zk_r (vc_X6_readTree_117 (vc_X6_readTree_4 ⟨fun z => absurd z (by decide), fun _ => ⟨fun z => absurd z (by rw [b4.1]; decide), fun _ => ?_⟩⟩)))
          · rw [← hn] at e
            obtain ⟨b1, b2, b3, b4, b5⟩ := zrnode_ok hs1 hw hh e
            subst hsk
            exact ih v' h' k' I4 A4 _ _ _ (by omega) hk' (zMd_tr d3 d4) (zMa_tr a1 a4) e45 e48 hv' b1 b2 (fun I' A' v'' s'' k'' e' => k1 I' A' v'' s'' k'' ((hz _ e).trans e')) (fun I' A' c p e' => k0 I' A' c p ((hz _ e).trans e'))
          · rw [← hn] at e
            exact k0 I4 A1 c p (hz _ e) (zMd_tr d3 d4) a1 b4
        rw [lg_cmp_eq, lg_cmp_eq, show ((3177 : Int64)) = lN (zwn 203) from rfl, show ((124988 : Int64)) = lN (zwn 202) from rfl, ziw_iff (by decide), ziw_iff (by decide)]
        refine ⟨fun q3 => ⟨fun q2 => absurd q3 (ziw_23 q2), fun q2 => node false q3.1 (by unfold zrnode; rw [zif_f q2, zif_t q3])⟩, fun q3 => ⟨fun q2 => ⟨fun _ => node true q2.1 (by unfold zrnode; rw [zif_t q2]), fun z => absurd q2 z⟩, fun q2 => ⟨fun _ => ?_, fun z => absurd e38 z⟩⟩⟩
        have e : zrnode t v h s = .inl (1, s) := by unfold zrnode; rw [zif_f q2, zif_f q3]
        have b : zMb 801 1 s (z_up (z_up (z_up I3 107 8 1) 107 6 1) 107 7 (I3 107 5)) := ⟨by rw [zup_n (by omega), zup_n (by omega), zup_s], by rw [zup_n (by omega), zup_s]; rfl, by rw [zup_s]; exact e35, s, by rw [zup_n (by omega), zup_n (by omega), zup_n (by omega)]; exact e35, by omega⟩
        exact vc_X6_readTree_4 ⟨fun z => absurd z (by decide), fun _ => ⟨fun z => absurd z (by rw [b.1]; decide), fun _ => k0 _ A1 1 s (hz _ e) (zMd_7 (zMd_6 (zMd_8 d3 (by decide)) (by decide)) (by decide)) a1 (zMb_le b (by decide))⟩⟩
  exact key (t.2 + 1) v none k I A none none none (by omega) hk (zMd_rf _) (zMa_rf _) h5 h8 hv hw hh h1 h0
/-- what a partition with its nodes comes to -/
noncomputable def zrpt (t : zT) (v : zV) (s : Nat) : (Nat × Nat) ⊕ (zV × Nat) := match zrpart t v s with
  | .inl e => .inl e
  | .inr (v', s') => zrtree t (t.2 + 1) v' none s'
theorem s6_readPartition (hT : mTx t I A) (hs : zat0 t s) (h5 : I 107 5 = nI s) (h8 : I 107 8 = 0) (hv : mIm 2 v A) (hw : zwf v) (h1 : ∀ (I' A' : Nat → Nat → Int32) v' s' k', zrpt t v s = .inr (v', s') → zMd I I' → zMa A A' → I' 107 8 = 0 → I' 107 5 = nI k' → k' ≤ t.2 → zsk t k' = s' → mIm 2 v' A' → Φ (.inl none) (I', R, A', lo, dd) 0) (h0 : ∀ (I' A' : Nat → Nat → Int32) c p, zrpt t v s = .inl (c, p) → zMd I I' → zMa A A' → zMb 811 c p I' → Φ (.inl none) (I', R, A', lo, dd) 0) : zC L xs mX6_readPartition [.ref 107] (I, R, A, lo, dd) Φ := by
  have hs1 := hs.1
  have hP4 := hw.1
  have hT2 := hT.2.1
  have hv0 := hv
  obtain ⟨m0, m1, m2, p0, p1, p2, n0, n1, n2, n3, n4, n5⟩ := hv0
  have m1' : A 108 319 = nI (vP v) := m1
  -- once bad
  have b140 : ∀ (I1 : Nat → Nat → Int32) (x1 x2 x3 : Int32) (m c p : Nat), zrpt t v s = .inl (c, p) → zMd I I1 → zMb m c p I1 → m ≤ 811 → zW L xs mX6_readPartition 140 [some (.ref 107), some (.int x1), some (.int x2), some (.int x3), none] [] (I1, R, A, lo, dd) Φ := by
    intro I1 x1 x2 x3 m c p e d b hm
    exact vc_X6_readPartition_140 ⟨fun z => absurd z (by rw [b.1]; decide), fun _ => h0 I1 A c p e d (zMa_rf _) (zMb_le b hm)⟩
  have bsym : ∀ (I1 : Nat → Nat → Int32) (x1 x2 x3 : Int32) (m c p : Nat), zrpt t v s = .inl (c, p) → zMd I I1 → zMb m c p I1 → m ≤ 810 → zC L xs mX6_symbol [.ref 107, .int 123] (I1, R, A, lo, dd) (z_kont [] (fun r τ Ψ => zW L xs mX6_readPartition 140 [some (.ref 107), some (.int x1), some (.int x2), some (.int x3), none] (r.toList ++ []) τ Ψ) Φ) := by
    intro I1 x1 x2 x3 m c p e d b hm
    exact s6_symbol_bad (by omega) b (fun I2 d2 b2 => zk_r (b140 I2 x1 x2 x3 (m + 1) c p e (zMd_tr d d2) b2 (by omega)))
  have b107 : ∀ (I1 : Nat → Nat → Int32) (x x1 x2 : Int32) (m c p : Nat), zrpt t v s = .inl (c, p) → zMd I I1 → zMb m c p I1 → m ≤ 810 → zW L xs mX6_readPartition 107 [some (.ref 107), some (.int x1), some (.int x2), none, none] [.int x] (I1, R, A, lo, dd) Φ := by
    intro I1 x x1 x2 m c p e d b hm
    exact vc_X6_readPartition_107 ⟨fun z => absurd z (by rw [b.1]; decide), fun _ => bsym I1 _ _ _ m c p e d b hm⟩
  have b99 : ∀ (I1 : Nat → Nat → Int32) (x x1 : Int32) (m c p : Nat), zrpt t v s = .inl (c, p) → zMd I I1 → zMb m c p I1 → m ≤ 810 → zW L xs mX6_readPartition 99 [some (.ref 107), some (.int x1), none, none, none] [.int x] (I1, R, A, lo, dd) Φ := by
    intro I1 x x1 m c p e d b hm
    exact vc_X6_readPartition_99 (s6_number_bad (by rw [b.1]; decide) (zk_r (b107 I1 _ _ _ m c p e d b hm)))
  have bnum : ∀ (I1 : Nat → Nat → Int32) (x1 : Int32) (m c p : Nat), zrpt t v s = .inl (c, p) → zMd I I1 → zMb m c p I1 → m ≤ 810 → zC L xs mX6_number [.ref 107, .int 0, .int 99999] (I1, R, A, lo, dd) (z_kont [] (fun r τ Ψ => zW L xs mX6_readPartition 99 [some (.ref 107), some (.int x1), none, none, none] (r.toList ++ []) τ Ψ) Φ) := by
    intro I1 x1 m c p e d b hm
    exact s6_number_bad (by rw [b.1]; decide) (zk_r (b99 I1 _ _ m c p e d b hm))
  have b67 : ∀ (I1 : Nat → Nat → Int32) (x : Int32) (m c p : Nat), zrpt t v s = .inl (c, p) → zMd I I1 → zMb m c p I1 → m ≤ 810 → zW L xs mX6_readPartition 67 [some (.ref 107), none, none, none, none] [.int x] (I1, R, A, lo, dd) Φ := by
    intro I1 x m c p e d b hm
    exact vc_X6_readPartition_67 ⟨fun z => absurd z (by rw [b.1]; decide), fun _ => bnum I1 _ m c p e d b hm⟩
  have bname : ∀ (I1 : Nat → Nat → Int32) (m c p : Nat), zrpt t v s = .inl (c, p) → zMd I I1 → zMb m c p I1 → m ≤ 810 → zC L xs mX6_name [.ref 107] (I1, R, A, lo, dd) (z_kont [] (fun r τ Ψ => zW L xs mX6_readPartition 67 [some (.ref 107), none, none, none, none] (r.toList ++ []) τ Ψ) Φ) := by
    intro I1 m c p e d b hm
    exact s6_name_bad (by rw [b.1]; decide) (zk_r (b67 I1 _ m c p e d b hm))
  refine zC_en (vc_X6_readPartition_0 (s6_word hT hs1 h5 (fun I1 hI1 e15 => zk_r (vc_X6_readPartition_4 ?_))))
  rw [zsk_id hs] at e15 ⊢
  have d1 := zMd_5 hI1
  have e18 : I1 107 8 = 0 := by rw [hI1 107 8 (by omega)]; exact h8
  have hT1 := mTx_fr (A' := A) hT d1 rfl
  rw [lg_cmp_eq, show ((4536598667450 : Int64)) = lN (zwn 201) from rfl, ziw_iff (by decide)]
  have wr : ∀ c : Nat, zrpt t v s = .inl (c, s) → (z_up (z_up (z_up I1 107 8 1) 107 6 (nI c)) 107 7 (I1 107 5)) 107 8 = 1 ∧ zC L xs mX6_name [.ref 107] (z_up (z_up (z_up (z_up I1 107 8 1) 107 6 (nI c)) 107 7 (I1 107 5)) 107 5 ((z_up (z_up (z_up I1 107 8 1) 107 6 (nI c)) 107 7 (I1 107 5)) 107 5), R, A, lo, dd) (z_kont [] (fun r τ Ψ => zW L xs mX6_readPartition 67 [some (.ref 107), none, none, none, none] (r.toList ++ []) τ Ψ) Φ) := by
    intro c e
    refine ⟨by rw [zup_n (by omega), zup_n (by omega), zup_s], bname _ 801 c s e (zMd_up (zMd_7 (zMd_6 (zMd_8 d1 (by decide)) (by decide)) (by decide)) (by decide)) ⟨by rw [zup_n (by omega), zup_n (by omega), zup_n (by omega), zup_s], by rw [zup_n (by omega), zup_n (by omega), zup_s], by rw [zup_n (by omega), zup_s]; exact e15, s, by rw [zup_s, zup_n (by omega), zup_n (by omega), zup_n (by omega)]; exact e15, by omega⟩ (by decide)⟩
  refine ⟨fun q => ?_, fun q => ⟨fun _ => ?_, fun z => absurd e18 z⟩⟩
  · show z_in ((159 * 2) + 1) 477 ∧ _
    refine ⟨by decide, ?_⟩
    rw [show A 108 (Int32.toNatClampNeg ((159 * 2) + 1)) = nI (vP v) from m1]
    refine ⟨fun qP => ⟨fun _ => ?_, fun z => absurd e18 z⟩, fun qP => ⟨fun _ => ?_, fun z => absurd e18 z⟩⟩
    · have qP' : vP v = 4 := (nI_eq (by omega) (by decide)).mp qP
      have e : zrpt t v s = .inl (5, s) := by unfold zrpt zrpart; rw [zif_t q, if_pos (by omega)]
      obtain ⟨w1, w2⟩ := wr 5 e
      exact ⟨fun z => absurd z (by rw [show ((z_up (z_up (z_up I1 107 8 1) 107 6 5) 107 7 (I1 107 5)) 107 8) = 1 from w1]; decide), fun _ => w2⟩
    · have qP' : vP v < 4 := by
        refine Nat.lt_of_le_of_ne hP4 (fun z => qP (by rw [z]; rfl))
      have hz0 : ∀ r, zrname t (znx t s) = r → zrpart t v s = (match r with
        | .inl e => .inl e
        | .inr lb => zif (zdupL v (nI lb)) (.inl (3, znx t s)) (zrp2 t v (nI lb) (znx t (znx t s)))) := fun r hr => by
        unfold zrpart
        rw [zif_t q, if_neg (by omega), hr]
        cases r <;> rfl
      have ht : ∀ e, zrpart t v s = .inl e → zrpt t v s = .inl e := fun e he => by unfold zrpt; rw [he]
      have hxs : zrun t 1 s = ztx t s := (zat_word q.1).2.2.1.symm
      have hxl := ztx_le hs1
      have hn1 := znx_le hs1
      refine s6_wordEnd hT1 (by omega) e15 (zk_r (vc_X6_readPartition_60 ?_))
      rw [hxs]
      have d2 : zMd I (z_up I1 107 5 (nI (ztx t s))) := zMd_up d1 (by decide)
      have e25 : z_up I1 107 5 (nI (ztx t s)) 107 5 = nI (ztx t s) := zup_s
      have e28 : z_up I1 107 5 (nI (ztx t s)) 107 8 = 0 := by rw [zup_n (by omega)]; exact e18
      generalize z_up I1 107 5 (nI (ztx t s)) = I2 at *
      refine s6_name (mTx_fr hT d2 rfl) hxl e25 e28 (fun I3 lb hn d3 e35 e38 e310 => zk_r (vc_X6_readPartition_67 ⟨fun _ => ?_, fun z => absurd e38 z⟩)) (fun I3 c p x hn d3 b3 => zk_r (b67 I3 _ 801 c p (ht _ (hz0 _ hn)) (zMd_tr d2 d3) b3 (by decide)))
      replace hn : zrname t (znx t s) = .inr lb := hn
      replace e310 : I3 107 10 = nI (znx t s) := e310
      have d03 := zMd_tr d2 d3
      have hok := (zrname_ok hn).1
      have hz1 := hz0 _ hn
      refine s6_hasLabel hv hP4 (fun qd => zk_r (vc_X6_readPartition_80 ⟨fun z => absurd z (by decide), fun _ => ⟨fun _ => ?_, fun z => absurd e38 z⟩⟩)) (fun qd => zk_r (vc_X6_readPartition_80 ⟨fun _ => ?_, fun z => absurd rfl z⟩))
      · replace hz1 : zrpart t v s = .inl (3, znx t s) := by rw [hz1]; exact zif_t qd
        refine bnum _ _ 801 3 (znx t s) (ht _ hz1) (zMd_7 (zMd_6 (zMd_8 d03 (by decide)) (by decide)) (by decide)) ⟨by rw [zup_n (by omega), zup_n (by omega), zup_s], by rw [zup_n (by omega), zup_s]; rfl, by rw [zup_s]; exact e310, ztx t (znx t s), by rw [zup_n (by omega), zup_n (by omega), zup_n (by omega)]; exact e35, ?_⟩ (by decide)
        have := ztx_le hn1
        omega
      · replace hz1 : zrpart t v s = zrp2 t v (nI lb) (znx t (znx t s)) := by rw [hz1]; exact zif_f qd
        have hx2 := ztx_le hn1
        have hn2 := znx_le hn1
        have hx3 := ztx_le hn2
        have hn3 := znx_le hn2
        have hx4 := ztx_le hn3
        refine s6_number (mTx_fr hT d03 rfl) hx2 e35 e38 (lw := 0) (hi := 99999) (by decide) (by decide) (fun I4 fs hfs d4 e45 e48 _ _ => zk_r (vc_X6_readPartition_99 ?_)) (fun I4 c p x hfs d4 b4 => zk_r (b99 I4 _ _ 801 c p (ht _ (by rw [hz1]; unfold zrp2; rw [show zrnum t 0 99999 (znx t (znx t s)) = _ from hfs])) (zMd_tr d03 d4) b4 (by decide)))
        replace hfs : zrnum t 0 99999 (znx t (znx t s)) = .inr fs := hfs
        have hz2 : zrpart t v s = zrp3 t v (nI lb) (nI fs) (znx t (znx t (znx t s))) := by rw [hz1]; unfold zrp2; rw [hfs]
        have d04 := zMd_tr d03 d4
        refine s6_number (mTx_fr hT d04 rfl) hx3 e45 e48 (lw := 1) (hi := 99999) (by decide) (by decide) (fun I5 ln hln d5 e55 e58 e59 _ => zk_r (vc_X6_readPartition_107 ⟨fun _ => ?_, fun z => absurd e58 z⟩)) (fun I5 c p x hln d5 b5 => zk_r (b107 I5 _ _ _ 801 c p (ht _ (by rw [hz2]; unfold zrp3; rw [show zrnum t 1 99999 (znx t (znx t (znx t s))) = _ from hln])) (zMd_tr d04 d5) b5 (by decide)))
        replace hln : zrnum t 1 99999 (znx t (znx t (znx t s))) = .inr ln := hln
        replace e59 : I5 107 9 = nI (znx t (znx t (znx t s))) := e59
        have d05 := zMd_tr d04 d5
        have hz3 : zrpart t v s = zif (zroom v (nI fs) (nI ln)) (if ztk t (znx t (znx t (znx t (znx t s)))) = 3 ∧ t.1 (znx t (znx t (znx t (znx t s)))) = 123 then .inr (zadp v (nI lb) (nI fs) (nI ln), znx t (znx t (znx t (znx t (znx t s))))) else .inl (1, znx t (znx t (znx t (znx t s))))) (.inl (6, znx t (znx t (znx t s)))) := by rw [hz2]; unfold zrp3; rw [hln]
        refine s6_hasRoom hv hP4 (fun qr => zk_r (vc_X6_readPartition_121 ⟨fun z => absurd z (by decide), fun _ => ?_⟩)) (fun qr => zk_r (vc_X6_readPartition_121 ⟨fun _ => ⟨fun _ => ?_, fun z => absurd e58 z⟩, fun z => absurd rfl z⟩))
        · rw [zif_t qr] at hz3
          refine s6_symbol (mTx_fr hT d05 rfl) hx4 e55 e58 (c := 123) rfl (fun I6 qs hI6 e65 => zk_r ?_) (fun I6 qs d6 b6 => zk_r (b140 I6 _ _ _ 801 1 _ (ht _ (by rw [hz3]; exact if_neg qs)) (zMd_tr d05 d6) b6 (by decide)))
          have hz4 : zrpart t v s = .inr (zadp v (nI lb) (nI fs) (nI ln), znx t (znx t (znx t (znx t (znx t s))))) := by rw [hz3]; exact if_pos qs
          have d06 := zMd_tr d05 (zMd_5 hI6)
          have e68 : I6 107 8 = 0 := by rw [hI6 107 8 (by omega)]; exact e58
          obtain ⟨g1, g2, g3, g4, g5, g6⟩ := zrpart_ok hs1 hw hz4
          have hv1 : mIm 2 (zadp v (nI lb) (nI fs) (nI ln)) (z_up (z_up (z_up (z_up A 108 (159 * 2 + 3 + 3 * vP v + 0) (nI lb)) 108 (159 * 2 + 3 + 3 * vP v + 1) (nI fs)) 108 (159 * 2 + 3 + 3 * vP v + 2) (nI ln)) 108 319 (nI (vP v + 1))) := by
            refine ⟨?_, zup_s, ?_, fun p hp => ?_, fun p hp => ?_, fun p hp => ?_, fun k hk => ?_, fun k hk => ?_, fun k hk => ?_, fun k hk => ?_, fun k hk => ?_, fun k hk => ?_⟩
            · rw [zup_n (by omega), zup_n (by omega), zup_n (by omega), zup_n (by omega)]; exact m0
            · rw [zup_n (by omega), zup_n (by omega), zup_n (by omega), zup_n (by omega)]; exact m2
            · replace hp : p < vP v + 1 := hp
              show _ = zse (vpt v 0) (vP v) (nI lb) p
              rw [zup_n (by omega), zup_n (by omega), zup_n (by omega)]
              by_cases e : p = vP v
              · rw [e, zup_s, zse_s]
              · rw [zup_n (by omega), zse_n e]; exact p0 p (by omega)
            · replace hp : p < vP v + 1 := hp
              show _ = zse (vpt v 1) (vP v) (nI fs) p
              rw [zup_n (by omega), zup_n (by omega)]
              by_cases e : p = vP v
              · rw [e, zup_s, zse_s]
              · rw [zup_n (by omega), zup_n (by omega), zse_n e]; exact p1 p (by omega)
            · replace hp : p < vP v + 1 := hp
              show _ = zse (vpt v 2) (vP v) (nI ln) p
              rw [zup_n (by omega)]
              by_cases e : p = vP v
              · rw [e, zup_s, zse_s]
              · rw [zup_n (by omega), zup_n (by omega), zup_n (by omega), zse_n e]; exact p2 p (by omega)
            · replace hk : k < vN v := hk
              rw [zup_n (by omega), zup_n (by omega), zup_n (by omega), zup_n (by omega)]; exact n0 k hk
            · replace hk : k < vN v := hk
              rw [zup_n (by omega), zup_n (by omega), zup_n (by omega), zup_n (by omega)]; exact n1 k hk
            · replace hk : k < vN v := hk
              rw [zup_n (by omega), zup_n (by omega), zup_n (by omega), zup_n (by omega)]; exact n2 k hk
            · replace hk : k < vN v := hk
              rw [zup_n (by omega), zup_n (by omega), zup_n (by omega), zup_n (by omega)]; exact n3 k hk
            · replace hk : k < vN v := hk
              rw [zup_n (by omega), zup_n (by omega), zup_n (by omega), zup_n (by omega)]; exact n4 k hk
            · replace hk : k < vN v := hk
              rw [zup_n (by omega), zup_n (by omega), zup_n (by omega), zup_n (by omega)]; exact n5 k hk
          have ha1 : zMa A (z_up (z_up (z_up (z_up A 108 (159 * 2 + 3 + 3 * vP v + 0) (nI lb)) 108 (159 * 2 + 3 + 3 * vP v + 1) (nI fs)) 108 (159 * 2 + 3 + 3 * vP v + 2) (nI ln)) 108 319 (nI (vP v + 1))) := zMa_up (zMa_up (zMa_up (zMa_up (zMa_rf _) (by omega)) (by omega)) (by omega)) (by omega)
          refine vc_X6_readPartition_140 ⟨fun _ => ?_, fun z => absurd e68 z⟩
          simp (disch := omega) only [ze_lit, pk_mul, nI_add, nI_clamp, ze_inI, nI_ltI, nI_eq, m1, m1', zup_n]
          generalize (z_up (z_up (z_up (z_up A 108 (159 * 2 + 3 + 3 * vP v + 0) (nI lb)) 108 (159 * 2 + 3 + 3 * vP v + 1) (nI fs)) 108 (159 * 2 + 3 + 3 * vP v + 2) (nI ln)) 108 319 (nI (vP v + 1))) = A7 at *
          refine ⟨by omega, by omega, by omega, by omega, s6_readTree (mTx_fr hT d06 (ha1.1 110 (by decide))) (ztx_le (znx_le hn3)) e65 e68 hv1 g1 g2 (fun I8 A8 v' s' k' e d8 a8 e88 e85 hk' hsk hv' => zk_r (vc_X6_readPartition_210 (h1 I8 A8 v' s' k' (by unfold zrpt; rw [hz4]; exact e) (zMd_tr d06 d8) (zMa_tr ha1 a8) e88 e85 hk' hsk hv'))) (fun I8 A8 c p e d8 a8 b8 => zk_r (vc_X6_readPartition_210 (h0 I8 A8 c p (by unfold zrpt; rw [hz4]; exact e) (zMd_tr d06 d8) (zMa_tr ha1 a8) (zMb_le b8 (by decide)))))⟩
        · rw [zif_f qr] at hz3
          refine bsym _ _ _ _ 801 6 _ (ht _ hz3) (zMd_7 (zMd_6 (zMd_8 d05 (by decide)) (by decide)) (by decide)) ⟨by rw [zup_n (by omega), zup_n (by omega), zup_s], by rw [zup_n (by omega), zup_s]; rfl, by rw [zup_s]; exact e59, ztx t (znx t (znx t (znx t s))), by rw [zup_n (by omega), zup_n (by omega), zup_n (by omega)]; exact e55, by omega⟩ (by decide)
  · have e : zrpt t v s = .inl (1, s) := by unfold zrpt zrpart; rw [zif_f q]
    obtain ⟨w1, w2⟩ := wr 1 e
    exact ⟨fun z => absurd z (by rw [show ((z_up (z_up (z_up I1 107 8 1) 107 6 1) 107 7 (I1 107 5)) 107 8) = 1 from w1]; decide), fun _ => w2⟩
theorem s6_readImage (hT : mTx t I A) (h5 : I 107 5 = nI 0) (h8 : I 107 8 = 0) (hz9 : A 108 319 = 0) (hz0' : A 108 320 = 0) (h1 : ∀ (I' A' : Nat → Nat → Int32) v', zrimg t = .inr v' → zMd I I' → I' 107 6 = I 107 6 → I' 107 7 = I 107 7 → zMa A A' → I' 107 8 = 0 → mIm 2 v' A' → Φ (.inl none) (I', R, A', lo, dd) 0) (h0 : ∀ (I' A' : Nat → Nat → Int32) c p, zrimg t = .inl (c, p) → zMd I I' → zMa A A' → zMb 812 c p I' → Φ (.inl none) (I', R, A', lo, dd) 0) : zC L xs mX6_readImage [.ref 107] (I, R, A, lo, dd) Φ := by
  have hT2 := hT.2.1
  -- once bad
  have b40 : ∀ (I1 A1 : Nat → Nat → Int32) (m c p : Nat), zrimg t = .inl (c, p) → zMd I I1 → zMa A A1 → zMb m c p I1 → m ≤ 812 → zW L xs mX6_readImage 40 [some (.ref 107)] [] (I1, R, A1, lo, dd) Φ := by
    intro I1 A1 m c p e d a b hm
    exact vc_X6_readImage_40 ⟨fun z => absurd z (by rw [b.1]; decide), fun _ => h0 I1 A1 c p e d a (zMb_le b hm)⟩
  have b33 : ∀ (I1 : Nat → Nat → Int32) (x : Int32) (m c p : Nat), zrimg t = .inl (c, p) → zMd I I1 → zMb m c p I1 → m ≤ 811 → zW L xs mX6_readImage 33 [some (.ref 107)] [.int x, .int 318, .ref 108] (I1, R, A, lo, dd) Φ := by
    intro I1 x m c p e d b hm
    exact vc_X6_readImage_33 (s6_symbol_bad (by omega) b (fun I2 d2 b2 => zk_r (b40 I2 _ (m + 1) c p e (zMd_tr d d2) (zMa_up (zMa_rf _) (by decide)) b2 (by omega))))
  -- the partitions
  have key : ∀ n (v : zV) (k : Nat) (I1 A1 : Nat → Nat → Int32), 5 ≤ vP v + n → k ≤ t.2 → zMd I I1 → zMa A A1 → I1 107 5 = nI k → I1 107 8 = 0 → mIm 2 v A1 → zwf v → zrimg t = zrparts t n v (zsk t k) → zW L xs mX6_readImage 40 [some (.ref 107)] [] (I1, R, A1, lo, dd) Φ := by
    intro n
    induction n with
    | zero =>
      intro v k I1 A1 q _ _ _ _ _ _ hw
      have := hw.1
      omega
    | succ n ih =>
      intro v k I1 A1 hn hk d1 a1 e5 e8 hv hw hz
      have hT1 := mTx_fr hT d1 (a1.1 110 (by decide))
      have hsat := zsk_at hk
      refine vc_X6_readImage_40 ⟨fun _ => s6_here hT1 hk e5 (fun I2 hI2 e25 => zk_r (vc_X6_readImage_51 ?_)), fun z => absurd e8 z⟩
      generalize zsk t k = s at *
      have hs1 := hsat.1
      have d2 := zMd_tr d1 (zMd_5 hI2)
      have e28 : I2 107 8 = 0 := by rw [hI2 107 8 (by omega)]; exact e8
      have hT3 := mTx_fr hT d2 (a1.1 110 (by decide))
      by_cases q : s < t.2
      · rw [if_pos q]
        have hb := (hT.2.2 s q).2
        refine ⟨fun z => ((ze_m1 (by omega)).mp z).elim, fun _ => s6_readPartition hT3 hsat e25 e28 hv hw (fun I3 A3 v3 s3 k3 e d3 a3 e38 e35 hk3 hs3 hv3 => zk_r (vc_X6_readImage_59 ?_)) (fun I3 A3 c p e d3 a3 b3 => zk_r (vc_X6_readImage_59 (b40 I3 A3 811 c p ?_ (zMd_tr d2 d3) (zMa_tr a1 a3) b3 (by decide))))⟩
        · unfold zrpt at e
          cases e1 : zrpart t v s with
          | inl x => rw [e1] at e; cases e
          | inr r =>
            obtain ⟨v1, s1⟩ := r
            rw [e1] at e
            obtain ⟨c1, c2, c3, c4, c5, c6⟩ := zrpart_ok hs1 hw e1
            obtain ⟨b1, b2, b3, b4⟩ := zrtree_ok _ c6 c1 c2 e
            subst hs3
            exact ih v3 k3 I3 A3 (by omega) hk3 (zMd_tr d2 d3) (zMa_tr a1 a3) e35 e38 hv3 b1 (hz.trans (zrparts_e3 q e1 e))
        · refine hz.trans ?_
          unfold zrpt at e
          cases e1 : zrpart t v s with
          | inl x => rw [e1] at e; cases e; exact zrparts_e1 q e1
          | inr r =>
            obtain ⟨v1, s1⟩ := r
            rw [e1] at e
            exact zrparts_e2 q e1 e
      · rw [if_neg q]
        exact ⟨fun _ => h1 I2 A1 v (hz.trans (zrparts_e0 q)) d2 (by rw [hI2 107 6 (by omega)]; exact (d1.2 e8).2.1) (by rw [hI2 107 7 (by omega)]; exact (d1.2 e8).2.2) a1 e28 hv, fun z => absurd rfl z⟩
  have hs := zsk_at (Nat.zero_le t.2)
  have hs1 := hs.1
  have hn1 := znx_le hs1
  have hx1 := ztx_le hs1
  have hx2 := ztx_le hn1
  have hn2 := znx_le hn1
  refine zC_en (vc_X6_readImage_0 (s6_takes (w := 200) hT (Nat.zero_le _) h5 h8 (by decide) (fun I1 q hI1 e15 => zk_r (vc_X6_readImage_7 ⟨fun z => absurd z (by decide), fun _ => ?_⟩)) (fun I1 q hI1 e15 => zk_r (vc_X6_readImage_7 ⟨fun _ => ⟨fun _ => ?_, fun z => absurd (by rw [hI1 107 8 (by omega)]; exact h8) z⟩, fun z => absurd rfl z⟩))))
  · have d1 := zMd_5 hI1
    have e18 : I1 107 8 = 0 := by rw [hI1 107 8 (by omega)]; exact h8
    have hz0 : ∀ r, zrdisk t (zsk t 0) = .inl r → zrimg t = .inl r := fun r hr => by unfold zrimg; rw [hr]
    refine s6_number (lw := 1) (hi := 99999) (mTx_fr hT d1 rfl) hx1 e15 e18 (by decide) (by decide) (fun I2 sz hsz d2 e25 e28 _ _ => zk_r (vc_X6_readImage_33 ?_)) (fun I2 c p x hsz d2 b2 => zk_r (b33 I2 x 801 c p (hz0 _ ?_) (zMd_tr d1 d2) b2 (by decide)))
    · have d02 := zMd_tr d1 d2
      have aa : zMa A (z_up A 108 318 (nI sz)) := zMa_up (zMa_rf _) (by decide)
      replace hsz : zrnum t 1 99999 (znx t (zsk t 0)) = .inr sz := hsz
      replace e25 : I2 107 5 = nI (ztx t (znx t (zsk t 0))) := e25
      refine s6_symbol (c := 59) (mTx_fr hT d02 (aa.1 110 (by decide))) hx2 e25 e28 (by decide) (fun I3 q3 hI3 e35 => zk_r ?_) (fun I3 q3 d3 b3 => zk_r (b40 I3 _ 801 1 _ (hz0 _ ?_) (zMd_tr d02 d3) aa b3 (by decide)))
      · have d3 := zMd_tr d02 (zMd_5 hI3)
        replace q3 : zis t (znx t (znx t (zsk t 0))) 59 := q3
        refine key 5 (zem (nI sz)) (ztx t (znx t (znx t (zsk t 0)))) I3 _ (by show 5 ≤ 0 + 5; omega) (ztx_le hn2) d3 aa e35 (by rw [hI3 107 8 (by omega)]; exact e28) ?_ (zwf_em _) ?_
        · refine ⟨zup_s, ?_, ?_, fun p hp => absurd hp (Nat.not_lt_zero _), fun p hp => absurd hp (Nat.not_lt_zero _), fun p hp => absurd hp (Nat.not_lt_zero _), fun k hk => absurd hk (Nat.not_lt_zero _), fun k hk => absurd hk (Nat.not_lt_zero _), fun k hk => absurd hk (Nat.not_lt_zero _), fun k hk => absurd hk (Nat.not_lt_zero _), fun k hk => absurd hk (Nat.not_lt_zero _), fun k hk => absurd hk (Nat.not_lt_zero _)⟩
          · show z_up A 108 318 (nI sz) 108 319 = nI 0
            rw [zup_n (by omega)]
            exact hz9
          · show z_up A 108 318 (nI sz) 108 320 = nI 0
            rw [zup_n (by omega)]
            exact hz0'
        · unfold zrimg zrdisk
          rw [zif_t q, hsz]
          dsimp only
          rw [if_pos (show ztk t (znx t (znx t (zsk t 0))) = 3 ∧ t.1 (znx t (znx t (zsk t 0))) = 59 from q3)]
          rfl
      · show zrdisk t (zsk t 0) = .inl (1, znx t (znx t (zsk t 0)))
        unfold zrdisk
        rw [zif_t q, hsz]
        exact if_neg q3
    · unfold zrdisk
      rw [zif_t q, show zrnum t 1 99999 (znx t (zsk t 0)) = _ from hsz]
  · have d1 := zMd_5 hI1
    refine s6_number_bad (by rw [zup_n (by omega), zup_n (by omega), zup_s]; decide) (zk_r (b33 _ _ 801 1 (zsk t 0) ?_ (zMd_7 (zMd_6 (zMd_8 d1 trivial) trivial) trivial) ⟨by rw [zup_n (by omega), zup_n (by omega), zup_s], by rw [zup_n (by omega), zup_s]; rfl, by rw [zup_s]; exact e15, zsk t 0, by rw [zup_n (by omega), zup_n (by omega), zup_n (by omega)]; exact e15, by omega⟩ (by decide)))
    unfold zrimg zrdisk
    rw [zif_f q]
end
