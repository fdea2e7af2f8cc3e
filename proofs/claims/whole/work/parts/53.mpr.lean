/-! the model reads an image -/
def zMa (A A' : Nat → Nat → Int32) : Prop := (∀ c, c ≠ 108 → A' c = A c) ∧ (∀ j, j < 318 → A' 108 j = A 108 j)
theorem zMa_rf (A : Nat → Nat → Int32) : zMa A A := ⟨fun _ _ => rfl, fun _ _ => rfl⟩
theorem zMa_tr {A A' A'' : Nat → Nat → Int32} (h : zMa A A') (g : zMa A' A'') : zMa A A'' := ⟨fun c q => (g.1 c q).trans (h.1 c q), fun j q => (g.2 j q).trans (h.2 j q)⟩
theorem zMa_up {A A' : Nat → Nat → Int32} {j : Nat} {x : Int32} (h : zMa A A') (hj : 318 ≤ j) : zMa A (z_up A' 108 j x) := by
  refine ⟨fun c q => ?_, fun i q => ?_⟩
  · funext z
    rw [zup_n (fun y => q y.1)]
    exact congrFun (h.1 c q) z
  · rw [zup_n (fun y => by omega)]
    exact h.2 i q
theorem zMb_le {m m' c p : Nat} {I : Nat → Nat → Int32} (h : zMb m c p I) (hm : m ≤ m') : zMb m' c p I := ⟨h.1, h.2.1, h.2.2.1, by
  obtain ⟨a, h5, ha⟩ := h.2.2.2
  exact ⟨a, h5, by omega⟩⟩
section
variable {L : Nat} {xs : Nat → Int32} {I : Nat → Nat → Int32} {R : Nat → Nat → Option Nat} {A : Nat → Nat → Int32} {lo : Int64} {dd : UInt64} {Φ : zPo} {t : zT} {s : Nat} {v : zV}
theorem s6_hasLabel (hv : mIm 2 v A) (hw : vP v ≤ 4) {x : Int32} (h1 : zdupL v x → Φ (.inl (some (.int 1))) (I, R, A, lo, dd) 0) (h0 : ¬ zdupL v x → Φ (.inl (some (.int 0))) (I, R, A, lo, dd) 0) : zC L xs mX6_hasLabel [.ref 107, .int x] (I, R, A, lo, dd) Φ := by
  obtain ⟨m0, m1, m2, p0, p1, p2, n0, n1, n2, n3, n4, n5⟩ := hv
  refine zC_en (vc_X6_hasLabel_0 ?_)
  refine ze_up (P := fun i => (∀ j, j < i → ¬ vpt v 0 j = x) → zW L xs mX6_hasLabel 2 [some (.ref 107), some (.int x), some (.int (nI i))] [] (I, R, A, lo, dd) Φ) (n := vP v) ?_ ?_ 0 (Nat.zero_le _) (fun j q => absurd q (Nat.not_lt_zero _))
  · intro hn
    refine vc_X6_hasLabel_2 ?_
    simp (disch := omega) only [ze_lit, pk_mul, nI_add, nI_clamp, ze_inI, nI_ltI, nI_eq, m1]
    exact ⟨by omega, fun q => absurd q (Nat.lt_irrefl _), fun _ => h0 (fun ⟨p, q1, q2⟩ => hn p q1 q2)⟩
  · intro i hi ih hn
    refine vc_X6_hasLabel_2 ?_
    simp (disch := omega) only [ze_lit, pk_mul, nI_add, nI_clamp, ze_inI, nI_ltI, nI_eq, m1, p0]
    exact ⟨by omega, fun _ => ⟨by omega, fun q => h1 ⟨i, hi, q⟩, fun q => ih (lt_s hn q)⟩, fun q => absurd hi q⟩
theorem s6_hasRoom (hv : mIm 2 v A) (hw : vP v ≤ 4) {x y : Int32} (h1 : zroom v x y → Φ (.inl (some (.int 1))) (I, R, A, lo, dd) 0) (h0 : ¬ zroom v x y → Φ (.inl (some (.int 0))) (I, R, A, lo, dd) 0) : zC L xs mX6_hasRoom [.ref 107, .int x, .int y] (I, R, A, lo, dd) Φ := by
  obtain ⟨m0, m1, m2, p0, p1, p2, n0, n1, n2, n3, n4, n5⟩ := hv
  have e0 : A 108 318 = vS v := m0
  refine zC_en (vc_X6_hasRoom_0 ?_)
  rw [e0]
  have no : ∀ i, i ≤ vP v → ¬ zroom v x y → zW L xs mX6_hasRoom 23 [some (.ref 107), some (.int x), some (.int y), some (.int 0), some (.int (nI i))] [] (I, R, A, lo, dd) Φ := by
    refine ze_up ?_ ?_
    · intro hn
      refine vc_X6_hasRoom_23 ?_
      simp (disch := omega) only [ze_lit, pk_mul, nI_add, nI_clamp, ze_inI, nI_ltI, nI_eq, m1]
      exact ⟨by omega, fun q => absurd q (Nat.lt_irrefl _), fun _ => ⟨Or.inl trivial, h0 hn⟩⟩
    · intro i hi ih hn
      refine vc_X6_hasRoom_23 ?_
      simp (disch := omega) only [ze_lit, pk_mul, nI_add, nI_clamp, ze_inI, nI_ltI, nI_eq, m1]
      exact ⟨by omega, fun _ => ⟨fun _ => ih hn, fun z => absurd trivial z⟩, fun q => absurd hi q⟩
  have yes : ¬ vS v < x + y → ∀ i, i ≤ vP v → (∀ p, p < i → ¬ (x < vpt v 1 p + vpt v 2 p ∧ vpt v 1 p < x + y)) → zW L xs mX6_hasRoom 23 [some (.ref 107), some (.int x), some (.int y), some (.int 1), some (.int (nI i))] [] (I, R, A, lo, dd) Φ := by
    intro q0
    refine ze_up ?_ ?_
    · intro hn
      refine vc_X6_hasRoom_23 ?_
      simp (disch := omega) only [ze_lit, pk_mul, nI_add, nI_clamp, ze_inI, nI_ltI, nI_eq, m1]
      exact ⟨by omega, fun q => absurd q (Nat.lt_irrefl _), fun _ => ⟨Or.inr trivial, h1 ⟨q0, hn⟩⟩⟩
    · intro i hi ih hn
      refine vc_X6_hasRoom_23 ?_
      simp (disch := omega) only [ze_lit, pk_mul, nI_add, nI_clamp, ze_inI, nI_ltI, nI_eq, m1, p1, p2]
      exact ⟨by omega, fun _ => ⟨fun z => absurd z (by decide), fun _ => ⟨by omega, fun q1 => ⟨by omega, by omega, fun q2 => no (i + 1) (by omega) (fun z => z.2 i hi ⟨q2, q1⟩), fun q2 => ih (lt_s hn (fun z => q2 z.1))⟩, fun q1 => ih (lt_s hn (fun z => q1 z.2))⟩⟩, fun q => absurd hi q⟩
  exact ⟨fun q => no 0 (Nat.zero_le _) (fun z => z.1 q), fun q => yes q 0 (Nat.zero_le _) (fun p z => absurd z (Nat.not_lt_zero _))⟩
theorem s6_readNode {h : Option Nat} {f : Bool} (hT : mTx t I A) (hs : zat0 t s) (hk1 : ztk t s = 1) (h5 : I 107 5 = nI s) (h8 : I 107 8 = 0) (hv : mIm 2 v A) (hw : zwf v) (hh : zhold v h) (h1 : ∀ (I' A' : Nat → Nat → Int32) v' h' s' k', zif (zfull v h) (.inl (5, s)) (zpA t v h f (znx t s)) = (.inr (v', h', s') : zRN) → zMd I I' → zMa A A' → I' 107 8 = 0 → I' 107 5 = nI k' → k' ≤ t.2 → zsk t k' = s' → mIm 2 v' A' → Φ (.inl (some (.int (zpI h')))) (I', R, A', lo, dd) 0) (h0 : ∀ (I' : Nat → Nat → Int32) c p x, zif (zfull v h) (.inl (5, s)) (zpA t v h f (znx t s)) = (.inl (c, p) : zRN) → zMd I I' → zMb 810 c p I' → Φ (.inl (some (.int x))) (I', R, A, lo, dd) 0) : zC L xs mX6_readNode [.ref 107, .int (zpI h), .int (nI (if f then 1 else 0))] (I, R, A, lo, dd) Φ := by
  have hs1 := hs.1
  have hP1 := hh.1
  have hP4 := hw.1
  have hN24 := hw.2.1
  have hT2 := hT.2.1
  have hv0 := hv
  obtain ⟨m0, m1, m2, p0, p1, p2, n0, n1, n2, n3, n4, n5⟩ := hv0
  have hrl := zrun_le (c := 1) hs1
  have hxs : zrun t 1 s = ztx t s := (zat_word hk1).2.2.1.symm
  have hxl := ztx_le hs1
  -- once bad
  have b183 : ∀ (I1 : Nat → Nat → Int32) (x3 x4 x5 x6 x7 x8 : Int32) (m c p : Nat), zif (zfull v h) (.inl (5, s)) (zpA t v h f (znx t s)) = (.inl (c, p) : zRN) → zMd I I1 → zMb m c p I1 → m ≤ 810 → zW L xs mX6_readNode 183 [some (.ref 107), some (.int (zpI h)), some (.int (nI (if f then 1 else 0))), some (.int x3), some (.int x4), some (.int x5), some (.int x6), some (.int x7), some (.int x8)] [] (I1, R, A, lo, dd) Φ := by
    intro I1 x3 x4 x5 x6 x7 x8 m c p e d b hm
    exact vc_X6_readNode_183 ⟨fun z => absurd z (by rw [b.1]; decide), fun _ => h0 I1 c p (-1) e d (zMb_le b hm)⟩
  have bsym : ∀ (I1 : Nat → Nat → Int32) (x x3 x4 x5 x6 x7 x8 : Int32) (m c p : Nat), zif (zfull v h) (.inl (5, s)) (zpA t v h f (znx t s)) = (.inl (c, p) : zRN) → zMd I I1 → zMb m c p I1 → m ≤ 809 → zC L xs mX6_symbol [.ref 107, .int x] (I1, R, A, lo, dd) (z_kont [] (fun r τ Ψ => zW L xs mX6_readNode 183 [some (.ref 107), some (.int (zpI h)), some (.int (nI (if f then 1 else 0))), some (.int x3), some (.int x4), some (.int x5), some (.int x6), some (.int x7), some (.int x8)] (r.toList ++ []) τ Ψ) Φ) := by
    intro I1 x x3 x4 x5 x6 x7 x8 m c p e d b hm
    exact s6_symbol_bad (by omega) b (fun I2 d2 b2 => zk_r (b183 I2 x3 x4 x5 x6 x7 x8 (m + 1) c p e (zMd_tr d d2) b2 (by omega)))
  have btak : ∀ (I1 : Nat → Nat → Int32) (x3 x4 x5 x6 x7 : Int32) (m c p : Nat), zif (zfull v h) (.inl (5, s)) (zpA t v h f (znx t s)) = (.inl (c, p) : zRN) → zMd I I1 → zMb m c p I1 → m ≤ 809 → zC L xs mX6_takes [.ref 107, .long 34821] (I1, R, A, lo, dd) (z_kont [] (fun r τ Ψ => zW L xs mX6_readNode 152 [some (.ref 107), some (.int (zpI h)), some (.int (nI (if f then 1 else 0))), some (.int x3), some (.int x4), some (.int x5), some (.int x6), some (.int x7), none] (r.toList ++ []) τ Ψ) Φ) := by
    intro I1 x3 x4 x5 x6 x7 m c p e d b hm
    exact s6_takes_bad (by rw [b.1]; decide) (zk_r (vc_X6_readNode_152 ⟨fun _ => ⟨fun _ => bsym I1 _ _ _ _ _ _ _ m c p e d b hm, fun _ => bsym I1 _ _ _ _ _ _ _ m c p e d b hm⟩, fun z => absurd rfl z⟩))
  have bnum : ∀ (I1 : Nat → Nat → Int32) (x3 x4 x5 x6 : Int32) (m c p : Nat), zif (zfull v h) (.inl (5, s)) (zpA t v h f (znx t s)) = (.inl (c, p) : zRN) → zMd I I1 → zMb m c p I1 → m ≤ 809 → (((nI (if f then 1 else 0)) : Int32) = 0 → zC L xs mX6_takes [.ref 107, .long 34821] (I1, R, A, lo, dd) (z_kont [] (fun r τ Ψ => zW L xs mX6_readNode 152 [some (.ref 107), some (.int (zpI h)), some (.int (nI (if f then 1 else 0))), some (.int x3), some (.int x4), some (.int x5), some (.int x6), some (.int (-1)), none] (r.toList ++ []) τ Ψ) Φ)) ∧ (¬ ((nI (if f then 1 else 0)) : Int32) = 0 → zC L xs mX6_number [.ref 107, .int 0, .int 9999] (I1, R, A, lo, dd) (z_kont [] (fun r τ Ψ => zW L xs mX6_readNode 139 [some (.ref 107), some (.int (zpI h)), some (.int (nI (if f then 1 else 0))), some (.int x3), some (.int x4), some (.int x5), some (.int x6), none, none] (r.toList ++ []) τ Ψ) Φ)) := by
    intro I1 x3 x4 x5 x6 m c p e d b hm
    exact ⟨fun _ => btak I1 _ _ _ _ _ m c p e d b hm, fun _ => s6_number_bad (by rw [b.1]; decide) (zk_r (vc_X6_readNode_139 (btak I1 _ _ _ _ _ m c p e d b hm)))⟩
  have b97 : ∀ (I1 : Nat → Nat → Int32) (x x3 x4 x5 : Int32) (m c p : Nat), zif (zfull v h) (.inl (5, s)) (zpA t v h f (znx t s)) = (.inl (c, p) : zRN) → zMd I I1 → zMb m c p I1 → m ≤ 809 → zW L xs mX6_readNode 97 [some (.ref 107), some (.int (zpI h)), some (.int (nI (if f then 1 else 0))), some (.int x3), some (.int x4), some (.int x5), none, none, none] [.int x] (I1, R, A, lo, dd) Φ := by
    intro I1 x x3 x4 x5 m c p e d b hm
    exact vc_X6_readNode_97 ⟨fun z => absurd z (by rw [b.1]; decide), fun _ => bnum I1 _ _ _ _ m c p e d b hm⟩
  have bnb : ∀ (I1 : Nat → Nat → Int32) (x3 x4 x5 : Int32) (m c p : Nat), zif (zfull v h) (.inl (5, s)) (zpA t v h f (znx t s)) = (.inl (c, p) : zRN) → zMd I I1 → zMb m c p I1 → m ≤ 809 → zC L xs mX6_number [.ref 107, .int 0, .int 999] (I1, R, A, lo, dd) (z_kont [] (fun r τ Ψ => zW L xs mX6_readNode 97 [some (.ref 107), some (.int (zpI h)), some (.int (nI (if f then 1 else 0))), some (.int x3), some (.int x4), some (.int x5), none, none, none] (r.toList ++ []) τ Ψ) Φ) := by
    intro I1 x3 x4 x5 m c p e d b hm
    exact s6_number_bad (by rw [b.1]; decide) (zk_r (b97 I1 _ _ _ _ m c p e d b hm))
  have b58 : ∀ (I1 : Nat → Nat → Int32) (x x3 x4 : Int32) (m c p : Nat), zif (zfull v h) (.inl (5, s)) (zpA t v h f (znx t s)) = (.inl (c, p) : zRN) → zMd I I1 → zMb m c p I1 → m ≤ 809 → zW L xs mX6_readNode 58 [some (.ref 107), some (.int (zpI h)), some (.int (nI (if f then 1 else 0))), some (.int x3), some (.int x4), none, none, none, none] [.int x] (I1, R, A, lo, dd) Φ := by
    intro I1 x x3 x4 m c p e d b hm
    exact vc_X6_readNode_58 ⟨fun z => absurd z (by rw [b.1]; decide), fun _ => bnb I1 _ _ _ m c p e d b hm⟩
  -- no room
  have full : zfull v h → zC L xs mX6_wordEnd [.ref 107] (z_up (z_up (z_up I 107 8 1) 107 6 5) 107 7 (I 107 5), R, A, lo, dd) (z_kont [] (fun r τ Ψ => zW L xs mX6_readNode 51 [some (.ref 107), some (.int (zpI h)), some (.int (nI (if f then 1 else 0))), some (.int (nI (vP v - 1))), some (.int (nI (vN v))), none, none, none, none] (r.toList ++ [.ref 107]) τ Ψ) Φ) := by
    intro q
    have d : zMd I (z_up (z_up (z_up I 107 8 1) 107 6 5) 107 7 (I 107 5)) := zMd_7 (zMd_6 (zMd_8 (zMd_rf _) (by decide)) (by decide)) (by decide)
    have e5 : (z_up (z_up (z_up I 107 8 1) 107 6 5) 107 7 (I 107 5)) 107 5 = nI s := by rw [zup_n (by omega), zup_n (by omega), zup_n (by omega)]; exact h5
    have e8 : (z_up (z_up (z_up I 107 8 1) 107 6 5) 107 7 (I 107 5)) 107 8 = 1 := by rw [zup_n (by omega), zup_n (by omega), zup_s]
    have e6 : (z_up (z_up (z_up I 107 8 1) 107 6 5) 107 7 (I 107 5)) 107 6 = nI 5 := by rw [zup_n (by omega), zup_s]; rfl
    have e7 : (z_up (z_up (z_up I 107 8 1) 107 6 5) 107 7 (I 107 5)) 107 7 = nI s := by rw [zup_s]; exact h5
    generalize (z_up (z_up (z_up I 107 8 1) 107 6 5) 107 7 (I 107 5)) = I1 at *
    refine s6_wordEnd (mTx_fr hT d rfl) (by omega) e5 (zk_r (vc_X6_readNode_51 ?_))
    have b : zMb 801 5 s (z_up I1 107 5 (nI (zrun t 1 s))) := ⟨by rw [zup_n (by omega)]; exact e8, by rw [zup_n (by omega)]; exact e6, by rw [zup_n (by omega)]; exact e7, zrun t 1 s, zup_s, by omega⟩
    exact s6_name_bad (by rw [b.1]; decide) (zk_r (b58 _ _ _ _ 801 5 s (zif_t q) (zMd_up d (by decide)) b (by decide)))
  -- room
  have go : ¬ zfull v h → zC L xs mX6_wordEnd [.ref 107] (I, R, A, lo, dd) (z_kont [] (fun r τ Ψ => zW L xs mX6_readNode 51 [some (.ref 107), some (.int (zpI h)), some (.int (nI (if f then 1 else 0))), some (.int (nI (vP v - 1))), some (.int (nI (vN v))), none, none, none, none] (r.toList ++ [.ref 107]) τ Ψ) Φ) := by
    intro hf
    have f1 : vN v < 24 := Nat.lt_of_not_le (fun z => hf (Or.inl z))
    have hz0 : ∀ r, zpA t v h f (znx t s) = r → zif (zfull v h) (.inl (5, s)) (zpA t v h f (znx t s)) = r := fun r hr => by rw [zif_f hf]; exact hr
    refine s6_wordEnd hT (by omega) h5 (zk_r (vc_X6_readNode_51 ?_))
    rw [hxs]
    have d1 : zMd I (z_up I 107 5 (nI (ztx t s))) := zMd_up (zMd_rf _) (by decide)
    have e15 : z_up I 107 5 (nI (ztx t s)) 107 5 = nI (ztx t s) := zup_s
    have e18 : z_up I 107 5 (nI (ztx t s)) 107 8 = 0 := by rw [zup_n (by omega)]; exact h8
    generalize z_up I 107 5 (nI (ztx t s)) = I1 at *
    have hn1 : znx t s ≤ t.2 := znx_le hs1
    refine s6_name (mTx_fr hT d1 rfl) hxl e15 e18 (fun I2 nm hn d2 e25 e28 e210 => zk_r (vc_X6_readNode_58 ⟨fun _ => ?_, fun z => absurd e28 z⟩)) (fun I2 c p x hn d2 b2 => zk_r (b58 I2 _ _ _ 801 c p (hz0 _ (by unfold zpA; rw [show zrname t (znx t s) = _ from hn])) (zMd_tr d1 d2) b2 (by decide)))
    replace hn : zrname t (znx t s) = .inr nm := hn
    replace e210 : I2 107 10 = nI (znx t s) := e210
    have d02 := zMd_tr d1 d2
    have hzA : zpA t v h f (znx t s) = zif (zdupN v h (nI nm)) (.inl (3, znx t s)) (zpA2 t v h f (nI nm) (znx t (znx t s))) := by unfold zpA; rw [hn]
    have hok := (zrname_ok hn).1
    refine s6_hasChild (i := 2) (by decide) hv hw (by omega) (zhol24 hw hh) (fun q => zk_r (vc_X6_readNode_77 ⟨fun z => absurd z (by decide), fun _ => ⟨fun _ => ?_, fun z => absurd e28 z⟩⟩)) (fun q => zk_r (vc_X6_readNode_77 ⟨fun _ => ?_, fun z => absurd rfl z⟩))
    · rw [zif_t (show zdupN v h (nI nm) from q)] at hzA
      refine bnb _ _ _ _ 801 3 (znx t s) (hz0 _ hzA) (zMd_7 (zMd_6 (zMd_8 d02 (by decide)) (by decide)) (by decide)) ⟨by rw [zup_n (by omega), zup_n (by omega), zup_s], by rw [zup_n (by omega), zup_s]; rfl, by rw [zup_s]; exact e210, ztx t (znx t s), by rw [zup_n (by omega), zup_n (by omega), zup_n (by omega)]; exact e25, ?_⟩ (by decide)
      have := ztx_le hn1
      omega
    · rw [zif_f (show ¬ zdupN v h (nI nm) from q)] at hzA
      have hx2 := ztx_le hn1
      have hn2 := znx_le hn1
      refine s6_number (mTx_fr hT d02 rfl) hx2 e25 e28 (lw := 0) (hi := 999) (by decide) (by decide) (fun I3 ino hino d3 e35 e38 e39 e310 => zk_r (vc_X6_readNode_97 ⟨fun _ => ?_, fun z => absurd e38 z⟩)) (fun I3 c p x hino d3 b3 => zk_r (b97 I3 _ _ _ _ 801 c p (hz0 _ (by rw [hzA]; unfold zpA2; rw [show zrnum t 0 999 (znx t (znx t s)) = _ from hino])) (zMd_tr d02 d3) b3 (by decide)))
      replace hino : zrnum t 0 999 (znx t (znx t s)) = .inr ino := hino
      replace e39 : I3 107 9 = nI (znx t (znx t s)) := e39
      have d03 := zMd_tr d02 d3
      have hzA2 : zpA2 t v h f (nI nm) (znx t (znx t s)) = zif (zdupI v (nI ino)) (.inl (4, znx t (znx t s))) (zpB t v h f (nI nm) (nI ino) (znx t (znx t (znx t s)))) := by unfold zpA2; rw [hino]
      have hino9 := (zrnum_ok hino).2.1
      have hx3 := ztx_le hn2
      have hn3 := znx_le hn2
      refine s6_inodeIn (i := 2) (by decide) hv hw (by omega) (fun n q1 q2 q3 _ => zk_r (vc_X6_readNode_114 ⟨fun z => ((ze_m1 (by omega)).mp z).elim, fun _ => ⟨fun _ => ?_, fun z => absurd e38 z⟩⟩)) (fun q => zk_r (vc_X6_readNode_114 ⟨fun _ => ?_, fun z => absurd rfl z⟩))
      · rw [zif_t (show zdupI v (nI ino) from ⟨n, q1, q2, q3⟩)] at hzA2
        refine bnum _ _ _ _ _ 801 4 (znx t (znx t s)) (hz0 _ (by rw [hzA, hzA2])) (zMd_7 (zMd_6 (zMd_8 d03 (by decide)) (by decide)) (by decide)) ⟨by rw [zup_n (by omega), zup_n (by omega), zup_s], by rw [zup_n (by omega), zup_s]; rfl, by rw [zup_s]; exact e39, ztx t (znx t (znx t s)), by rw [zup_n (by omega), zup_n (by omega), zup_n (by omega)]; exact e35, by omega⟩ (by decide)
      · rw [zif_f (show ¬ zdupI v (nI ino) from fun ⟨n, q1, q2, q3⟩ => q n q1 ⟨q2, q3⟩)] at hzA2
        have hzB : ∀ r, zpB t v h f (nI nm) (nI ino) (znx t (znx t (znx t s))) = r → zif (zfull v h) (.inl (5, s)) (zpA t v h f (znx t s)) = r := fun r hr => hz0 _ (by rw [hzA, hzA2]; exact hr)
        -- the symbol and what is written
        have end183 : ∀ (I5 : Nat → Nat → Int32) (ct att : Int32) (s5 : Nat), zMd I I5 → I5 107 8 = 0 → I5 107 5 = nI (ztx t s5) → s5 ≤ t.2 → (zpD t v h f (nI nm) (nI ino) ct att s5 = .inr (zadd v h (nI nm) (nI ino) ct att, if f then h else some (vN v), znx t s5)) → (∀ r, zpD t v h f (nI nm) (nI ino) ct att s5 = r → zif (zfull v h) (.inl (5, s)) (zpA t v h f (znx t s)) = r) → zW L xs mX6_readNode 183 [some (.ref 107), some (.int (zpI h)), some (.int (nI (if f then 1 else 0))), some (.int (nI (vP v - 1))), some (.int (nI (vN v))), some (.int (nI nm)), some (.int (nI ino)), some (.int ct), some (.int att)] [] (I5, R, A, lo, dd) Φ := by
          intro I5 ct att s5 d5 e58 e55 hs5 hD hz
          have fin : ∀ x h', h' = (if f then h else some (vN v)) → x = zpI h' → Φ (.inl (some (.int x))) (I5, R, z_up (z_up (z_up (z_up (z_up (z_up (z_up A 108 (159 * 2 + 15 + 6 * vN v + 0) (nI nm)) 108 (159 * 2 + 15 + 6 * vN v + 1) (nI ino)) 108 (159 * 2 + 15 + 6 * vN v + 2) ct) 108 (159 * 2 + 15 + 6 * vN v + 3) att) 108 (159 * 2 + 15 + 6 * vN v + 4) (zpI h)) 108 (159 * 2 + 15 + 6 * vN v + 5) (nI (vP v - 1))) 108 320 (nI (vN v + 1)), lo, dd) 0 := by
            intro x h' hh' hx
            rw [hx]
            subst hh'
            refine h1 I5 _ _ _ _ _ (hz _ hD) d5 (zMa_up (zMa_up (zMa_up (zMa_up (zMa_up (zMa_up (zMa_up (zMa_rf _) (by omega)) (by omega)) (by omega)) (by omega)) (by omega)) (by omega)) (by omega)) e58 e55 (ztx_le hs5) rfl ?_
            refine ⟨?_, ?_, zup_s, fun p hp => ?_, fun p hp => ?_, fun p hp => ?_, fun k hk => ?_, fun k hk => ?_, fun k hk => ?_, fun k hk => ?_, fun k hk => ?_, fun k hk => ?_⟩
            · rw [zup_n (by omega), zup_n (by omega), zup_n (by omega), zup_n (by omega), zup_n (by omega), zup_n (by omega), zup_n (by omega)]; exact m0
            · rw [zup_n (by omega), zup_n (by omega), zup_n (by omega), zup_n (by omega), zup_n (by omega), zup_n (by omega), zup_n (by omega)]; exact m1
            · replace hp : p < vP v := hp
              rw [zup_n (by omega), zup_n (by omega), zup_n (by omega), zup_n (by omega), zup_n (by omega), zup_n (by omega), zup_n (by omega)]; exact p0 p hp
            · replace hp : p < vP v := hp
              rw [zup_n (by omega), zup_n (by omega), zup_n (by omega), zup_n (by omega), zup_n (by omega), zup_n (by omega), zup_n (by omega)]; exact p1 p hp
            · replace hp : p < vP v := hp
              rw [zup_n (by omega), zup_n (by omega), zup_n (by omega), zup_n (by omega), zup_n (by omega), zup_n (by omega), zup_n (by omega)]; exact p2 p hp
            · replace hk : k < vN v + 1 := hk
              show _ = zse (vnd v 0) (vN v) (nI nm) k
              rw [zup_n (by omega), zup_n (by omega), zup_n (by omega), zup_n (by omega), zup_n (by omega), zup_n (by omega)]
              by_cases e : k = vN v
              · rw [e, zup_s, zse_s]
              · rw [zup_n (by omega), zse_n e]; exact n0 k (by omega)
            · replace hk : k < vN v + 1 := hk
              show _ = zse (vnd v 1) (vN v) (nI ino) k
              rw [zup_n (by omega), zup_n (by omega), zup_n (by omega), zup_n (by omega), zup_n (by omega)]
              by_cases e : k = vN v
              · rw [e, zup_s, zse_s]
              · rw [zup_n (by omega), zup_n (by omega), zse_n e]; exact n1 k (by omega)
            · replace hk : k < vN v + 1 := hk
              show _ = zse (vnd v 2) (vN v) ct k
              rw [zup_n (by omega), zup_n (by omega), zup_n (by omega), zup_n (by omega)]
              by_cases e : k = vN v
              · rw [e, zup_s, zse_s]
              · rw [zup_n (by omega), zup_n (by omega), zup_n (by omega), zse_n e]; exact n2 k (by omega)
            · replace hk : k < vN v + 1 := hk
              show _ = zse (vnd v 3) (vN v) att k
              rw [zup_n (by omega), zup_n (by omega), zup_n (by omega)]
              by_cases e : k = vN v
              · rw [e, zup_s, zse_s]
              · rw [zup_n (by omega), zup_n (by omega), zup_n (by omega), zup_n (by omega), zse_n e]; exact n3 k (by omega)
            · replace hk : k < vN v + 1 := hk
              show _ = zpI (zse (vpar v) (vN v) h k)
              rw [zup_n (by omega), zup_n (by omega)]
              by_cases e : k = vN v
              · rw [e, zup_s, zse_s]
              · rw [zup_n (by omega), zup_n (by omega), zup_n (by omega), zup_n (by omega), zup_n (by omega), zse_n e]; exact n4 k (by omega)
            · replace hk : k < vN v + 1 := hk
              show _ = nI (zse (vhom v) (vN v) (vP v - 1) k)
              rw [zup_n (by omega)]
              by_cases e : k = vN v
              · rw [e, zup_s, zse_s]
              · rw [zup_n (by omega), zup_n (by omega), zup_n (by omega), zup_n (by omega), zup_n (by omega), zup_n (by omega), zse_n e]; exact n5 k (by omega)
          have m2' : A 108 320 = nI (vN v) := m2
          refine vc_X6_readNode_183 ⟨fun _ => ?_, fun z => absurd e58 z⟩
          simp (disch := omega) only [ze_lit, pk_mul, nI_add, nI_clamp, ze_inI, nI_ltI, nI_eq, zup_n, m2']
          refine ⟨by omega, by omega, by omega, by omega, by omega, by omega, fun q => ?_, fun q => ?_⟩
          · cases f with
            | true => exact absurd q (by decide)
            | false => exact fin (nI (vN v)) _ rfl rfl
          · cases f with
            | true => exact fin (zpI h) _ rfl rfl
            | false => exact absurd (by simp) q
        have sym : ∀ (I5 : Nat → Nat → Int32) (ct att : Int32) (k5 : Nat), zMd I I5 → I5 107 8 = 0 → I5 107 5 = nI k5 → k5 ≤ t.2 → (∀ r, zpD t v h f (nI nm) (nI ino) ct att (zsk t k5) = r → zif (zfull v h) (.inl (5, s)) (zpA t v h f (znx t s)) = r) → (((nI (if f then 1 else 0)) : Int32) = 0 → zC L xs mX6_symbol [.ref 107, .int 123] (I5, R, A, lo, dd) (z_kont [] (fun r τ Ψ => zW L xs mX6_readNode 183 [some (.ref 107), some (.int (zpI h)), some (.int (nI (if f then 1 else 0))), some (.int (nI (vP v - 1))), some (.int (nI (vN v))), some (.int (nI nm)), some (.int (nI ino)), some (.int ct), some (.int att)] (r.toList ++ []) τ Ψ) Φ)) ∧ (¬ ((nI (if f then 1 else 0)) : Int32) = 0 → zC L xs mX6_symbol [.ref 107, .int 59] (I5, R, A, lo, dd) (z_kont [] (fun r τ Ψ => zW L xs mX6_readNode 183 [some (.ref 107), some (.int (zpI h)), some (.int (nI (if f then 1 else 0))), some (.int (nI (vP v - 1))), some (.int (nI (vN v))), some (.int (nI nm)), some (.int (nI ino)), some (.int ct), some (.int att)] (r.toList ++ []) τ Ψ) Φ)) := by
          intro I5 ct att k5 d5 e58 e55 hk5 hz
          have hsk5 := (zsk_at hk5).1
          have one : ∀ c : Nat, c = (if f then 59 else 123) → zC L xs mX6_symbol [.ref 107, .int (nI c)] (I5, R, A, lo, dd) (z_kont [] (fun r τ Ψ => zW L xs mX6_readNode 183 [some (.ref 107), some (.int (zpI h)), some (.int (nI (if f then 1 else 0))), some (.int (nI (vP v - 1))), some (.int (nI (vN v))), some (.int (nI nm)), some (.int (nI ino)), some (.int ct), some (.int att)] (r.toList ++ []) τ Ψ) Φ) := by
            intro c hc
            have hD : ∀ q : Prop, q = q := fun _ => rfl
            refine s6_symbol (mTx_fr hT d5 rfl) hk5 e55 e58 (c := c) (by rw [hc]; cases f <;> rfl) (fun I6 qs hI6 e65 => zk_r ?_) (fun I6 qs d6 b6 => zk_r ?_)
            · have hd : zpD t v h f (nI nm) (nI ino) ct att (zsk t k5) = .inr (zadd v h (nI nm) (nI ino) ct att, if f then h else some (vN v), znx t (zsk t k5)) := if_pos ⟨qs.1, by rw [← hc]; exact qs.2⟩
              exact end183 I6 ct att (zsk t k5) (zMd_tr d5 (zMd_5 hI6)) (by rw [hI6 107 8 (by omega)]; exact e58) e65 hsk5 hd hz
            · have hd : zpD t v h f (nI nm) (nI ino) ct att (zsk t k5) = .inl (1, zsk t k5) := if_neg (fun z => qs ⟨z.1, by rw [hc]; exact z.2⟩)
              exact b183 I6 _ _ _ _ _ _ 801 1 _ (hz _ hd) (zMd_tr d5 d6) b6 (by decide)
          refine ⟨fun q => ?_, fun q => ?_⟩
          · cases f with
            | true => exact absurd q (by decide)
            | false => exact one 123 rfl
          · cases f with
            | true => exact one 59 rfl
            | false => exact absurd rfl q
        -- attributes
        have attr : ∀ (I4 : Nat → Nat → Int32) (ct : Int32) (k4 : Nat), zMd I I4 → I4 107 8 = 0 → I4 107 5 = nI k4 → k4 ≤ t.2 → (∀ r, zpC t v h f (nI nm) (nI ino) ct (zsk t k4) = r → zif (zfull v h) (.inl (5, s)) (zpA t v h f (znx t s)) = r) → zC L xs mX6_takes [.ref 107, .long 34821] (I4, R, A, lo, dd) (z_kont [] (fun r τ Ψ => zW L xs mX6_readNode 152 [some (.ref 107), some (.int (zpI h)), some (.int (nI (if f then 1 else 0))), some (.int (nI (vP v - 1))), some (.int (nI (vN v))), some (.int (nI nm)), some (.int (nI ino)), some (.int ct), none] (r.toList ++ []) τ Ψ) Φ) := by
          intro I4 ct k4 d4 e48 e45 hk4 hz
          have hsk4 := (zsk_at hk4).1
          refine s6_takes (mTx_fr hT d4 rfl) hk4 e45 e48 (w := 204) (by decide) (fun I5 q hI5 e55 => zk_r (vc_X6_readNode_152 ⟨fun z => absurd z (by decide), fun _ => ?_⟩)) (fun I5 q hI5 e55 => zk_r (vc_X6_readNode_152 ⟨fun _ => ?_, fun z => absurd rfl z⟩))
          · have d5 := zMd_tr d4 (zMd_5 hI5)
            have e58 : I5 107 8 = 0 := by rw [hI5 107 8 (by omega)]; exact e48
            refine s6_number (mTx_fr hT d5 rfl) (ztx_le hsk4) e55 e58 (lw := 0) (hi := 7) (by decide) (by decide) (fun I6 a ha d6 e65 e68 _ _ => zk_r (vc_X6_readNode_162 ?_)) (fun I6 c p x ha d6 b6 => zk_r (vc_X6_readNode_162 ?_))
            · replace ha : zrnum t 0 7 (znx t (zsk t k4)) = .inr a := ha
              exact sym I6 ct (nI a) _ (zMd_tr d5 d6) e68 e65 (ztx_le (znx_le hsk4)) (fun r hr => hz r (by unfold zpC; rw [zif_t q, ha]; exact hr))
            · replace ha : zrnum t 0 7 (znx t (zsk t k4)) = .inl (c, p) := ha
              have hzz := hz (.inl (c, p)) (by unfold zpC; rw [zif_t q, ha])
              exact ⟨fun _ => bsym I6 _ _ _ _ _ _ _ 801 c p hzz (zMd_tr d5 d6) b6 (by decide), fun _ => bsym I6 _ _ _ _ _ _ _ 801 c p hzz (zMd_tr d5 d6) b6 (by decide)⟩
          · have d5 := zMd_tr d4 (zMd_5 hI5)
            have e58 : I5 107 8 = 0 := by rw [hI5 107 8 (by omega)]; exact e48
            exact sym I5 ct 0 _ d5 e58 e55 hsk4 (fun r hr => hz r (by unfold zpC; rw [zif_f q, ← zsk_sk hk4]; exact hr))
        refine ⟨fun q => ?_, fun q => ?_⟩
        · cases f with
          | true => exact absurd q (by decide)
          | false => exact attr I3 (-1) _ d03 e38 e35 hx3 (fun r hr => hzB r (by unfold zpB; rw [if_neg (by decide)]; exact hr))
        · cases f with
          | false => exact absurd rfl q
          | true =>
            refine s6_number (mTx_fr hT d03 rfl) hx3 e35 e38 (lw := 0) (hi := 9999) (by decide) (by decide) (fun I4 ct hct d4 e45 e48 _ _ => zk_r (vc_X6_readNode_139 ?_)) (fun I4 c p x hct d4 b4 => zk_r (vc_X6_readNode_139 ?_))
            · replace hct : zrnum t 0 9999 (znx t (znx t (znx t s))) = .inr ct := hct
              exact attr I4 (nI ct) _ (zMd_tr d03 d4) e48 e45 (ztx_le hn3) (fun r hr => hzB r (by unfold zpB; rw [if_pos rfl, hct]; exact hr))
            · replace hct : zrnum t 0 9999 (znx t (znx t (znx t s))) = .inl (c, p) := hct
              exact btak I4 _ _ _ _ _ 801 c p (hzB _ (by unfold zpB; rw [if_pos rfl, hct])) (zMd_tr d03 d4) b4 (by decide)
  refine zC_en (vc_X6_readNode_0 ?_)
  have e1m : nI (vP v) - nI 1 = nI (vP v - 1) := ze_sub hP1
  simp (disch := omega) only [ze_lit, pk_mul, nI_add, nI_clamp, ze_inI, nI_ltI, nI_eq, m1, m2, e1m]
  refine ⟨by omega, by omega, fun q => ⟨fun _ => full (Or.inl (by omega)), fun z => absurd h8 z⟩, fun q => ?_⟩
  cases h with
  | none => exact ⟨fun _ => go (fun z => by rcases z with z | z; omega; exact absurd (show 5 ≤ 0 from z) (by decide)), fun z => absurd rfl z⟩
  | some d =>
    obtain ⟨a1, a2, a3, a4⟩ := hh.2 d rfl
    have hd5 := hw.2.2.2.2.2.1 d a1
    refine ⟨fun z => ((ze_m1 (by omega)).mp z).elim, fun _ => s6_depthOf (i := 2) (by decide) hv hw a1 (zk_r (vc_X6_readNode_33 ?_))⟩
    simp (disch := omega) only [ze_lit, pk_mul, nI_add, nI_clamp, ze_inI, nI_ltI, nI_eq]
    refine ⟨fun q5 => ⟨fun _ => full (Or.inr (by show 5 ≤ vdep v d; omega)), fun z => absurd h8 z⟩, fun q5 => go (fun z => by
      rcases z with z | z
      · omega
      · have : 5 ≤ vdep v d := z; omega)⟩
end
