/-! the model's script -/
def mSc (l : List zOp) (I A : Nat → Nat → Int32) : Prop := I 107 22 = nI l.length ∧ ∀ k, k < l.length → A 118 (3 * k) = nI (zat l k).1 ∧ A 118 (3 * k + 1) = zpI (zat l k).2.1 ∧ A 118 (3 * k + 2) = zpI (zat l k).2.2
theorem mSc_put {l : List zOp} {k : Nat} {o n : Option Nat} {x y z : Int32} {I A : Nat → Nat → Int32} (h : mSc l I A) (ex : x = nI k) (ey : y = zpI o) (ez : z = zpI n) : mSc (l ++ [(k, o, n)]) (z_up I 107 22 (nI (l.length + 1))) (z_up (z_up (z_up A 118 (3 * l.length) x) 118 (3 * l.length + 1) y) 118 (3 * l.length + 2) z) := by
  constructor
  · rw [zup_s, List.length_append]
    rfl
  · intro j hj
    rw [List.length_append, show [(k, o, n)].length = 1 from rfl] at hj
    by_cases e : j = l.length
    · rw [e, zat_e]
      refine ⟨?_, ?_, ?_⟩
      · rw [zup_n (by omega), zup_n (by omega), zup_s, ex]
      · rw [zup_n (by omega), zup_s, ey]
      · rw [zup_s, ez]
    · rw [zat_l (by omega)]
      have := h.2 j (by omega)
      refine ⟨?_, ?_, ?_⟩
      · rw [zup_n (by omega), zup_n (by omega), zup_n (by omega)]
        exact this.1
      · rw [zup_n (by omega), zup_n (by omega), zup_n (by omega)]
        exact this.2.1
      · rw [zup_n (by omega), zup_n (by omega), zup_n (by omega)]
        exact this.2.2
def zGr (I A I' A' : Nat → Nat → Int32) : Prop := (∀ c j, ¬ (c = 107 ∧ j = 22) → I' c j = I c j) ∧ (∀ c, c ≠ 118 → A' c = A c)
theorem zGr_rf (I A : Nat → Nat → Int32) : zGr I A I A := ⟨fun _ _ _ => rfl, fun _ _ => rfl⟩
theorem zGr_put {a b c : Nat} {x y z w : Int32} {I A I' A' : Nat → Nat → Int32} (h : zGr I A I' A') : zGr I A (z_up I' 107 22 w) (z_up (z_up (z_up A' 118 a x) 118 b y) 118 c z) := by
  refine ⟨fun k j hj => ?_, fun k hk => ?_⟩
  · rw [zup_n hj]
    exact h.1 k j hj
  · funext j
    rw [zup_n (fun q => hk q.1), zup_n (fun q => hk q.1), zup_n (fun q => hk q.1)]
    exact congrFun (h.2 k hk) j
def mEn (ia ib : Nat) (v u : zV) (sp : zM) (sn : zMn) (I A : Nat → Nat → Int32) : Prop := I 107 14 = nI ia ∧ I 107 15 = nI ib ∧ mIm ia v A ∧ mIm ib u A ∧ mMp sp A ∧ mMn sn A
theorem mEn_fr {ia ib : Nat} {v u : zV} {sp : zM} {sn : zMn} {I A I' A' : Nat → Nat → Int32} (h : mEn ia ib v u sp sn I A) (g : zGr I A I' A') : mEn ia ib v u sp sn I' A' := by
  obtain ⟨h1, h2, h3, h4, h5, h6⟩ := h
  refine ⟨by rw [g.1 _ _ (by decide)]; exact h1, by rw [g.1 _ _ (by decide)]; exact h2, mIm_fr h3 (g.2 _ (by decide)), mIm_fr h4 (g.2 _ (by decide)), mMp_fr h5 (g.2 _ (by decide)) (g.2 _ (by decide)), ?_⟩
  unfold mMn
  rw [g.2 115 (by decide), g.2 116 (by decide), g.2 117 (by decide)]
  exact h6
section
variable {L : Nat} {xs : Nat → Int32} {I : Nat → Nat → Int32} {R : Nat → Nat → Option Nat} {A : Nat → Nat → Int32} {lo : Int64} {dd : UInt64} {Φ : zPo} {ia ib : Nat} {v u : zV} {sp : zM} {sn : zMn}
theorem s6_needs (ha : ia ≤ 1) (hb : ib ≤ 1) (hE : mEn ia ib v u sp sn I A) (hwf : zwf v) (hwu : zwf u) (hmp : zmo (vP v) (vP u) sp) (hm : zmo (vN v) (vN u) sn.1) {k i j : Nat} (hk : 5 ≤ k ∧ k ≤ 8) (hi : i < vN v) (hj : j < vN u) (h1 : zneed v u sp.1 sn.1.1 k i j = true → Φ (.inl (some (.int 1))) (I, R, A, lo, dd) 0) (h0 : zneed v u sp.1 sn.1.1 k i j = false → Φ (.inl (some (.int 0))) (I, R, A, lo, dd) 0) : zC L xs mX6_needs [.ref 107, .int (nI i), .int (nI j), .int (nI k)] (I, R, A, lo, dd) Φ := by
  obtain ⟨hIa, hIb, ⟨m0, m1, m2, p0, p1, p2, n0, n1, n2, n3, n4, n5⟩, ⟨m0', m1', m2', p0', p1', p2', n0', n1', n2', n3', n4', n5'⟩, e3, e4⟩ := hE
  have w1 := hwf.1
  have w2 := hwf.2.1
  have u1 := hwu.1
  have u2 := hwu.2.1
  have b1 := hwf.2.2.1 i hi
  have b2 := hwu.2.2.1 j hj
  have r1 := e3.1
  have r2 := e4.1
  have e1 : (zpI (sp.1 (vhom v i)) = nI (vhom u j)) ↔ sp.1 (vhom v i) = some (vhom u j) := zpI_eqn (fun k hk => by have := (hmp.1 _ k hk).2.1; omega) (by omega)
  refine zC_en (vc_X6_needs_0 ?_)
  rw [hIa, hIb]
  have q1 := n4 i hi
  have q2 := n4' j hj
  cases hx : vpar v i with
  | none =>
    rw [hx] at q1
    replace q1 : A 108 (159 * ia + 15 + 6 * i + 4) = -nI 1 := q1
    cases hy : vpar u j with
    | none =>
      rw [hy] at q2
      replace q2 : A 108 (159 * ib + 15 + 6 * j + 4) = -nI 1 := q2
      simp (disch := omega) only [ze_lit, pk_mul, nI_add, nI_clamp, ze_inI, nI_ltI, nI_eq, r1, n0, n0', n1, n1', n2, n2', n3, n3', n5, n5', e1, q1, q2, eq_self]
      clear n0 n0' n1 n1' n2 n2' n3 n3' n4 n4' n5 n5' m0 m1 m2 m0' m1' m2' p0 p1 p2 p0' p1' p2' e3 r1 r2 e1 hm hmp q1 q2 e4 hwf hwu hIa hIb
      obtain rfl | rfl | rfl | rfl : k = 5 ∨ k = 6 ∨ k = 7 ∨ k = 8 := by omega
      all_goals repeat' (first | refine And.intro ?_ ?_ | intro _)
      all_goals first
        | omega
        | contradiction
        | exact absurd trivial (by assumption)
        | (exact h1 (by simp [zneed, zpg, *]))
        | (exact h0 (by simp [zneed, zpg, *]))
    | some y =>
      rw [hy] at q2
      replace q2 : A 108 (159 * ib + 15 + 6 * j + 4) = nI y := q2
      have hyl := zpar_lt hwu hj hy
      simp (disch := omega) only [ze_lit, pk_mul, nI_add, nI_clamp, ze_inI, nI_ltI, nI_eq, r1, n0, n0', n1, n1', n2, n2', n3, n3', n5, n5', e1, q1, q2, eq_self, ze_m1n]
      have e5 : ¬ (-nI 1 = nI y) := fun z => (ze_m1' (by omega)).mp z
      clear n0 n0' n1 n1' n2 n2' n3 n3' n4 n4' n5 n5' m0 m1 m2 m0' m1' m2' p0 p1 p2 p0' p1' p2' e3 r1 r2 e1 hm hmp q1 q2 e4 hwf hwu hIa hIb
      obtain rfl | rfl | rfl | rfl : k = 5 ∨ k = 6 ∨ k = 7 ∨ k = 8 := by omega
      all_goals repeat' (first | refine And.intro ?_ ?_ | intro _)
      all_goals first
        | omega
        | contradiction
        | exact absurd trivial (by assumption)
        | (exact h1 (by simp [zneed, zpg, *]))
        | (exact h0 (by simp [zneed, zpg, *]))
  | some x =>
    rw [hx] at q1
    replace q1 : A 108 (159 * ia + 15 + 6 * i + 4) = nI x := q1
    have hxl := zpar_lt hwf hi hx
    have r2x := r2 x (by omega)
    cases hy : vpar u j with
    | none =>
      rw [hy] at q2
      replace q2 : A 108 (159 * ib + 15 + 6 * j + 4) = -nI 1 := q2
      simp (disch := omega) only [ze_lit, pk_mul, nI_add, nI_clamp, ze_inI, nI_ltI, nI_eq, r1, n0, n0', n1, n1', n2, n2', n3, n3', n5, n5', e1, q1, q2, eq_self, ze_m1n]
      clear n0 n0' n1 n1' n2 n2' n3 n3' n4 n4' n5 n5' m0 m1 m2 m0' m1' m2' p0 p1 p2 p0' p1' p2' e3 r1 r2 e1 hm hmp q1 q2 e4 hwf hwu hIa hIb
      obtain rfl | rfl | rfl | rfl : k = 5 ∨ k = 6 ∨ k = 7 ∨ k = 8 := by omega
      all_goals repeat' (first | refine And.intro ?_ ?_ | intro _)
      all_goals first
        | omega
        | contradiction
        | exact absurd trivial (by assumption)
        | (exact h1 (by simp [zneed, zpg, *]))
        | (exact h0 (by simp [zneed, zpg, *]))
    | some y =>
      rw [hy] at q2
      replace q2 : A 108 (159 * ib + 15 + 6 * j + 4) = nI y := q2
      have hyl := zpar_lt hwu hj hy
      have e5 : (zpI (sn.1.1 x) = nI y) ↔ sn.1.1 x = some y := zpI_eqn (fun k hk => by have := (hm.1 _ k hk).2.1; omega) (by omega)
      simp (disch := omega) only [ze_lit, pk_mul, nI_add, nI_clamp, ze_inI, nI_ltI, nI_eq, r1, n0, n0', n1, n1', n2, n2', n3, n3', n5, n5', e1, q1, q2, eq_self, ze_m1n, r2x, e5]
      clear n0 n0' n1 n1' n2 n2' n3 n3' n4 n4' n5 n5' m0 m1 m2 m0' m1' m2' p0 p1 p2 p0' p1' p2' e3 r1 r2 e1 hm hmp q1 q2 e4 hwf hwu r2x e5 hIa hIb
      obtain rfl | rfl | rfl | rfl : k = 5 ∨ k = 6 ∨ k = 7 ∨ k = 8 := by omega
      all_goals repeat' (first | refine And.intro ?_ ?_ | intro _)
      all_goals first
        | omega
        | contradiction
        | exact absurd trivial (by assumption)
        | (exact h1 (by simp [zneed, zpg, *]))
        | (exact h0 (by simp [zneed, zpg, *]))
theorem s6_scriptsParts (ha : ia ≤ 1) (hb : ib ≤ 1) (hE : mEn ia ib v u sp sn I A) (hwf : zwf v) (hwu : zwf u) (hmp : zmo (vP v) (vP u) sp) (hL : (zs1 v sp).length + (zs2 v u sp).length + (zs3 u sp).length ≤ 105) (hc : I 107 22 = 0) (h : ∀ I' A' : Nat → Nat → Int32, zGr I A I' A' → mSc (zs1 v sp ++ zs2 v u sp ++ zs3 u sp) I' A' → Φ (.inl none) (I', R, A', lo, dd) 0) : zC L xs mX6_scriptsParts [.ref 107] (I, R, A, lo, dd) Φ := by
  have w1 := hwf.1
  have u1 := hwu.1
  refine zC_en (vc_X6_scriptsParts_0 ?_)
  -- third loop
  have key3 : ∀ i, i ≤ vP u → ∀ zx, ∀ I' A' : Nat → Nat → Int32, zGr I A I' A' → mSc (zs1 v sp ++ zs2 v u sp ++ (List.range i).flatMap (zo3 sp.2)) I' A' → zW L xs mX6_scriptsParts 169 [some (.ref 107), some (.int (nI i)), zx] [] (I', R, A', lo, dd) Φ := by
    refine ze_up ?_ ?_
    · intro zx I' A' h1 h2
      obtain ⟨hIa, hIb, e1, ⟨m0, m1, m2, -⟩, e3, e4⟩ := mEn_fr hE h1
      refine vc_X6_scriptsParts_169 ?_
      rw [hIb]
      simp (disch := omega) only [ze_lit, pk_mul, nI_add, nI_clamp, ze_inI, nI_ltI, nI_eq, m1]
      exact ⟨by omega, fun q => absurd q (Nat.lt_irrefl _), fun _ => h I' A' h1 h2⟩
    · intro i hi ih zx I' A' h1 h2
      obtain ⟨hIa, hIb, e1, ⟨m0, m1, m2, -⟩, e3, e4⟩ := mEn_fr hE h1
      have r1 := e3.2
      have e1 : (zpI (sp.2 i) = -1) ↔ sp.2 i = none := zpI_none (fun k hk => by have := (hmp.2 k i hk).1; omega)
      have hlm := zfm_le (g := zo3 sp.2) (show i + 1 ≤ vP u by omega)
      rw [show (List.range (vP u)).flatMap (zo3 sp.2) = zs3 u sp from rfl] at hlm
      have hc' := h2.1
      have hll : (zs1 v sp ++ zs2 v u sp ++ (List.range i).flatMap (zo3 sp.2)).length = (zs1 v sp).length + (zs2 v u sp).length + ((List.range i).flatMap (zo3 sp.2)).length := by simp only [List.length_append]
      rw [zfm_s] at ih hlm
      rw [List.length_append] at hlm
      rw [← List.append_assoc] at ih
      generalize hdn : zs1 v sp ++ zs2 v u sp ++ (List.range i).flatMap (zo3 sp.2) = dn at h2 ih hc' hll
      refine vc_X6_scriptsParts_169 ?_
      rw [hIb]
      simp (disch := omega) only [ze_lit, pk_mul, nI_add, nI_clamp, ze_inI, nI_ltI, nI_eq, m1, r1, hc']
      simp only [ze_m1r, e1]
      refine ⟨by omega, fun _ => ⟨by omega, fun q => ?_, fun q => ih _ _ _ h1 (by rw [show zo3 sp.2 i = [] from if_neg q, List.append_nil]; exact h2)⟩, fun q => absurd hi q⟩
      have hq : zo3 sp.2 i = [(3, none, some i)] := if_pos q
      rw [hq, show [((3, none, some i) : zOp)].length = 1 from rfl] at hlm
      rw [hq] at ih
      exact ⟨by omega, by omega, by omega, ih _ _ _ (zGr_put h1) (mSc_put h2 rfl rfl rfl)⟩
  have key2 : ∀ i, i ≤ vP v → ∀ zx, ∀ I' A' : Nat → Nat → Int32, zGr I A I' A' → mSc (zs1 v sp ++ (List.range i).flatMap (zo12 v u sp.1)) I' A' → zW L xs mX6_scriptsParts 44 [some (.ref 107), some (.int (nI i)), zx] [] (I', R, A', lo, dd) Φ := by
    refine ze_up ?_ ?_
    · intro zx I' A' h1 h2
      obtain ⟨hIa, hIb, ⟨m0, m1, m2, -⟩, e1, e3, e4⟩ := mEn_fr hE h1
      refine vc_X6_scriptsParts_44 ?_
      rw [hIa, hIb]
      simp (disch := omega) only [ze_lit, pk_mul, nI_add, nI_clamp, ze_inI, nI_ltI, nI_eq, m1]
      exact ⟨by omega, fun q => absurd q (Nat.lt_irrefl _), fun _ => key3 0 (Nat.zero_le _) _ I' A' h1 (by simpa [zs2] using h2)⟩
    · intro i hi ih zx I' A' h1 h2
      obtain ⟨hIa, hIb, ⟨m0, m1, m2, p0, p1, p2, -⟩, ⟨m0', m1', m2', p0', p1', p2', -⟩, e3, e4⟩ := mEn_fr hE h1
      have r1 := e3.1 i (by omega)
      have hlm := zfm_le (g := zo12 v u sp.1) (show i + 1 ≤ vP v by omega)
      rw [show (List.range (vP v)).flatMap (zo12 v u sp.1) = zs2 v u sp from rfl] at hlm
      have hc' := h2.1
      have hll : (zs1 v sp ++ (List.range i).flatMap (zo12 v u sp.1)).length = (zs1 v sp).length + ((List.range i).flatMap (zo12 v u sp.1)).length := List.length_append
      rw [zfm_s] at ih hlm
      rw [List.length_append] at hlm
      rw [← List.append_assoc] at ih
      generalize hdn : zs1 v sp ++ (List.range i).flatMap (zo12 v u sp.1) = dn at h2 ih hc' hll
      refine vc_X6_scriptsParts_44 ?_
      rw [hIa, hIb]
      cases hj : sp.1 i with
      | none =>
        rw [hj] at r1
        replace r1 : A' 113 i = -nI 1 := r1
        have hz : zo12 v u sp.1 i = [] := by simp [zo12, hj]
        rw [hz, List.append_nil] at ih
        simp (disch := omega) only [ze_lit, pk_mul, nI_add, nI_clamp, ze_inI, nI_ltI, nI_eq, m1, r1]
        exact ⟨by omega, fun _ => ⟨by omega, fun _ => ih _ _ _ h1 h2, fun z => absurd trivial z⟩, fun q => absurd hi q⟩
      | some j =>
        rw [hj] at r1
        replace r1 : A' 113 i = nI j := r1
        have hjl := (hmp.1 i j hj).2.1
        have hz : zo12 v u sp.1 i = (if vpt v 0 i = vpt u 0 j then [] else [(1, some i, some j)]) ++ (if vpt v 1 i = vpt u 1 j ∧ vpt v 2 i = vpt u 2 j then [] else [(2, some i, some j)]) := by simp [zo12, hj]
        have l0 : vpt v 0 i = vpt u 0 j → vpt v 1 i = vpt u 1 j ∧ vpt v 2 i = vpt u 2 j → zW L xs mX6_scriptsParts 44 [some (.ref 107), some (.int (nI (i + 1))), some (.int (nI j))] [] (I', R, A', lo, dd) Φ := by
          intro z1 z2
          rw [if_pos z1, if_pos z2] at hz
          refine ih _ _ _ h1 (by rw [hz]; simpa using h2)
        have l1 : ¬ vpt v 0 i = vpt u 0 j → vpt v 1 i = vpt u 1 j ∧ vpt v 2 i = vpt u 2 j → zW L xs mX6_scriptsParts 44 [some (.ref 107), some (.int (nI (i + 1))), some (.int (nI j))] [] (z_up I' 107 22 (nI (dn.length + 1)), R, z_up (z_up (z_up A' 118 (3 * dn.length) (nI 1)) 118 (3 * dn.length + 1) (nI i)) 118 (3 * dn.length + 2) (nI j), lo, dd) Φ := by
          intro z1 z2
          rw [if_neg z1, if_pos z2, List.append_nil] at hz
          refine ih _ _ _ (zGr_put h1) (by rw [hz]; exact mSc_put h2 rfl rfl rfl)
        have l2 : vpt v 0 i = vpt u 0 j → ¬ (vpt v 1 i = vpt u 1 j ∧ vpt v 2 i = vpt u 2 j) → zW L xs mX6_scriptsParts 44 [some (.ref 107), some (.int (nI (i + 1))), some (.int (nI j))] [] (z_up I' 107 22 (nI (dn.length + 1)), R, z_up (z_up (z_up A' 118 (3 * dn.length) (nI 2)) 118 (3 * dn.length + 1) (nI i)) 118 (3 * dn.length + 2) (nI j), lo, dd) Φ := by
          intro z1 z2
          rw [if_pos z1, if_neg z2, List.nil_append] at hz
          refine ih _ _ _ (zGr_put h1) (by rw [hz]; exact mSc_put h2 rfl rfl rfl)
        have l3 : ¬ vpt v 0 i = vpt u 0 j → ¬ (vpt v 1 i = vpt u 1 j ∧ vpt v 2 i = vpt u 2 j) → zW L xs mX6_scriptsParts 44 [some (.ref 107), some (.int (nI (i + 1))), some (.int (nI j))] [] (z_up (z_up I' 107 22 (nI (dn.length + 1))) 107 22 (nI (dn.length + 1 + 1)), R, z_up (z_up (z_up (z_up (z_up (z_up A' 118 (3 * dn.length) (nI 1)) 118 (3 * dn.length + 1) (nI i)) 118 (3 * dn.length + 2) (nI j)) 118 (3 * (dn.length + 1)) (nI 2)) 118 (3 * (dn.length + 1) + 1) (nI i)) 118 (3 * (dn.length + 1) + 2) (nI j), lo, dd) Φ := by
          intro z1 z2
          rw [if_neg z1, if_neg z2] at hz
          have hp1 := mSc_put (k := 1) (o := some i) (n := some j) h2 rfl rfl rfl
          have hp2 := mSc_put (k := 2) (o := some i) (n := some j) hp1 rfl rfl rfl
          rw [List.length_append, show [((1, some i, some j) : zOp)].length = 1 from rfl] at hp2
          refine ih _ _ _ (zGr_put (zGr_put h1)) (by rw [hz, ← List.append_assoc]; exact hp2)
        have hlen1 : ¬ vpt v 0 i = vpt u 0 j → dn.length + 1 ≤ 105 := by
          intro z1
          rw [hz, if_neg z1, List.length_append] at hlm
          simp only [List.length_singleton] at hlm
          omega
        have hlen2 : ¬ (vpt v 1 i = vpt u 1 j ∧ vpt v 2 i = vpt u 2 j) → dn.length + 1 ≤ 105 := by
          intro z1
          rw [hz, if_neg z1, List.length_append] at hlm
          simp only [List.length_singleton] at hlm
          omega
        have hlen0 : dn.length ≤ 105 := by omega
        by_cases e0 : vpt v 0 i = vpt u 0 j
        · by_cases e1 : vpt v 1 i = vpt u 1 j
          · by_cases e2 : vpt v 2 i = vpt u 2 j
            · have l := l0 e0 ⟨e1, e2⟩
              clear l0 l1 l2 l3
              simp (disch := omega) only [ze_lit, pk_mul, nI_add, nI_clamp, ze_inI, nI_ltI, nI_eq, m1, r1, hc', hIa, hIb, zup_s, zup_n, ze_m1n, p0, p1, p2, p0', p1', p2']
              repeat' (first | refine And.intro ?_ ?_ | intro _)
              all_goals first
                | omega
                | contradiction
                | exact l
                | exact absurd trivial (by assumption)
            · have l := l2 e0 (fun z => e2 z.2)
              have hl := hlen2 (fun z => e2 z.2)
              clear l0 l1 l2 l3
              simp (disch := omega) only [ze_lit, pk_mul, nI_add, nI_clamp, ze_inI, nI_ltI, nI_eq, m1, r1, hc', hIa, hIb, zup_s, zup_n, ze_m1n, p0, p1, p2, p0', p1', p2']
              repeat' (first | refine And.intro ?_ ?_ | intro _)
              all_goals first
                | omega
                | contradiction
                | exact l
                | exact absurd trivial (by assumption)
          · have l := l2 e0 (fun z => e1 z.1)
            have hl := hlen2 (fun z => e1 z.1)
            clear l0 l1 l2 l3
            simp (disch := omega) only [ze_lit, pk_mul, nI_add, nI_clamp, ze_inI, nI_ltI, nI_eq, m1, r1, hc', hIa, hIb, zup_s, zup_n, ze_m1n, p0, p1, p2, p0', p1', p2']
            repeat' (first | refine And.intro ?_ ?_ | intro _)
            all_goals first
              | omega
              | contradiction
              | exact l
              | exact absurd trivial (by assumption)
        · have hl1 := hlen1 e0
          by_cases e1 : vpt v 1 i = vpt u 1 j
          · by_cases e2 : vpt v 2 i = vpt u 2 j
            · have l := l1 e0 ⟨e1, e2⟩
              clear l0 l1 l2 l3
              simp (disch := omega) only [ze_lit, pk_mul, nI_add, nI_clamp, ze_inI, nI_ltI, nI_eq, m1, r1, hc', hIa, hIb, zup_s, zup_n, ze_m1n, p0, p1, p2, p0', p1', p2']
              repeat' (first | refine And.intro ?_ ?_ | intro _)
              all_goals first
                | omega
                | contradiction
                | exact l
                | exact absurd trivial (by assumption)
            · have l := l3 e0 (fun z => e2 z.2)
              clear l0 l1 l2 l3
              simp (disch := omega) only [ze_lit, pk_mul, nI_add, nI_clamp, ze_inI, nI_ltI, nI_eq, m1, r1, hc', hIa, hIb, zup_s, zup_n, ze_m1n, p0, p1, p2, p0', p1', p2']
              repeat' (first | refine And.intro ?_ ?_ | intro _)
              all_goals first
                | omega
                | contradiction
                | exact l
                | exact absurd trivial (by assumption)
          · have l := l3 e0 (fun z => e1 z.1)
            clear l0 l1 l2 l3
            simp (disch := omega) only [ze_lit, pk_mul, nI_add, nI_clamp, ze_inI, nI_ltI, nI_eq, m1, r1, hc', hIa, hIb, zup_s, zup_n, ze_m1n, p0, p1, p2, p0', p1', p2']
            repeat' (first | refine And.intro ?_ ?_ | intro _)
            all_goals first
              | omega
              | contradiction
              | exact l
              | exact absurd trivial (by assumption)
  have key1 : ∀ i, i ≤ vP v → ∀ zx, ∀ I' A' : Nat → Nat → Int32, zGr I A I' A' → mSc ((List.range i).flatMap (zo0 sp.1)) I' A' → zW L xs mX6_scriptsParts 2 [some (.ref 107), some (.int (nI i)), zx] [] (I', R, A', lo, dd) Φ := by
    refine ze_up ?_ ?_
    · intro zx I' A' h1 h2
      obtain ⟨hIa, hIb, ⟨m0, m1, m2, -⟩, e1, e3, e4⟩ := mEn_fr hE h1
      refine vc_X6_scriptsParts_2 ?_
      rw [hIa]
      simp (disch := omega) only [ze_lit, pk_mul, nI_add, nI_clamp, ze_inI, nI_ltI, nI_eq, m1]
      exact ⟨by omega, fun q => absurd q (Nat.lt_irrefl _), fun _ => key2 0 (Nat.zero_le _) _ I' A' h1 (by simpa [zs1] using h2)⟩
    · intro i hi ih zx I' A' h1 h2
      obtain ⟨hIa, hIb, ⟨m0, m1, m2, -⟩, e1, e3, e4⟩ := mEn_fr hE h1
      have r1 := e3.1
      have e1 : (zpI (sp.1 i) = -1) ↔ sp.1 i = none := zpI_none (fun k hk => by have := (hmp.1 i k hk).2.1; omega)
      have hlm := zfm_le (g := zo0 sp.1) (show i + 1 ≤ vP v by omega)
      rw [show (List.range (vP v)).flatMap (zo0 sp.1) = zs1 v sp from rfl] at hlm
      have hc' := h2.1
      rw [zfm_s] at ih hlm
      rw [List.length_append] at hlm
      generalize hdn : (List.range i).flatMap (zo0 sp.1) = dn at h2 ih hc' hlm
      refine vc_X6_scriptsParts_2 ?_
      rw [hIa]
      simp (disch := omega) only [ze_lit, pk_mul, nI_add, nI_clamp, ze_inI, nI_ltI, nI_eq, m1, r1, hc']
      simp only [ze_m1r, e1]
      refine ⟨by omega, fun _ => ⟨by omega, fun q => ?_, fun q => ih _ _ _ h1 (by rw [show zo0 sp.1 i = [] from if_neg q, List.append_nil]; exact h2)⟩, fun q => absurd hi q⟩
      have hq : zo0 sp.1 i = [(0, some i, none)] := if_pos q
      rw [hq, show [((0, some i, none) : zOp)].length = 1 from rfl] at hlm
      rw [hq] at ih
      exact ⟨by omega, by omega, by omega, ih _ _ _ (zGr_put h1) (mSc_put h2 rfl rfl rfl)⟩
  exact key1 0 (Nat.zero_le _) none I A (zGr_rf _ _) ⟨hc, fun k q => absurd q (Nat.not_lt_zero _)⟩
end
