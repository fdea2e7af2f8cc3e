/-! the class's Script -/
def cSc (f : Nat) (l : List zOp) (I A : Nat → Nat → Int32) : Prop := I f 0 = nI l.length ∧ ∀ k, k < l.length → A (f + 1) k = nI (zat l k).1 ∧ A (f + 2) k = zpI (zat l k).2.1 ∧ A (f + 3) k = zpI (zat l k).2.2
theorem z_fb_54 {f : Nat} (h : z_fb f) : f = 54 ∨ f = 66 := h
theorem cSc_put {f : Nat} {l : List zOp} {k : Nat} {o n : Option Nat} {x y z : Int32} {I A : Nat → Nat → Int32} (h : cSc f l I A) (ex : x = nI k) (ey : y = zpI o) (ez : z = zpI n) : cSc f (l ++ [(k, o, n)]) (z_up I f 0 (nI (l.length + 1))) (z_up (z_up (z_up A (f + 1) l.length x) (f + 2) l.length y) (f + 3) l.length z) := by
  constructor
  · rw [zup_s, List.length_append]
    rfl
  · intro j hj
    rw [List.length_append, show [(k, o, n)].length = 1 from rfl] at hj
    by_cases e : j = l.length
    · rw [e, zat_e]
      refine ⟨?_, ?_, ?_⟩
      · rw [zup_n (by omega), zup_n (by omega), zup_s, ex]
      · rw [zup_n (by omega), zup_s, ey]
      · rw [zup_s, ez]
    · rw [zat_l (by omega)]
      have := h.2 j (by omega)
      refine ⟨?_, ?_, ?_⟩
      · rw [zup_n (by omega), zup_n (by omega), zup_n (by omega)]
        exact this.1
      · rw [zup_n (by omega), zup_n (by omega), zup_n (by omega)]
        exact this.2.1
      · rw [zup_n (by omega), zup_n (by omega), zup_n (by omega)]
        exact this.2.2
theorem cSc_fr {f : Nat} {l : List zOp} {I A I' A' : Nat → Nat → Int32} (h : cSc f l I A) (h0 : I' f = I f) (h1 : A' (f + 1) = A (f + 1)) (h2 : A' (f + 2) = A (f + 2)) (h3 : A' (f + 3) = A (f + 3)) : cSc f l I' A' := by
  unfold cSc
  rw [h0, h1, h2, h3]
  exact h
def zFr (f k : Nat) (I A I' A' : Nat → Nat → Int32) : Prop := (∀ c, c ≠ f → I' c = I c) ∧ (∀ c, c ≠ f + 1 → c ≠ f + 2 → c ≠ f + 3 → c ≠ f + k → A' c = A c)
theorem zFr_rf (f k : Nat) (I A : Nat → Nat → Int32) : zFr f k I A I A := ⟨fun _ _ => rfl, fun _ _ _ _ _ => rfl⟩
theorem zFr_put {f k n : Nat} {x y z w : Int32} {I A I' A' : Nat → Nat → Int32} (h : zFr f k I A I' A') : zFr f k I A (z_up I' f 0 w) (z_up (z_up (z_up A' (f + 1) n x) (f + 2) n y) (f + 3) n z) := by
  refine ⟨fun c hc => ?_, fun c c1 c2 c3 c4 => ?_⟩
  · funext j
    rw [zup_n (fun q => hc q.1)]
    exact congrFun (h.1 c hc) j
  · funext j
    rw [zup_n (fun q => c3 q.1), zup_n (fun q => c2 q.1), zup_n (fun q => c1 q.1)]
    exact congrFun (h.2 c c1 c2 c3 c4) j
theorem zFr_rd {f k n : Nat} {x : Int32} {I A I' A' : Nat → Nat → Int32} (h : zFr f k I A I' A') : zFr f k I A I' (z_up A' (f + k) n x) := by
  refine ⟨h.1, fun c c1 c2 c3 c4 => ?_⟩
  funext j
  rw [zup_n (fun q => c4 q.1)]
  exact congrFun (h.2 c c1 c2 c3 c4) j
theorem zFr_tr {f k : Nat} {I A I' A' I'' A'' : Nat → Nat → Int32} (h : zFr f k I A I' A') (g : zFr f k I' A' I'' A'') : zFr f k I A I'' A'' := ⟨fun c hc => (g.1 c hc).trans (h.1 c hc), fun c c1 c2 c3 c4 => (g.2 c c1 c2 c3 c4).trans (h.2 c c1 c2 c3 c4)⟩
/-- what the script is read off -/
def zEn (b a d : Nat) (v u : zV) (sp : zM) (sn : zMn) (I A : Nat → Nat → Int32) : Prop := cIm b v I A ∧ cIm a u I A ∧ cMp d sp A ∧ cMn d sn A
theorem zEn_fr {b a d f k : Nat} {v u : zV} {sp : zM} {sn : zMn} {I A I' A' : Nat → Nat → Int32} (hb : z_ib b) (ha : z_ib a) (hd : z_db d) (hf : z_fb f) (hk : 1 ≤ k ∧ k ≤ 5) (h : zEn b a d v u sp sn I A) (g : zFr f k I A I' A') : zEn b a d v u sp sn I' A' := by
  have h1 := z_ib_45 hb
  have h2 := z_ib_45 ha
  have h3 := z_db_48 hd
  have h4 := z_fb_54 hf
  obtain ⟨e1, e2, e3, e4⟩ := h
  refine ⟨cIm_fr e1 (g.1 _ (by omega)) (fun j hj => g.2 _ (by omega) (by omega) (by omega) (by omega)), cIm_fr e2 (g.1 _ (by omega)) (fun j hj => g.2 _ (by omega) (by omega) (by omega) (by omega)), cMp_fr e3 (g.2 _ (by omega) (by omega) (by omega) (by omega)) (g.2 _ (by omega) (by omega) (by omega) (by omega)), ?_⟩
  unfold cMn
  rw [g.2 (d + 3) (by omega) (by omega) (by omega) (by omega), g.2 (d + 4) (by omega) (by omega) (by omega) (by omega), g.2 (d + 5) (by omega) (by omega) (by omega) (by omega)]
  exact e4
theorem zfm_le {g : Nat → List zOp} {i n : Nat} (h : i ≤ n) : ((List.range i).flatMap g).length ≤ ((List.range n).flatMap g).length := by
  rw [zlen_fm, zlen_fm]
  induction n with
  | zero => rw [show i = 0 by omega]; exact Nat.le_refl _
  | succ n ih =>
    by_cases e : i = n + 1
    · rw [e]; exact Nat.le_refl _
    · have := ih (by omega)
      show zsum _ i ≤ zsum _ n + (g n).length
      omega
theorem cSc_rd {f k n : Nat} {x : Int32} {l : List zOp} {I A : Nat → Nat → Int32} (h : cSc f l I A) (hk : 4 ≤ k) : cSc f l I (z_up A (f + k) n x) := cSc_fr h rfl (by funext y; rw [zup_n (by omega)]) (by funext y; rw [zup_n (by omega)]) (by funext y; rw [zup_n (by omega)])
section
variable {L : Nat} {xs : Nat → Int32} {I : Nat → Nat → Int32} {R : Nat → Nat → Option Nat} {A : Nat → Nat → Int32} {lo : Int64} {dd : UInt64} {Φ : zPo} {b a d f : Nat} {v u : zV} {sp : zM} {sn : zMn}
theorem s4_removePartitions (hf : z_fb f) (hd : z_db d) (hb : z_ib b) (ha : z_ib a) (hRb : R d 0 = some b) (hE : zEn b a d v u sp sn I A) (hw : vP v ≤ 4) (hw' : vP u ≤ 4) (hm : zmo (vP v) (vP u) sp) (hc : I f 0 = 0) (h : ∀ I' A' : Nat → Nat → Int32, zFr f 1 I A I' A' → cSc f (zs1 v sp) I' A' → Φ (.inl none) (I', R, A', lo, dd) 0) : zC L xs mX4_removePartitions [.ref f, .ref d] (I, R, A, lo, dd) Φ := by
  refine zC_en (vc_X4_removePartitions_0 hf hd ?_)
  have key : ∀ i, i ≤ vP v → ∀ I' A' : Nat → Nat → Int32, zFr f 1 I A I' A' → cSc f ((List.range i).flatMap (zo0 sp.1)) I' A' → zW L xs mX4_removePartitions 2 [some (.ref f), some (.ref d), some (.int (nI i))] [] (I', R, A', lo, dd) Φ := by
    refine ze_up ?_ ?_
    · intro I' A' h1 h2
      obtain ⟨⟨hS, hP, hN, -⟩, e2, e3, e4⟩ := zEn_fr hb ha hd hf (by decide) hE h1
      refine vc_X4_removePartitions_2 hf hd hb hRb ?_
      simp (disch := omega) only [ze_lit, pk_mul, nI_add, nI_clamp, ze_inI, nI_ltI, nI_eq, hP]
      exact ⟨fun q => absurd q (Nat.lt_irrefl _), fun _ => h I' A' h1 h2⟩
    · intro i hi ih I' A' h1 h2
      obtain ⟨⟨hS, hP, hN, -⟩, e2, e3, e4⟩ := zEn_fr hb ha hd hf (by decide) hE h1
      have r1 := e3.1
      have e1 : (zpI (sp.1 i) = -1) ↔ sp.1 i = none := zpI_none (fun k hk => by have := (hm.1 i k hk).2.1; omega)
      have hl : ((List.range i).flatMap (zo0 sp.1)).length ≤ i := by
        rw [zlen_fm]
        have := zsum_le (f := fun i => (zo0 sp.1 i).length) (g := fun _ => 1) (n := i) (fun i _ => by unfold zo0; split <;> simp)
        rw [zsum_const] at this
        omega
      rw [zfm_s] at ih
      have hc' := h2.1
      refine vc_X4_removePartitions_2 hf hd hb hRb ?_
      simp (disch := omega) only [ze_lit, pk_mul, nI_add, nI_clamp, ze_inI, nI_ltI, nI_eq, hP, r1, hc']
      simp only [ze_m1r, e1]
      refine ⟨fun _ => ⟨by omega, fun q => ⟨fun _ => ⟨by omega, by omega, by omega, ih _ _ (zFr_put h1) ?_⟩, fun z => absurd (by omega) z⟩, fun q => ih _ _ h1 (by rw [show zo0 sp.1 i = [] from if_neg q, List.append_nil]; exact h2)⟩, fun q => absurd hi q⟩
      rw [show zo0 sp.1 i = [(0, some i, none)] from if_pos q]
      exact cSc_put h2 rfl rfl rfl
  exact key 0 (Nat.zero_le _) I A (zFr_rf _ _ _ _) ⟨hc, fun k q => absurd q (Nat.not_lt_zero _)⟩
theorem s4_addPartitions (hf : z_fb f) (hd : z_db d) (hb : z_ib b) (ha : z_ib a) (hRa : R d 1 = some a) (hE : zEn b a d v u sp sn I A) (hw : vP u ≤ 4) (hw' : vP v ≤ 4) (hm : zmo (vP v) (vP u) sp) {l : List zOp} (hL : (l ++ (List.range (vP u)).flatMap (zo3 sp.2)).length ≤ 105) (hc : cSc f l I A) (hr : ∀ j, j < vP u → ¬ sp.2 j = none → A (f + 4) j = nI (zl (zq13 j) l)) (h : ∀ I' A' : Nat → Nat → Int32, zFr f 4 I A I' A' → cSc f (l ++ zs3 u sp) I' A' → (∀ j, j < vP u → A' (f + 4) j = nI (zl (zq13 j) (l ++ zs3 u sp))) → Φ (.inl none) (I', R, A', lo, dd) 0) : zC L xs mX4_addPartitions [.ref f, .ref d] (I, R, A, lo, dd) Φ := by
  refine zC_en (vc_X4_addPartitions_0 hf hd ?_)
  have key : ∀ i, i ≤ vP u → ∀ I' A' : Nat → Nat → Int32, zFr f 4 I A I' A' → cSc f (l ++ (List.range i).flatMap (zo3 sp.2)) I' A' → (∀ j, j < vP u → (¬ sp.2 j = none ∨ j < i) → A' (f + 4) j = nI (zl (zq13 j) (l ++ (List.range i).flatMap (zo3 sp.2)))) → zW L xs mX4_addPartitions 2 [some (.ref f), some (.ref d), some (.int (nI i))] [] (I', R, A', lo, dd) Φ := by
    refine ze_up ?_ ?_
    · intro I' A' h1 h2 h3
      obtain ⟨e1, ⟨hS, hP, hN, -⟩, e3, e4⟩ := zEn_fr hb ha hd hf (by decide) hE h1
      refine vc_X4_addPartitions_2 hf hd ha hRa ?_
      simp (disch := omega) only [ze_lit, pk_mul, nI_add, nI_clamp, ze_inI, nI_ltI, nI_eq, hP]
      exact ⟨fun q => absurd q (Nat.lt_irrefl _), fun _ => h I' A' h1 h2 (fun j hj => h3 j hj (Or.inr hj))⟩
    · intro i hi ih I' A' h1 h2 h3
      obtain ⟨e1, ⟨hS, hP, hN, -⟩, e3, e4⟩ := zEn_fr hb ha hd hf (by decide) hE h1
      have r1 := e3.2
      have e1 : (zpI (sp.2 i) = -1) ↔ sp.2 i = none := zpI_none (fun k hk => by have := (hm.2 k i hk).1; omega)
      have hlm := zfm_le (g := zo3 sp.2) (show i + 1 ≤ vP u by omega)
      rw [List.length_append] at hL
      have hc' := h2.1
      have hll : (l ++ (List.range i).flatMap (zo3 sp.2)).length = l.length + ((List.range i).flatMap (zo3 sp.2)).length := List.length_append
      rw [zfm_s] at ih hlm
      rw [List.length_append] at hlm
      rw [← List.append_assoc] at ih
      generalize hdn : l ++ (List.range i).flatMap (zo3 sp.2) = dn at h2 h3 ih hc' hll
      refine vc_X4_addPartitions_2 hf hd ha hRa ?_
      simp (disch := omega) only [ze_lit, pk_mul, nI_add, nI_clamp, ze_inI, nI_ltI, nI_eq, hP, r1, hc']
      simp only [ze_m1r, e1]
      refine ⟨fun _ => ⟨by omega, fun q => ?_, fun q => ih _ _ h1 (by rw [show zo3 sp.2 i = [] from if_neg q, List.append_nil]; exact h2) (fun j hj hz => ?_)⟩, fun q => absurd hi q⟩
      · have hq : zo3 sp.2 i = [(3, none, some i)] := if_pos q
        rw [hq, show [((3, none, some i) : zOp)].length = 1 from rfl] at hlm
        refine ⟨fun _ => ⟨by omega, by omega, by omega, by omega, ih _ _ (zFr_rd (zFr_put h1)) ?_ (fun j hj hz => ?_)⟩, fun z => absurd (by omega) z⟩
        · rw [hq]
          exact cSc_rd (cSc_put h2 rfl rfl rfl) (by decide)
        · rw [hq, zl_snoc]
          by_cases e : j = i
          · rw [e, zup_s, zup_s, if_pos (by simp [zq13])]
          · rw [zup_n (fun z => e z.2), zup_n (by omega), zup_n (by omega), zup_n (by omega), if_neg (by simp [zq13]; omega)]
            exact h3 j hj (by rcases hz with z | z; exact Or.inl z; exact Or.inr (by omega))
      · rw [show zo3 sp.2 i = [] from if_neg q, List.append_nil]
        refine h3 j hj ?_
        rcases hz with z | z
        · exact Or.inl z
        · by_cases e : j = i
          · exact Or.inl (by rw [e]; exact q)
          · exact Or.inr (by omega)
  refine key 0 (Nat.zero_le _) I A (zFr_rf _ _ _ _) ?_ (fun j hj hz => ?_)
  · simpa using hc
  · have := hr j hj (hz.resolve_right (Nat.not_lt_zero _))
    simpa using this
theorem s4_createNodes (hf : z_fb f) (hd : z_db d) (hb : z_ib b) (ha : z_ib a) (hRa : R d 1 = some a) (hE : zEn b a d v u sp sn I A) (hw : vN u ≤ 24) (hw' : vN v ≤ 24) (hm : zmo (vN v) (vN u) sn.1) {l : List zOp} (hL : (l ++ (List.range (vN u)).flatMap (zo4 sn.1.2)).length ≤ 105) (hc : cSc f l I A) (h : ∀ I' A' : Nat → Nat → Int32, zFr f 5 I A I' A' → cSc f (l ++ zs4 u sn.1) I' A' → (∀ j, j < vN u → sn.1.2 j = none → A' (f + 5) j = nI (zl (zq48 j) (l ++ zs4 u sn.1))) → Φ (.inl none) (I', R, A', lo, dd) 0) : zC L xs mX4_createNodes [.ref f, .ref d] (I, R, A, lo, dd) Φ := by
  refine zC_en (vc_X4_createNodes_0 hf hd ?_)
  have key : ∀ i, i ≤ vN u → ∀ I' A' : Nat → Nat → Int32, zFr f 5 I A I' A' → cSc f (l ++ (List.range i).flatMap (zo4 sn.1.2)) I' A' → (∀ j, j < i → sn.1.2 j = none → A' (f + 5) j = nI (zl (zq48 j) (l ++ (List.range i).flatMap (zo4 sn.1.2)))) → zW L xs mX4_createNodes 2 [some (.ref f), some (.ref d), some (.int (nI i))] [] (I', R, A', lo, dd) Φ := by
    refine ze_up ?_ ?_
    · intro I' A' h1 h2 h3
      obtain ⟨e1, ⟨hS, hP, hN, -⟩, e3, e4⟩ := zEn_fr hb ha hd hf (by decide) hE h1
      refine vc_X4_createNodes_2 hf hd ha hRa ?_
      simp (disch := omega) only [ze_lit, pk_mul, nI_add, nI_clamp, ze_inI, nI_ltI, nI_eq, hN]
      exact ⟨fun q => absurd q (Nat.lt_irrefl _), fun _ => h I' A' h1 h2 h3⟩
    · intro i hi ih I' A' h1 h2 h3
      obtain ⟨e1, ⟨hS, hP, hN, -⟩, e3, e4⟩ := zEn_fr hb ha hd hf (by decide) hE h1
      have r1 := e4.2.1
      have e1 : (zpI (sn.1.2 i) = -1) ↔ sn.1.2 i = none := zpI_none (fun k hk => by have := (hm.2 k i hk).1; omega)
      have hlm := zfm_le (g := zo4 sn.1.2) (show i + 1 ≤ vN u by omega)
      rw [List.length_append] at hL
      have hc' := h2.1
      have hll : (l ++ (List.range i).flatMap (zo4 sn.1.2)).length = l.length + ((List.range i).flatMap (zo4 sn.1.2)).length := List.length_append
      rw [zfm_s] at ih hlm
      rw [List.length_append] at hlm
      rw [← List.append_assoc] at ih
      generalize hdn : l ++ (List.range i).flatMap (zo4 sn.1.2) = dn at h2 h3 ih hc' hll
      refine vc_X4_createNodes_2 hf hd ha hRa ?_
      simp (disch := omega) only [ze_lit, pk_mul, nI_add, nI_clamp, ze_inI, nI_ltI, nI_eq, hN, r1, hc']
      simp only [ze_m1r, e1]
      refine ⟨fun _ => ⟨by omega, fun q => ?_, fun q => ih _ _ h1 (by rw [show zo4 sn.1.2 i = [] from if_neg q, List.append_nil]; exact h2) (fun j hj hz => ?_)⟩, fun q => absurd hi q⟩
      · have hq : zo4 sn.1.2 i = [(4, none, some i)] := if_pos q
        rw [hq, show [((4, none, some i) : zOp)].length = 1 from rfl] at hlm
        refine ⟨fun _ => ⟨by omega, by omega, by omega, by omega, ih _ _ (zFr_rd (zFr_put h1)) ?_ (fun j hj hz => ?_)⟩, fun z => absurd (by omega) z⟩
        · rw [hq]
          exact cSc_rd (cSc_put h2 rfl rfl rfl) (by decide)
        · rw [hq, zl_snoc]
          by_cases e : j = i
          · rw [e, zup_s, zup_s, if_pos (by simp [zq48])]
          · rw [zup_n (fun z => e z.2), zup_n (by omega), zup_n (by omega), zup_n (by omega), if_neg (by simp [zq48]; omega)]
            exact h3 j (by omega) hz
      · rw [show zo4 sn.1.2 i = [] from if_neg q, List.append_nil]
        exact h3 j (by have : j ≠ i := fun e => q (by rw [← e]; exact hz); omega) hz
  refine key 0 (Nat.zero_le _) I A (zFr_rf _ _ _ _) ?_ (fun j hj => absurd hj (Nat.not_lt_zero _))
  simpa using hc
theorem s4_deleteNodes (hf : z_fb f) (hd : z_db d) (hb : z_ib b) (ha : z_ib a) (hRb : R d 0 = some b) (hE : zEn b a d v u sp sn I A) (hwf : zwf v) (hwu : zwf u) (hmp : zmo (vP v) (vP u) sp) (hm : zmo (vN v) (vN u) sn.1) {l : List zOp} (hL : (l ++ zs6 v sp sn.1).length ≤ 105) (hc : cSc f l I A) (h : ∀ I' A' : Nat → Nat → Int32, zFr f 1 I A I' A' → cSc f (l ++ zs6 v sp sn.1) I' A' → Φ (.inl none) (I', R, A', lo, dd) 0) : zC L xs mX4_deleteNodes [.ref f, .ref d] (I, R, A, lo, dd) Φ := by
  have hwf' := hwf
  obtain ⟨w1, w2, w3, w4, w5, w6, w7, w8, w9⟩ := hwf'
  have w2u := hwu.2.1
  have w1u := hwu.1
  have hN0 : I b 5 = nI (vN v) := hE.1.2.2.1
  refine zC_en (vc_X4_deleteNodes_0 hf hd hb hRb ?_)
  rw [hN0]
  have key : ∀ i, i ≤ vN v → ∀ x : Int32, x + 1 = nI (vN v - i) → ∀ I' A' : Nat → Nat → Int32, zFr f 1 I A I' A' → cSc f (l ++ zd9 v sp.1 sn.1.1 i) I' A' → zW L xs mX4_deleteNodes 10 [some (.ref f), some (.ref d), some (.int x)] [] (I', R, A', lo, dd) Φ := by
    refine ze_up ?_ ?_
    · intro x hx I' A' h1 h2
      have hx' : x = -1 := by
        have : x + 1 - 1 = nI (vN v - vN v) - 1 := by rw [hx]
        rw [Int32.add_sub_cancel, Nat.sub_self] at this
        rw [this]
        decide
      subst hx'
      exact vc_X4_deleteNodes_10 hf hd hb hRb ⟨fun _ => h I' A' h1 h2, fun z => absurd (by decide) z⟩
    · intro i hi ih x hx I' A' h1 h2
      have hx' : x = nI (vN v - 1 - i) := by
        have : x + 1 - 1 = nI (vN v - i) - nI 1 := by rw [hx]; rfl
        rw [Int32.add_sub_cancel, ze_sub (by omega)] at this
        rw [this, show vN v - i - 1 = vN v - 1 - i by omega]
      subst hx'
      clear hx
      obtain ⟨⟨hS, hP, hN, p0, p1, p2, n0, n1, n2, n3, n4, n5, n6⟩, e2, e3, e4⟩ := zEn_fr hb ha hd hf (by decide) hE h1
      have r1 := e4.1
      have r2 := e3.1
      have hk := w3 (vN v - 1 - i) (by omega)
      have e1 : (zpI (sn.1.1 (vN v - 1 - i)) = -1) ↔ sn.1.1 (vN v - 1 - i) = none := zpI_none (fun k hk => by have := (hm.1 _ k hk).2.1; omega)
      have e2 : (zpI (sp.1 (vhom v (vN v - 1 - i))) = -1) ↔ sp.1 (vhom v (vN v - 1 - i)) = none := zpI_none (fun k hk => by have := (hmp.1 _ k hk).2.1; omega)
      have hlm := zfm_le (g := fun k => zo9 v sp.1 sn.1.1 (vN v - 1 - k)) (show i + 1 ≤ vN v by omega)
      have hz6 : (zs6 v sp sn.1) = (List.range (vN v)).flatMap (fun k => zo9 v sp.1 sn.1.1 (vN v - 1 - k)) := rfl
      rw [List.length_append, hz6] at hL
      have hc' := h2.1
      have hll : (l ++ zd9 v sp.1 sn.1.1 i).length = l.length + ((List.range i).flatMap (fun k => zo9 v sp.1 sn.1.1 (vN v - 1 - k))).length := List.length_append
      have hsn : zd9 v sp.1 sn.1.1 (i + 1) = zd9 v sp.1 sn.1.1 i ++ zo9 v sp.1 sn.1.1 (vN v - 1 - i) := zfm_s _ _
      rw [zfm_s] at hlm
      rw [List.length_append] at hlm
      rw [hsn, ← List.append_assoc] at ih
      generalize hdn : l ++ zd9 v sp.1 sn.1.1 i = dn at h2 ih hc' hll
      have hnx : ∀ I' A' : Nat → Nat → Int32, zFr f 1 I A I' A' → cSc f (dn ++ zo9 v sp.1 sn.1.1 (vN v - 1 - i)) I' A' → zW L xs mX4_deleteNodes 10 [some (.ref f), some (.ref d), some (.int (nI (vN v - 1 - i) + -nI 1))] [] (I', R, A', lo, dd) Φ := by
        refine ih _ ?_
        show nI (vN v - 1 - i) + -1 + 1 = _
        rw [Int32.add_assoc, show ((-1 : Int32) + 1) = 0 from by decide, Int32.add_zero, show vN v - 1 - i = vN v - (i + 1) by omega]
      refine vc_X4_deleteNodes_10 hf hd hb hRb ?_
      simp (disch := omega) only [ze_lit, pk_mul, nI_add, nI_clamp, ze_inI, nI_ltI, nI_eq, r1, r2, hc', n5, ze_lt0]
      refine ⟨fun z => absurd z (by omega), fun _ => ⟨by omega, fun q => ⟨by omega, by omega, fun q2 => hnx _ _ h1 ?_, fun q2 => ⟨fun _ => ⟨by omega, by omega, by omega, hnx _ _ (zFr_put h1) ?_⟩, fun z => absurd ?_ z⟩⟩, fun q => hnx _ _ h1 ?_⟩⟩
      · rw [show zo9 v sp.1 sn.1.1 (vN v - 1 - i) = [] from if_neg (fun z => z.2 (e2.mp q2)), List.append_nil]
        exact h2
      · rw [show zo9 v sp.1 sn.1.1 (vN v - 1 - i) = [(9, some (vN v - 1 - i), none)] from if_pos ⟨e1.mp q, fun z => q2 (e2.mpr z)⟩]
        exact cSc_put h2 rfl rfl rfl
      · rw [show zo9 v sp.1 sn.1.1 (vN v - 1 - i) = [(9, some (vN v - 1 - i), none)] from if_pos ⟨e1.mp q, fun z => q2 (e2.mpr z)⟩, show [((9, some (vN v - 1 - i), none) : zOp)].length = 1 from rfl] at hlm
        omega
      · rw [show zo9 v sp.1 sn.1.1 (vN v - 1 - i) = [] from if_neg (fun z => q (e1.mpr z.1)), List.append_nil]
        exact h2
  refine key 0 (Nat.zero_le _) _ ?_ I A (zFr_rf _ _ _ _) ?_
  · rw [Int32.sub_add_cancel]
    rfl
  · have : l ++ zd9 v sp.1 sn.1.1 0 = l := by simp [zd9]
    rw [this]
    exact hc
end
