/-! the interpreter is sound -/
def z_LK : Prop := ∀ (m pc : Nat) (e : zI), z_at m pc = some e → z_eB m pc e = true ∧ ∀ w ∈ z_need m e, w ∈ z_wl
def z_UI : Prop := ∀ ci, ci < 7 → ∀ w ∈ u_ws (z_C ci) (z_T ci) (z_N ci), w ∈ z_wl
def z_nms : List String := ["java/lang/RuntimeException", "java/lang/Exception"]
def z_XS : Prop := ∀ i, i < 4 → (∀ w ∈ vx_atS RX5 (z_ic i) (z_EX i) z_nms, goodWord w = true → w ∈ z_wl) ∧ (∀ w ∈ vx_atS RX5 (z_ic i) (z_EX i) z_nms, goodWord w = false → w ∈ z_xw) ∧ (∀ w ∈ vx_atS RX5 (z_ic i) (z_EX i) z_nms, vx_ot w = true) ∧ Bundle.fit (z_EX i) = true ∧ (∀ n ∈ z_nms, Bundle.fit n = true)
def z_Cx (D : va_G) (kc : Nat → ClassId) (ad adV : Nat → Nat) (L : Nat) (xs : Nat → Int32) (m : Nat) (p : Program) (R : Room) (s : State) (mi : MethodId) (args : Array Value) (meth : Method) (c : Code) : Prop :=
  p.tables.exec = Jvm.exec ∧ c.code = z_bytes m ∧ c.maxLocals = z_maxL m ∧ s.vm.findClass (z_own m) = some mi.cls ∧ (∀ w ∈ z_wl, w.before args s = true) ∧ meth.locks = false ∧ z_E D kc ad adV L xs s.heap.size s s.heap ∧ z_dep m ≤ R.frames ∧ z_loc m ≤ R.locals ∧ c.exceptionTable.toList = tableOf (z_hh m)
/-- the two members of String: what their walks must give -/
def z_JS (l : Launch) (D : va_G) (kc : Nat → ClassId) (ad adV : Nat → Nat) (L : Nat) (xs : Nat → Int32) : Prop :=
  ∀ {p : Program} {e : Env} {R : Room} {s : State} {mi : MethodId} {args : Array Value} {below : List Frame} {meth : Method} {c : Code} {Q : State → Prop} {m : Nat} {H : Heap} {locs : List Loc} {ls : Array Slot} {cells slots pc : Nat} {r : List Value} {q : Nat}, z_Cx D kc ad adV L xs m p R s mi args meth c → z_own m = RX3 → va_S (z_A ad s.heap.size) s.heap H locs → ls.size = z_maxL m → cells ≤ R.cells → slots ≤ R.slots → (r.map fun v => v.category).sum ≤ 8 → 200 ≤ q → q < 205 →
    (4 ≤ R.frames → 100 ≤ R.locals → decode (z_bytes m) pc = .ok (.invokevirtual 144, 3) → W p l e R s mi args below meth c H locs cells slots Q (F0 mi (pc + 3) ls (.int (Int32.ofNat (z_txt q).length) :: r)) → W p l e R s mi args below meth c H locs cells slots Q (F0 mi pc ls (.ref (ad q) :: r))) ∧
    (7 ≤ R.frames → 180 ≤ R.locals → decode (z_bytes m) pc = .ok (.invokevirtual 150, 3) → ∀ i : Int32, z_in i (z_txt q).length → W p l e R s mi args below meth c H locs cells slots Q (F0 mi (pc + 3) ls (.int ((z_txt q).getD i.toNatClampNeg 0) :: r)) → W p l e R s mi args below meth c H locs cells slots Q (F0 mi pc ls (.int i :: .ref (ad q) :: r)))
theorem z_one12 : ∀ i, z_kind i = 12 → i = 123 := by
  intro i h
  have hi := z_kind_lt h (by omega)
  have : ∀ i, i < 125 → z_kind i = 12 → i = 123 := by decide +kernel
  exact this i hi h
theorem z_one13 : ∀ i, z_kind i = 13 → i = 124 := by
  intro i h
  have hi := z_kind_lt h (by omega)
  have : ∀ i, i < 125 → z_kind i = 13 → i = 124 := by decide +kernel
  exact this i hi h
theorem z_mapsplit (ad : Nat → Nat) (st : List Value) (n : Nat) : st.map (z_tv ad) = ((st.take n).reverse.map (z_tv ad)).reverse ++ (st.drop n).map (z_tv ad) := by
  rw [List.map_reverse, List.reverse_reverse, ← List.map_append, List.take_append_drop]
section ZW
variable {p : Program} {l : Launch} {e : Env} {R : Room} {s : State} {mi : MethodId} {args : Array Value} {below : List Frame} {meth : Method} {c : Code} {Q : State → Prop} {D : va_G} {kc : Nat → ClassId} {ad adV : Nat → Nat} {nL : Nat} {o : Option Value ⊕ Nat} {τ : zSt} {MC MS : Nat} {k : Nat → zL → List Value → zSt → Option zOut} {pc : Nat} {lv : zL} {st : List Value} {σ : zSt} {L : Nat} {xs : Nat → Int32} {m : Nat}
theorem zw_ret (C : z_Cx D kc ad adV L xs m p R s mi args meth c) (hEnd : z_End p l e R s mi args below meth c Q D kc ad m o τ MC MS) {a : Nat × Nat × Nat} {b : Nat} (hst : ∀ rv : Option Value, (b = 0 → rv = none → z_rt m pc rv) ∧ (∀ x, b = 1 → (a.1 = 0 ∨ x = 0 ∨ x = 1) → rv = some (.int x) → z_rt m pc rv) ∧ (∀ x, b = 2 → rv = some (.ref x) → z_rt m pc rv) ∧ (∀ x, b = 3 → rv = some (.double x) → z_rt m pc rv) ∧ (∀ x, b = 4 → rv = some (.long x) → z_rt m pc rv)) : z_Wg p l e R s mi args below meth c Q D kc ad nL o τ MC MS pc lv st σ (z_ret a st σ b) := by
  intro t H locs ls cells slots h hP hS hl hn hc hs
  have fin : ∀ (rv : Option Value), some ((Sum.inl rv : Option Value ⊕ Nat), σ, 0) = some (o, τ, t) → z_rt m pc rv → W p l e R s mi args below meth c H locs cells slots Q (F0 mi pc ls (rv.map (z_tv ad)).toList) := by
    intro rv hh hrt
    cases hh
    have := hEnd.1 rv pc ls H locs rfl hP hS hrt
    rw [← hc, ← hs] at this
    simpa using this
  unfold z_ret at h
  split at h
  · exact fin none h ((hst none).1 rfl rfl)
  · rename_i x
    unfold z_nar at h
    split at h
    · rename_i ha
      exact fin (some (.int x)) h ((hst _).2.1 x rfl (Or.inl ha) rfl)
    · split at h
      · rename_i h01
        exact fin (some (.int x)) h ((hst _).2.1 x rfl (Or.inr h01) rfl)
      · cases h
  · rename_i q
    exact fin (some (.ref q)) h ((hst _).2.2.1 q rfl rfl)
  · rename_i x
    exact fin (some (.double x)) h ((hst _).2.2.2.1 x rfl rfl)
  · rename_i x
    exact fin (some (.long x)) h ((hst _).2.2.2.2 x rfl rfl)
  · cases h
theorem zw_new (C : z_Cx D kc ad adV L xs m p R s mi args meth c) (hsT : l.stackTraces = false) (hXS : z_XS) (hnl : nL = z_maxL m) (hMC : MC ≤ R.cells) (hMS : MS ≤ R.slots) (hEnd : z_End p l e R s mi args below meth c Q D kc ad m o τ MC MS) {a : Nat × Nat × Nat} {v : Value} {sw : List (Int32 × Nat)} {ik : Nat} (hB : z_eB m pc (.new ik, 3, a, v, sw) = true) (hw : ∀ w ∈ z_need m (.new ik, 3, a, v, sw), w ∈ z_wl) (cl : Nat → zL → zSt → Option zOut) : z_Wg p l e R s mi args below meth c Q D kc ad nL o τ MC MS pc lv st σ (z_stp L xs 3 a v sw pc lv st σ k cl (.new ik)) := by
  obtain ⟨hx, hb, hml, hown, hts, hlk, hE, hfr, hlo, htb⟩ := C
  intro t H locs ls cells slots h hP hS hl hn hc hs
  dsimp only [z_stp] at h
  split at h
  · cases h
    unfold z_eB at hB
    simp only [Bool.and_eq_true, decide_eq_true_eq] at hB
    obtain ⟨hd0, hst⟩ := hB
    unfold z_stB at hst
    simp only [Bool.and_eq_true, Bool.or_eq_true, decide_eq_true_eq] at hst
    obtain ⟨-, ⟨⟨⟨⟨⟨⟨⟨h4, hO⟩, hhh⟩, hd6⟩, hl90⟩, hic⟩, hth⟩, hd3⟩, hcode⟩ := hst
    rw [List.any_eq_true] at hth
    obtain ⟨q, hq, hqi⟩ := hth
    have hqi : q.1 = a.2.1 := by simpa using hqi
    obtain ⟨sa, hsa⟩ := hE.2.2.2.2.1 q hq
    rw [hqi] at hsa
    obtain ⟨x1, x2, x3, x4, x5⟩ := hXS a.1 h4
    rw [hO] at hown
    have w1 : (Jvm.Cond.classLink RX5 ik (z_EX a.1)).before args s = true := by
      rw [← hO]
      exact hts _ (hw _ (by simp [z_need]))
    have w2 : (Jvm.Cond.initialized (z_EX a.1)).before args s = true := hts _ (hw _ (by simp [z_need]))
    have hat : ∀ w ∈ vx_atS RX5 a.2.2 (z_EX a.1) z_nms, w.before args s = true := by
      rw [hic]
      intro w hww
      cases hg : goodWord w with
      | true => exact hts _ (x1 w hww hg)
      | false =>
        have hxw := x2 w hww hg
        exact z_facemv (Vm.Alike.refl _) (z_xw_f _ hxw).1 (z_xw_f _ hxw).2 (hE.2.2.2.2.2.2.1 w hxw)
    have hgd : ∀ w ∈ Jvm.Cond.classLink RX5 ik (z_EX a.1) :: Jvm.Cond.initialized (z_EX a.1) :: vx_atS RX5 a.2.2 (z_EX a.1) z_nms, vx_ot w = true := by
      rw [hic]
      intro w hww
      rcases List.mem_cons.mp hww with rfl | hww
      · rfl
      · rcases List.mem_cons.mp hww with rfl | hww
        · rfl
        · exact x3 w hww
    have hdec : ∀ {pc' : Nat} {q : Instr × Nat}, z_dcs m pc' = some q → decode (z_bytes m) pc' = .ok q := fun h => z_dcs_ok h
    obtain ⟨Qc, hQ⟩ := hEnd.2 _ rfl
    rw [hQ]
    have hXX : ∀ t : State, s.vm.Alike t.vm → H.size ≤ t.heap.size → (∀ q : Nat, q < H.size → t.heap[q]? = H[q]?) → z_Xc D kc ad s.heap.size (.inr a.1) τ (z_EX a.1) s t := by
      intro t _ hz hkp
      refine ⟨⟨a.1, h4, rfl, rfl, hP.kept (fun kk q hq => hkp _ ((hP kk q hq).lt))⟩, Nat.le_trans hS.1 hz, fun q h1 h2 => ?_⟩
      rw [hkp q (Nat.lt_of_lt_of_le h1 hS.1)]
      exact hS.2.1 q h1 h2
    have hout : ∀ y, ∀ z ∈ c.exceptionTable.toList, covers z y = false := by
      rw [htb, hhh]
      intro y z hz
      cases hz
    rcases hcode with ⟨⟨c1, c2⟩, c3⟩ | ⟨⟨c1, c2⟩, c3⟩
    · exact vx_throwS hx hb hsT hown x4 x5 w1 w2 hsa hat hgd hE.2.1 hE.2.2.1 hS (by rw [hl.1, hn, hnl, hml]) (hdec hd0) (hdec hd3) (hdec c1) (hdec c2) (hdec c3) (hout _) (by show 2 + 3 < R.frames; omega) (by show 0 + (13 * (2 + 1) + 43) ≤ R.locals; omega) (by omega) (by omega) hlk hXX hS.2.2 (by omega) (by omega)
    · exact vx_throwSW hx hb hsT hown x4 x5 w1 w2 hsa hat hgd hE.2.1 hE.2.2.1 hS (by rw [hl.1, hn, hnl, hml]) (hdec hd0) (hdec hd3) (hdec c1) (hdec c2) (hdec c3) (hout _) (by show 2 + 3 < R.frames; omega) (by show 0 + (13 * (2 + 1) + 43) ≤ R.locals; omega) (by omega) (by omega) hlk hXX hS.2.2 (by omega) (by omega)
  · cases h
/-- what a call of a method of ours wants of its words and room -/
theorem z_callB {c0 n idx u : Nat} (C : z_Cx D kc ad adV L xs m p R s mi args meth c) (hd : z_dep c0 + 1 ≤ z_dep m) (hlo : 8 + (z_maxL c0 + 11) + z_loc c0 ≤ z_loc m) (hp : (parseMethodDescriptor (z_y c0).desc).map (fun d => d.parameters.length) = some n) (h1 : (z_y c0).cls ≠ "java/lang/invoke/MethodHandle") (h2 : (z_y c0).cls ≠ "java/lang/invoke/VarHandle") (hw1 : Jvm.Cond.methodLink (z_own m) idx (z_y c0) ∈ z_wl) (hw2 : Jvm.Cond.initialized (z_y c0).cls ∈ z_wl) (hw3 : z_head c0 ∈ z_wl) :
    ((({ frames := z_dep c0, cells := u, slots := 6 * u, locals := z_loc c0 } : Room).cells = u ∧ ({ frames := z_dep c0, cells := u, slots := 6 * u, locals := z_loc c0 } : Room).slots = 6 * u ∧ z_dep c0 + 1 ≤ R.frames ∧ 8 + (z_maxL c0 + 11) + z_loc c0 ≤ R.locals ∧ (∀ w ∈ z_head c0 :: z_wl, ∀ (a' : Array Value) (U : State), s.WarmedH U.vm → w.before a' U = true)) ∧ z_head c0 ∈ z_head c0 :: z_wl) ∧ (z_head c0).before args s = true ∧ (Jvm.Cond.initialized (z_y c0).cls).before args s = true ∧ ((z_y c0).cls ≠ "java/lang/invoke/MethodHandle" ∧ (z_y c0).cls ≠ "java/lang/invoke/VarHandle") ∧ (∀ sig, parseMethodDescriptor (z_y c0).desc = some sig → n = sig.parameters.length) ∧ (Jvm.Cond.methodLink (z_own m) idx (z_y c0)).before args s = true := by
  obtain ⟨hx, hb, hml, hown, hts, hlk, hE, hfr, hloc, htb⟩ := C
  refine ⟨⟨⟨rfl, rfl, by omega, by omega, ?_⟩, List.mem_cons_self⟩, hts _ hw3, hts _ hw2, ⟨h1, h2⟩, ?_, hts _ hw1⟩
  · intro w hw a' U hW
    rcases List.mem_cons.mp hw with rfl | hw
    · exact word_at hW (z_wl_good _ hw3) (hts _ hw3)
    · exact word_at hW (z_wl_good _ hw) (hts _ hw)
  · intro sig hsig
    rw [hsig] at hp
    exact (Option.some.inj hp).symm
theorem z_clB_spec {c0 n pc : Nat} {sw : List (Int32 × Nat)} (h : z_clB m c0 n sw pc = true) : z_dep c0 + 1 ≤ z_dep m ∧ 8 + (z_maxL c0 + 11) + z_loc c0 ≤ z_loc m ∧ (parseMethodDescriptor (z_y c0).desc).map (fun d => d.parameters.length) = some n ∧ (z_y c0).cls ≠ "java/lang/invoke/MethodHandle" ∧ (z_y c0).cls ≠ "java/lang/invoke/VarHandle" ∧ plainName (z_y c0).cls = true ∧ (sw = [] → z_hh m = []) ∧ (sw ≠ [] → sw.length = (z_hh m).length ∧ z_retT m = some .int ∧ (sw.zip (z_hh m)).all (fun q => z_hcB m q pc) = true) := by
  unfold z_clB at h
  simp only [Bool.and_eq_true, decide_eq_true_eq] at h
  obtain ⟨⟨⟨⟨⟨⟨h1, h2⟩, h3⟩, h4⟩, h5⟩, h6⟩, h7⟩ := h
  refine ⟨h1, h2, h3, h4, h5, h6, ?_, ?_⟩
  · intro e
    subst e
    simpa using h7
  · intro e
    match sw, e, h7 with
    | a :: b, _, h7 =>
      simp only [Bool.and_eq_true, decide_eq_true_eq] at h7
      exact ⟨h7.1.1, h7.1.2, h7.2⟩
theorem zw_invS (C : z_Cx D kc ad adV L xs m p R s mi args meth c) (hnl : nL = z_maxL m) (hMC : MC ≤ R.cells) (hMS : MS ≤ R.slots) (hEnd : z_End p l e R s mi args below meth c Q D kc ad m o τ MC MS) (hk : z_K p l e R s mi args below meth c Q D kc ad nL o τ MC MS k) {a : Nat × Nat × Nat} {v : Value} {sw : List (Int32 × Nat)} {idx : Nat} (ha : a.1 < 1000) (hdec : decode (z_bytes m) pc = .ok (.invokestatic idx, 3)) (hB : z_clB m a.1 a.2.1 sw pc = true) (hw : ∀ w ∈ z_need m (.invokestatic idx, 3, a, v, sw), w ∈ z_wl) (hsw0 : sw = [])
    (cl : Nat → zL → zSt → Option zOut) (hcl : ∀ vals σ1 r σ2 u sz, cl a.1 (z_ent (z_maxL a.1) vals) σ1 = some (r, σ2, u) → (vals.map fun v => v.category).sum ≤ z_maxL a.1 → z_Met l D kc ad adV L xs a.1 sz vals σ1 r σ2 u) : z_Wg p l e R s mi args below meth c Q D kc ad nL o τ MC MS pc lv st σ (z_call 3 a sw pc lv st σ k cl) := by
  intro t H locs ls cells slots h hP hS hl hn hc hs
  have C' := C
  obtain ⟨hx, hb, hml, hown, hts, hlk, hE, hfr, hlo, htb⟩ := C'
  unfold z_call at h
  split at h
  · rename_i hlen
    split at h
    · rename_i h8
      rw [if_neg (by omega)] at h
      split at h
      · rename_i hcat
        obtain ⟨b1, b2, b3, b4, b5, b6, b7, b8⟩ := z_clB_spec hB
        have need : ∀ w ∈ ([.methodLink (z_own m) idx (z_y a.1), .static (z_y a.1), .initialized (z_y a.1).cls, z_head a.1] : List Jvm.Cond), w ∈ z_wl := by
          intro w hww
          apply hw
          unfold z_need
          dsimp only
          rw [if_pos ha]
          exact hww
        refine zw_back (n := a.2.1) hb hx hown hE hlk htb hnl hEnd hk b7 (fun h => absurd hsw0 h) h hS hl hn hc hs (fun r σ2 u hcall hcu hsu => ?_)
        obtain ⟨⟨⟨g1, g2, g3, g4, g5⟩, g6⟩, g7, g8, g9, g10, g11⟩ := z_callB (u := u) (n := a.2.1) (idx := idx) C b1 b2 b3 b4 b5 (need _ (by simp)) (need _ (by simp)) (need _ (by simp))
        have hM := hcl _ _ _ _ _ H.size hcall hcat
        have hst9 : (Jvm.Cond.static (z_y a.1)).before args s = true := hts _ (need _ (by simp))
        have hasl : (((st.take a.2.1).reverse).map (z_tv ad)).length = a.2.1 := by simp; omega
        have hsz : ls.size = z_maxL m := by rw [hl.1, hn, hnl]
        rw [z_mapsplit ad st a.2.1]
        cases hh : z_hh a.1 with
        | nil =>
          have hd0 : z_head a.1 = .code (z_y a.1) (z_bytes a.1) (z_maxL a.1) (z_retT a.1) := by unfold z_head; rw [hh]
          exact vx_runS (As := ((st.take a.2.1).reverse).map (z_tv ad)) (nL := z_maxL m) (Ts := z_wl) (n := a.2.1) (bytes := z_bytes a.1) (maxL := z_maxL a.1) (ret := z_retT a.1) ⟨hx, hb, hml, hown, hts⟩ hM ⟨⟨g1, g2, g3, g4, g5, by rw [hd0]; exact List.mem_cons_self, by rw [← hd0]; exact g7, g8, g9, g10, g11⟩, hst9⟩ (z_preS hE hP hS) rfl hasl hsz rfl (lv_room (z_cats8 (ad := ad) _ h8)) hdec ⟨by omega, by omega⟩
        | cons q r =>
          have hd0 : z_head a.1 = .codeWith (z_y a.1) (z_bytes a.1) (z_maxL a.1) (z_retT a.1) (z_hh a.1) := by unfold z_head; rw [hh]
          exact vx_runSX (hh := z_hh a.1) (As := ((st.take a.2.1).reverse).map (z_tv ad)) (nL := z_maxL m) (Ts := z_wl) (n := a.2.1) (bytes := z_bytes a.1) (maxL := z_maxL a.1) (ret := z_retT a.1) ⟨hx, hb, hml, hown, hts⟩ hM ⟨⟨g1, g2, g3, g4, g5, by rw [hd0]; exact List.mem_cons_self⟩, by rw [← hd0]; exact g7, g8, g9, g10, g11, hst9⟩ (z_preS hE hP hS) rfl hasl hsz rfl (lv_room (z_cats8 (ad := ad) _ h8)) hdec ⟨by omega, by omega⟩
      · cases h
    · cases h
  · cases h
theorem zw_invV (C : z_Cx D kc ad adV L xs m p R s mi args meth c) (hnl : nL = z_maxL m) (hMC : MC ≤ R.cells) (hMS : MS ≤ R.slots) (hEnd : z_End p l e R s mi args below meth c Q D kc ad m o τ MC MS) (hk : z_K p l e R s mi args below meth c Q D kc ad nL o τ MC MS k) {a : Nat × Nat × Nat} {v : Value} {sw : List (Int32 × Nat)} {idx : Nat} (ha : a.1 < 1000) (hpos : 0 < a.2.1) (hci : a.2.2 < 7) (hcls : (z_y a.1).cls = z_C a.2.2) (hh0 : z_hh a.1 = []) (hdec : decode (z_bytes m) pc = .ok (.invokevirtual idx, 3)) (hB : z_clB m a.1 (a.2.1 - 1) sw pc = true) (hw : ∀ w ∈ z_need m (.invokevirtual idx, 3, a, v, sw), w ∈ z_wl)
    (cl : Nat → zL → zSt → Option zOut) (hcl : ∀ vals σ1 r σ2 u sz, cl a.1 (z_ent (z_maxL a.1) vals) σ1 = some (r, σ2, u) → (vals.map fun v => v.category).sum ≤ z_maxL a.1 → z_Met l D kc ad adV L xs a.1 sz vals σ1 r σ2 u) {q : Nat} {tl : List Value} (hrec : (st.take a.2.1).reverse = .ref q :: tl) (hq : z_kind q = a.2.2) : z_Wg p l e R s mi args below meth c Q D kc ad nL o τ MC MS pc lv st σ (z_call 3 a sw pc lv st σ k cl) := by
  intro t H locs ls cells slots h hP hS hl hn hc hs
  have C' := C
  obtain ⟨hx, hb, hml, hown, hts, hlk, hE, hfr, hlo, htb⟩ := C'
  unfold z_call at h
  split at h
  · rename_i hlen
    split at h
    · rename_i h8
      rw [if_neg (by omega)] at h
      split at h
      · rename_i hcat
        obtain ⟨b1, b2, b3, b4, b5, b6, b7, b8⟩ := z_clB_spec hB
        have need : ∀ w ∈ ([.methodLink (z_own m) idx (z_y a.1), .instanceMethod (z_y a.1), .selects (z_y a.1).cls (z_y a.1) (z_y a.1), .initialized (z_y a.1).cls, z_head a.1] ++ (sw.zip (z_hh m)).map (fun q => Jvm.Cond.classLink (z_own m) q.2.2.2.2 (z_EX q.1.1.toNatClampNeg)) : List Jvm.Cond), w ∈ z_wl := by
          intro w hww
          apply hw
          unfold z_need
          dsimp only
          rw [if_pos ha]
          exact hww
        refine zw_back (n := a.2.1) hb hx hown hE hlk htb hnl hEnd hk b7 (fun h => ⟨(b8 h).1, (b8 h).2.1, (b8 h).2.2, fun w hww => hts _ (need _ (List.mem_append_right _ hww))⟩) h hS hl hn hc hs (fun r σ2 u hcall hcu hsu => ?_)
        obtain ⟨⟨⟨g1, g2, g3, g4, g5⟩, g6⟩, g7, g8, g9, g10, g11⟩ := z_callB (u := u) (n := a.2.1 - 1) (idx := idx) C b1 b2 b3 b4 b5 (need _ (by simp)) (need _ (by simp)) (need _ (by simp))
        have hM := hcl _ _ _ _ _ H.size hcall hcat
        have hsl : (Jvm.Cond.selects (z_C a.2.2) (z_y a.1) (z_y a.1)).before args s = true := by
          rw [← hcls]
          exact hts _ (need _ (by simp))
        have hin9 : (Jvm.Cond.instanceMethod (z_y a.1)).before args s = true := hts _ (need _ (by simp))
        have hlen2 : tl.length + 1 = a.2.1 := by
          have := congrArg List.length hrec
          simp at this
          omega
        have hasl : (tl.map (z_tv ad)).length = a.2.1 - 1 := by simp; omega
        have hsz : ls.size = z_maxL m := by rw [hl.1, hn, hnl]
        have hd0 : z_head a.1 = .code (z_y a.1) (z_bytes a.1) (z_maxL a.1) (z_retT a.1) := by unfold z_head; rw [hh0]
        rw [hrec] at hM
        rw [z_mapsplit ad st a.2.1, hrec]
        exact vx_runV (C := z_C a.2.2) (b := ad q) (As := tl.map (z_tv ad)) (nL := z_maxL m) (Ts := z_wl) (n := a.2.1 - 1) (bytes := z_bytes a.1) (maxL := z_maxL a.1) (ret := z_retT a.1) ⟨hx, hb, hml, hown, hts⟩ hM ⟨⟨g1, g2, g3, g4, g5, by rw [hd0]; exact List.mem_cons_self, by rw [← hd0]; exact g7, g8, g9, g10, g11⟩, hin9, hsl⟩ (z_preV hE hP hS hq hci) rfl hasl hsz (by simp [z_tv]) (lv_room (z_cats8 (ad := ad) _ h8)) hdec ⟨by omega, by omega⟩
      · cases h
    · cases h
  · cases h
end ZW
