/-! the environment, contracts, calls, throws, returns -/
def z_lens : List Nat := [4, 9, 4, 3, 4]
def z_byts : List (List Int32) := [z_txt 200, z_txt 201, z_txt 202, z_txt 203, z_txt 204]
def z_xw : List Jvm.Cond := [.castable (z_EX 0) (z_EX 0), .castable (z_EX 1) (z_EX 1), .castable (z_EX 2) (z_EX 2), .castable (z_EX 3) (z_EX 3), .declares (Bundle.initS "java/lang/RuntimeException"), .declares (Bundle.initS "java/lang/Exception"), .declares (Bundle.initS Bundle.tN)]
theorem z_xw_f : ∀ w ∈ z_xw, w.faceAtom = true ∧ w.onTables = true := by
  intro w hw
  simp only [z_xw, List.mem_cons, List.not_mem_nil, or_false] at hw
  rcases hw with rfl | rfl | rfl | rfl | rfl | rfl | rfl <;> exact ⟨rfl, rfl⟩
theorem z_xw_c : ∀ i, i < 4 → Jvm.Cond.castable (z_EX i) (z_EX i) ∈ z_xw
  | 0, _ => List.mem_of_getElem? (i := 0) rfl
  | 1, _ => List.mem_of_getElem? (i := 1) rfl
  | 2, _ => List.mem_of_getElem? (i := 2) rfl
  | 3, _ => List.mem_of_getElem? (i := 3) rfl
  | n + 4, h => absurd h (by omega)
def z_E (D : va_G) (kc : Nat → ClassId) (ad adV : Nat → Nat) (L : Nat) (xs : Nat → Int32) (sz : Nat) (U : State) (H : Heap) : Prop :=
  va_K D vwCl (z_tys kc) U ∧ vx_Zq Bundle.tN "UNASSIGNED_STACK" Bundle.steD (z_A ad sz) U H ∧ vx_Zq Bundle.tN "SUPPRESSED_SENTINEL" Bundle.listD (z_A ad sz) U H ∧
  (va_X (ad 300) L xs U H ∧ ad 300 < H.size ∧ ¬ z_A ad sz (ad 300)) ∧ (∀ q ∈ z_thr, ∃ sa, vk_R RX5 q.1 q.2 sa U) ∧ (∀ i, i < 5 → vk_R RX3 (z_six i) (z_stx i) (ad (200 + i)) U) ∧
  (∀ w ∈ z_xw, w.before #[] U = true) ∧ (∀ i j, i < 4 → j < 4 → i ≠ j → va_Nc (z_EX i) (z_EX j) U) ∧ vk_S 5 z_lens z_byts (fun i => ad (200 + i)) adV (z_A ad sz) U H ∧ va_Z "java/lang/String" "COMPACT_STRINGS" "Z" (.int 1) (z_A ad sz) U H ∧ va_Zq "jdk/internal/util/Preconditions" "SIOOBE_FORMATTER" "Ljava/util/function/BiFunction;" (z_A ad sz) U H
theorem z_facemv {w : Jvm.Cond} {u U : State} {a b : Array Value} (hvm : u.vm.Alike U.vm) (hf : w.faceAtom = true) (ho : w.onTables = true) (h : w.before a u = true) : w.before b U = true := va_tabs (u := u.setVm U.vm) ho rfl (A := a) (Jvm.Cond.faceAtom_setVm hvm w hf h)
section
variable {D : va_G} {kc : Nat → ClassId} {ad adV : Nat → Nat} {L : Nat} {xs : Nat → Int32} {sz sz' : Nat} {s U : State} {H H1 : Heap}
theorem z_E.mv (hvm : s.vm.Alike U.vm) (hR : ∀ own k tx a, vk_R own k tx a s → vk_R own k tx a U) (h : z_E D kc ad adV L xs sz s H) : z_E D kc ad adV L xs sz U H := by
  obtain ⟨h1, h2, h3, h4, h5, h6, h7, h8, h9, h10, h11⟩ := h
  exact ⟨va_K.moved hvm h1, vx_Zq.moved hvm h2, vx_Zq.moved hvm h3, ⟨va_X.moved hvm h4.1, h4.2⟩, fun q hq => by
    obtain ⟨sa, hsa⟩ := h5 q hq
    exact ⟨sa, hR _ _ _ _ hsa⟩, fun i hi => hR _ _ _ _ (h6 i hi), fun w hw => z_facemv hvm (z_xw_f w hw).1 (z_xw_f w hw).2 (h7 w hw), fun i j hi hj hij => va_Nc.moved hvm (h8 i j hi hj hij), vk_S.moved hvm h9, va_Z.moved hvm h10, va_Zq.moved hvm h11⟩
theorem z_E.warm (hW : s.WarmedH U.vm) (h : z_E D kc ad adV L xs sz s H) : z_E D kc ad adV L xs sz U H := h.mv hW.alike (fun _ _ _ _ => vk_R.warm hW)
theorem z_E.sv (hv : U.vm = s.vm) (h : z_E D kc ad adV L xs sz s H) : z_E D kc ad adV L xs sz U H := h.mv (by rw [hv]; exact Vm.Alike.refl _) (fun _ _ _ _ => vk_R.same hv)
theorem z_E.kp (hsz : H.size ≤ H1.size) (hq : ∀ a : Nat, a < H.size → ¬ z_A ad sz a → H1[a]? = H[a]?) (h : z_E D kc ad adV L xs sz U H) : z_E D kc ad adV L xs sz U H1 := by
  obtain ⟨h1, h2, h3, h4, h5, h6, h7, h8, h9, h10, h11⟩ := h
  exact ⟨h1, vx_Zq.kept h2 hq, vx_Zq.kept h3 hq, ⟨va_X.kept h4.1 (hq _ h4.2.1 h4.2.2), by omega, h4.2.2⟩, h5, h6, h7, h8, vk_S.kept h9 hq, va_Z.kept h10 hq, va_Zq.kept h11 hq⟩
theorem z_A_mono (h : sz ≤ sz') : ∀ q, z_A ad sz' q → z_A ad sz q := fun q hq => hq.elim Or.inl (fun z => Or.inr (Nat.le_trans h z))
theorem z_E.nr (hs : sz ≤ sz') (h : z_E D kc ad adV L xs sz U H) : z_E D kc ad adV L xs sz' U H := by
  obtain ⟨h1, h2, h3, h4, h5, h6, h7, h8, h9, h10, h11⟩ := h
  exact ⟨h1, vx_Zq.narrow h2 (z_A_mono hs), vx_Zq.narrow h3 (z_A_mono hs), ⟨h4.1, h4.2.1, fun z => h4.2.2 (z_A_mono hs _ z)⟩, h5, h6, h7, h8, vk_S.narrow h9 (z_A_mono hs), va_Z.narrow h10 (z_A_mono hs), va_Zq.narrow h11 (z_A_mono hs)⟩
end
def z_Pc (D : va_G) (kc : Nat → ClassId) (ad adV : Nat → Nat) (L : Nat) (xs : Nat → Int32) (sz : Nat) (vals : List Value) (σ : zSt) : Array Value → State → Prop := va_Pc (vals.map (z_tv ad)) (fun U => U.heap.size = sz ∧ z_E D kc ad adV L xs sz U U.heap ∧ va_P D vwCl (z_ws kc ad σ) U.heap)
def z_Qc (D : va_G) (kc : Nat → ClassId) (ad : Nat → Nat) (sz : Nat) (o : Option Value ⊕ Nat) (τ : zSt) : Array Value → State → Outcome → State → Prop := fun _ st oc t => (∃ rv, o = .inl rv ∧ oc = .returned (rv.map (z_tv ad)) ∧ va_P D vwCl (z_ws kc ad τ) t.heap) ∧ va_F (z_A ad sz) st t
def z_Xc (D : va_G) (kc : Nat → ClassId) (ad : Nat → Nat) (sz : Nat) (o : Option Value ⊕ Nat) (τ : zSt) : String → State → State → Prop := fun E st t => (∃ e, e < 4 ∧ o = .inr e ∧ E = z_EX e ∧ va_P D vwCl (z_ws kc ad τ) t.heap) ∧ va_F (z_A ad sz) st t
/-- the contract of a method at these values and this state -/
def z_Met (l : Launch) (D : va_G) (kc : Nat → ClassId) (ad adV : Nat → Nat) (L : Nat) (xs : Nat → Int32) (m : Nat) (sz : Nat) (vals : List Value) (σ : zSt) (o : Option Value ⊕ Nat) (τ : zSt) (t : Nat) : Prop :=
  vx_Met l (z_y m) (z_head m :: z_wl) ({ frames := z_dep m, cells := t, slots := 6 * t, locals := z_loc m } : Room) (z_Pc D kc ad adV L xs sz vals σ) (z_Qc D kc ad sz o τ) (z_Xc D kc ad sz o τ) t (6 * t) (z_A ad sz)
theorem z_blind {D : va_G} {kc : Nat → ClassId} {ad adV : Nat → Nat} {L : Nat} {xs : Nat → Int32} {sz : Nat} {vals : List Value} {σ : zSt} : FrameBlind (z_Pc D kc ad adV L xs sz vals σ) := fun a U g mk h => by
  obtain ⟨h1, h2, h3, h4⟩ := h
  have h5 : z_E D kc ad adV L xs sz (U.calling g mk a) U.heap := z_E.sv (s := U) rfl h3
  exact ⟨h1, h2, h5, h4⟩
theorem z_wl_good : ∀ w ∈ z_wl, (w.onTables && w.keeps) = true ∨ ∃ ty, w = .arrayClass ty := fun w h => good_of_word (List.mem_filter.mp h).2
section ZW
variable {p : Program} {l : Launch} {e : Env} {R : Room} {s : State} {mi : MethodId} {args : Array Value} {below : List Frame} {meth : Method} {c : Code} {Q : State → Prop} {D : va_G} {kc : Nat → ClassId} {ad adV : Nat → Nat} {nL : Nat} {o : Option Value ⊕ Nat} {τ : zSt} {MC MS : Nat} {cc : ByteArray} {k : Nat → zL → List Value → zSt → Option zOut} {pc : Nat} {lv : zL} {st : List Value} {σ : zSt} {L : Nat} {xs : Nat → Int32}
/-- what comes behind a call -/
theorem z_after {H : Heap} {locs : List Loc} {cells slots u : Nat} {ls : Array Slot} {st0 rest : List Value} {a : Array Value} {r : Option Value ⊕ Nat} {σ2 : zSt} (hr : vx_Run p l e R s mi args below meth c H locs cells slots u (6 * u) (F0 mi pc ls st0) rest (z_Qc D kc ad H.size r σ2 a) (z_Xc D kc ad H.size r σ2) (z_A ad H.size)) (hS : va_S (z_A ad s.heap.size) s.heap H locs)
    (kk : ∀ (rv : Option Value) (H1 : Heap) (locs1 : List Loc), r = .inl rv → va_P D vwCl (z_ws kc ad σ2) H1 → va_S (z_A ad s.heap.size) s.heap H1 locs1 → W p l e R s mi args below meth c H1 locs1 (cells + u) (slots + 6 * u) Q (F0 mi (pc + 3) ls ((rv.map (z_tv ad)).toList ++ rest)))
    (kx : ∀ (e9 : Nat) (ce : Cell) (q9 : Addr) (H1 : Heap) (locs1 : List Loc), e9 < 4 → r = .inr e9 → va_P D vwCl (z_ws kc ad σ2) H1 → va_S (z_A ad s.heap.size) s.heap H1 locs1 → H1[q9]? = some ce → ce.vm = .none → s.vm.findClass (z_EX e9) = some ce.cls → vx_W p l e R s mi args below meth c H1 locs1 (cells + u) (slots + 6 * u) Q (F0 mi pc ls rest) q9) :
    W p l e R s mi args below meth c H locs cells slots Q (F0 mi pc ls st0) := by
  have hA : ∀ q, q < H.size → z_A ad H.size q → z_A ad s.heap.size q := fun q h1 h2 => h2.elim Or.inl (fun z => absurd z (Nat.not_le.mpr h1))
  have hf : ∀ q, z_A ad H.size q → z_A ad s.heap.size q := z_A_mono hS.1
  intro T hT X
  rcases hr T hT X with ⟨v, st₀, t, T', L, h0, X', hL, e1, e2, ⟨⟨rv, hr1, hv, hp⟩, hF⟩, st⟩ | ⟨q, st₀, t, T', L, E, ce, h0, X', hL, e1, e2, ⟨⟨e9, he4, hr1, hE, hp⟩, hF⟩, hce, hcv, hcl, st⟩
  · cases hv
    obtain ⟨k1, k2, k3⟩ := vx_keep h0 e1 hS hA hf hL hF
    obtain ⟨t2, a1, b1⟩ := kk rv T'.heap (locs ++ L) hr1 (by rw [e1]; exact hp) k3 T' rfl X'
    exact ⟨t2, st t2 a1, b1⟩
  · obtain ⟨k1, k2, k3⟩ := vx_keep h0 e1 hS hA hf hL hF
    subst hE
    obtain ⟨t2, a1, b1⟩ := kx e9 ce q T'.heap (locs ++ L) he4 hr1 (by rw [e1]; exact hp) k3 (by rw [e1]; exact hce) hcv hcl T' rfl X'
    exact ⟨t2, st.trans a1, b1⟩
/-- the start of a callee -/
theorem z_preS {vals : List Value} {H : Heap} {locs : List Loc} (hE : z_E D kc ad adV L xs s.heap.size s s.heap) (hP : va_P D vwCl (z_ws kc ad σ) H) (hS : va_S (z_A ad s.heap.size) s.heap H locs) : PreS s H (z_Pc D kc ad adV L xs H.size vals σ) (vals.map (z_tv ad)) := by
  refine ⟨z_blind, fun U hU hW => ⟨rfl, by rw [hU], ?_, by rw [hU]; exact hP⟩⟩
  rw [hU]
  exact ((hE.kp hS.1 hS.2.1).nr hS.1).warm hW
theorem z_preV {vals : List Value} {q ci : Nat} {H : Heap} {locs : List Loc} (hE : z_E D kc ad adV L xs s.heap.size s s.heap) (hP : va_P D vwCl (z_ws kc ad σ) H) (hS : va_S (z_A ad s.heap.size) s.heap H locs) (hq : z_kind q = ci) (hci : ci < 7) : PreV s H (z_C ci) (ad q) (z_Pc D kc ad adV L xs H.size (.ref q :: vals) σ) (vals.map (z_tv ad)) := by
  refine ⟨z_blind, ?_, fun U hU hW => ⟨rfl, by rw [hU], ?_, by rw [hU]; exact hP⟩⟩
  · exact va_recv hE.1 hP (z_vwCl ci hci) (q0 := q) (by rw [z_ws_get (z_kind_lt hq (by omega)), z_cell_obj hq hci])
  · rw [hU]
    exact ((hE.kp hS.1 hS.2.1).nr hS.1).warm hW
end ZW
