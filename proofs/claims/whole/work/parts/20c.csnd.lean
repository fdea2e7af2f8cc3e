/-! CONSTRUCTORS: the straight interpreter is sound -/
def zk_dep (c : Nat) : Nat := if c = 5 then 2 else 1
def zk_loc (c : Nat) : Nat := if c = 5 then 60 else 20
def zc_fv (ad : Nat → Nat) (s : zcS) (ci k j : Nat) : Value := if z_isR ci j = true then va_rf ((s.2.2.1 k j).map ad) else .int (s.2.1 k j)
def zc_obj (ad : Nat → Nat) (s : zcS) (ci k : Nat) : List Value := (List.range (z_N ci)).map (zc_fv ad s ci k)
def zc_cell (kc : Nat → ClassId) (ad : Nat → Nat) (s : zcS) (k : Nat) : va_E := match z_kind k with
  | 10 => .inl (kc 10, z_len k, .inl (s.2.2.2 k))
  | 11 => .inl (kc 11, z_len k, .inl (s.2.2.2 k))
  | 14 => .inl (kc 14, z_len k, .inr (.inr (.inr (.inr (fun j => (s.2.2.1 k j).map ad)))))
  | c => .inr (c, zc_obj ad s c k)
def zc_ws (kc : Nat → ClassId) (ad : Nat → Nat) (s : zcS) : va_W := (List.range s.1).map fun k => (ad k, zc_cell kc ad s k)
def zc_ok (s : zcS) : Prop := ∀ k j x, s.2.2.1 k j = some x → x < s.1
def zc_so (n : Nat) (st : List Value) : Prop := ∀ x, Value.ref x ∈ st → x < n
section
variable {kc : Nat → ClassId} {ad ad' : Nat → Nat} {s s' : zcS} {k q ci j n : Nat} {e : va_E}
theorem zc_ws_get (h : k < s.1) : (zc_ws kc ad s)[k]? = some (ad k, zc_cell kc ad s k) := by
  unfold zc_ws
  rw [List.getElem?_map, List.getElem?_range h]
  rfl
theorem zc_ws_len : (zc_ws kc ad s).length = s.1 := by simp [zc_ws]
theorem zc_ws_set (hn : s'.1 = s.1) (hq : q < s.1) (he : zc_cell kc ad s' q = e) (ho : ∀ k, k < s.1 → k ≠ q → zc_cell kc ad s' k = zc_cell kc ad s k) : (zc_ws kc ad s).set q (ad q, e) = zc_ws kc ad s' := by
  apply List.ext_getElem?
  intro i
  by_cases hi : i < s.1
  · have hi' : i < s'.1 := by rw [hn]; exact hi
    by_cases e1 : i = q
    · subst e1
      rw [zc_ws_get hi', List.getElem?_set_self (by rw [zc_ws_len]; exact hi), he]
    · rw [List.getElem?_set_ne (Ne.symm e1), zc_ws_get hi, zc_ws_get hi', ho i hi e1]
  · rw [List.getElem?_eq_none (by rw [List.length_set, zc_ws_len]; omega), List.getElem?_eq_none (by rw [zc_ws_len, hn]; omega)]
theorem zc_ws_push (hn : s'.1 = s.1 + 1) (hq : ad' s.1 = q) (he : zc_cell kc ad' s' s.1 = e) (hag : ∀ k, k < s.1 → ad' k = ad k) (ho : ∀ k, k < s.1 → zc_cell kc ad' s' k = zc_cell kc ad s k) : zc_ws kc ad s ++ [(q, e)] = zc_ws kc ad' s' := by
  apply List.ext_getElem?
  intro i
  by_cases hi : i < s.1
  · rw [List.getElem?_append_left (by rw [zc_ws_len]; exact hi), zc_ws_get hi, zc_ws_get (by omega), hag i hi, ho i hi]
  · rw [List.getElem?_append_right (by rw [zc_ws_len]; omega), zc_ws_len]
    by_cases h2 : i = s.1
    · subst h2
      rw [Nat.sub_self, zc_ws_get (by omega), hq, he]
      rfl
    · rw [List.getElem?_eq_none (by simp; omega), List.getElem?_eq_none (by rw [zc_ws_len, hn]; omega)]
theorem zc_obj_get (h : j < z_N ci) : (zc_obj ad s ci k)[j]? = some (zc_fv ad s ci k j) := by
  unfold zc_obj
  rw [List.getElem?_map, List.getElem?_range h]
  rfl
theorem zc_obj_len : (zc_obj ad s ci k).length = z_N ci := by simp [zc_obj]
theorem zc_obj_set {v : Value} (hv : zc_fv ad s' ci k j = v) (ho : ∀ i, i ≠ j → zc_fv ad s' ci k i = zc_fv ad s ci k i) : (zc_obj ad s ci k).set j v = zc_obj ad s' ci k := by
  apply List.ext_getElem?
  intro i
  by_cases hi : i < z_N ci
  · by_cases e1 : i = j
    · subst e1
      rw [zc_obj_get hi, List.getElem?_set_self (by rw [zc_obj_len]; exact hi), hv]
    · rw [List.getElem?_set_ne (Ne.symm e1), zc_obj_get hi, zc_obj_get hi, ho i e1]
  · rw [List.getElem?_eq_none (by rw [List.length_set, zc_obj_len]; omega), List.getElem?_eq_none (by rw [zc_obj_len]; omega)]
theorem zc_cell_cong (h1 : s'.2.1 k = s.2.1 k) (h2 : s'.2.2.1 k = s.2.2.1 k) (h3 : s'.2.2.2 k = s.2.2.2 k) (h4 : ∀ j x, s.2.2.1 k j = some x → ad' x = ad x) : zc_cell kc ad' s' k = zc_cell kc ad s k := by
  have hm : ∀ j, (s'.2.2.1 k j).map ad' = (s.2.2.1 k j).map ad := fun j => by
    rw [h2]
    cases hh : s.2.2.1 k j with
    | none => rfl
    | some x => rw [Option.map_some, Option.map_some, h4 j x hh]
  have hob : ∀ c, zc_obj ad' s' c k = zc_obj ad s c k := fun c => by
    unfold zc_obj
    apply List.map_congr_left
    intro j _
    unfold zc_fv
    rw [h1, hm]
  unfold zc_cell
  split
  · rw [h3]
  · rw [h3]
  · simp only [hm]
  · rw [hob]
theorem zc_cell_obj (h : z_kind q = ci) (hc : ci < 7) : zc_cell kc ad s q = .inr (ci, zc_obj ad s ci q) := by
  unfold zc_cell
  rw [h]
  match ci, hc with
  | 0, _ => rfl
  | 1, _ => rfl
  | 2, _ => rfl
  | 3, _ => rfl
  | 4, _ => rfl
  | 5, _ => rfl
  | 6, _ => rfl
theorem zc_cell_10 (h : z_kind q = 10) : zc_cell kc ad s q = .inl (kc 10, z_len q, .inl (s.2.2.2 q)) := by
  unfold zc_cell
  rw [h]
  rfl
theorem zc_cell_11 (h : z_kind q = 11) : zc_cell kc ad s q = .inl (kc 11, z_len q, .inl (s.2.2.2 q)) := by
  unfold zc_cell
  rw [h]
  rfl
theorem zc_cell_14 (h : z_kind q = 14) : zc_cell kc ad s q = .inl (kc 14, z_len q, .inr (.inr (.inr (.inr (fun j => (s.2.2.1 q j).map ad))))) := by
  unfold zc_cell
  rw [h]
  rfl
theorem zc_map {st : List Value} (h : zc_so n st) (ha : ∀ k, k < n → ad' k = ad k) : st.map (z_tv ad') = st.map (z_tv ad) := by
  apply List.map_congr_left
  intro v hv
  cases v <;> try rfl
  rename_i x
  show Value.ref (ad' x) = Value.ref (ad x)
  rw [ha x (h x hv)]
theorem zc_so_cons {v : Value} {st : List Value} (h : zc_so n (v :: st)) : zc_so n st := fun x hx => h x (List.mem_cons_of_mem _ hx)
theorem zc_so_int {v : Int32} {st : List Value} (h : zc_so n st) : zc_so n (.int v :: st) := fun x hx => by
  rcases List.mem_cons.mp hx with h1 | h1
  · cases h1
  · exact h x h1
theorem zc_so_ref {y : Nat} {st : List Value} (hy : y < n) (h : zc_so n st) : zc_so n (.ref y :: st) := fun x hx => by
  rcases List.mem_cons.mp hx with h1 | h1
  · cases h1; exact hy
  · exact h x h1
theorem zc_so_mono {m : Nat} {st : List Value} (hm : n ≤ m) (h : zc_so n st) : zc_so m st := fun x hx => Nat.lt_of_lt_of_le (h x hx) hm
end
theorem z_len_le (k : Nat) : z_len k ≤ 800 := by
  by_cases hk : k < 125
  · have : ∀ k, k < 125 → z_len k ≤ 800 := by decide +kernel
    exact this k hk
  · unfold z_len
    rw [List.getD_eq_getElem?_getD, List.getElem?_eq_none (by show 125 ≤ k; omega)]
    decide
theorem zc_dflt : ∀ ci, ci < 7 → ∀ j, j < z_N ci → defaultValue (z_tyf ci j) = if z_isR ci j = true then .null else .int 0 := by decide +kernel
def zc_E (D : va_G) (kc : Nat → ClassId) (U : State) : Prop := va_K D vwCl (z_tys kc) U ∧ va_AOA .int U ∧ ∀ q ∈ zk_nest, va_Nw (.methodLinkNest RX5 q.1 (zk_y q.2) RX5) U
theorem zc_E.warm {D : va_G} {kc : Nat → ClassId} {s U : State} (hW : s.WarmedH U.vm) (h : zc_E D kc s) : zc_E D kc U := ⟨va_K.moved hW.alike h.1, va_AOA.same (u := s.setVm U.vm) rfl (by unfold va_AOA; rw [Cond.arrayOver_setVmC hW.alike]; exact h.2.1), fun q hq => va_Nw.warmM hW (h.2.2 q hq)⟩
theorem zc_E.sv {D : va_G} {kc : Nat → ClassId} {s U : State} (hv : U.vm = s.vm) (h : zc_E D kc s) : zc_E D kc U := ⟨va_K.moved (by rw [hv]; exact Vm.Alike.refl _) h.1, va_AOA.same hv h.2.1, fun q hq => va_Nw.same rfl hv.symm (h.2.2 q hq)⟩
theorem zk_dec {c pc : Nat} {i : Instr} {n : Nat} (h : zk_dcs c pc = some (i, n)) : decode (zk_bytes c) pc = .ok (i, n) := by
  unfold zk_dcs at h
  split at h
  · rename_i q hq
    cases h
    exact hq
  · cases h
def zk_LK : Prop := ∀ (c pc : Nat) (e : zI), c < 7 → zk_at c pc = some e → zk_eB c pc e = true ∧ ∀ w ∈ zk_need c e, w ∈ z_wl
def zc_Cx (D : va_G) (kc : Nat → ClassId) (c : Nat) (p : Program) (R : Room) (S : State) (mi : MethodId) (args : Array Value) (meth : Method) (cd : Code) : Prop :=
  p.tables.exec = Jvm.exec ∧ cd.code = zk_bytes c ∧ cd.maxLocals = zk_maxL c ∧ S.vm.findClass (zk_own c) = some mi.cls ∧ (∀ w ∈ z_wl, w.before args S = true) ∧ meth.locks = false ∧ meth.name = "<init>" ∧ zc_E D kc S ∧ zk_dep c ≤ R.frames ∧ zk_loc c ≤ R.locals
def zc_A (ad : Nat → Nat) (n sz : Nat) : Nat → Prop := fun q => (∃ i, i < n ∧ q = ad i) ∨ sz ≤ q
def zc_Pc (D : va_G) (kc : Nat → ClassId) (ad : Nat → Nat) (s : zcS) (x sz : Nat) : Array Value → State → Prop := va_Pc [.ref (ad x)] (fun U => U.heap.size = sz ∧ zc_E D kc U ∧ va_P D vwCl (zc_ws kc ad s) U.heap ∧ va_D (zc_A ad s.1 sz) (zc_ws kc ad s))
def zc_Qc (D : va_G) (kc : Nat → ClassId) (ad : Nat → Nat) (s r : zcS) (sz : Nat) : Array Value → State → Outcome → State → Prop := va_Qv (fun ad' : Nat → Nat => ∀ k, k < s.1 → ad' k = ad k) (fun ad' t => va_P D vwCl (zc_ws kc ad' r) t.heap ∧ va_D (zc_A ad s.1 sz) (zc_ws kc ad' r) ∧ s.1 ≤ r.1 ∧ zc_ok r) (zc_A ad s.1 sz)
def zc_Met (l : Launch) (D : va_G) (kc : Nat → ClassId) (c : Nat) (ad : Nat → Nat) (s r : zcS) (x sz cs sl : Nat) : Prop :=
  Met l (zk_y c) (zk_head c :: z_wl) ({ frames := zk_dep c, cells := cs, slots := sl, locals := zk_loc c } : Room) (zc_Pc D kc ad s x sz) (zc_Qc D kc ad s r sz) cs sl (zc_A ad s.1 sz)
def zc_P (l : Launch) (D : va_G) (kc : Nat → ClassId) (n : Nat) : Prop :=
  ∀ (c h pc : Nat) (st : List Value) (s r : zcS) (cs sl : Nat), zc_run n c h pc st s = some (r, cs, sl) → c < 7 → zc_ok s → h < s.1 → zc_so s.1 st →
  ∀ (p : Program) (e : Env) (R : Room) (S : State) (mi : MethodId) (args : Array Value) (below : List Frame) (meth : Method) (cd : Code) (Q : State → Prop) (A : Nat → Prop), zc_Cx D kc c p R S mi args meth cd → (∀ q, S.heap.size ≤ q → A q) →
  ∀ (H : Heap) (locs : List Loc) (cells slots : Nat) (ad : Nat → Nat) (ls : Array Slot), va_P D vwCl (zc_ws kc ad s) H → va_D A (zc_ws kc ad s) → va_S A S.heap H locs → ls.size = zk_maxL c → ls[0]? = some (.val (.ref (ad h))) → cells + cs ≤ R.cells → slots + sl ≤ R.slots →
  (∀ (pcr : Nat) (H' : Heap) (locs' : List Loc) (ad' : Nat → Nat), (∀ k, k < s.1 → ad' k = ad k) → s.1 ≤ r.1 → zc_ok r → va_P D vwCl (zc_ws kc ad' r) H' → va_D A (zc_ws kc ad' r) → va_S A S.heap H' locs' → decode (zk_bytes c) pcr = .ok (.return_, 1) → W p l e R S mi args below meth cd H' locs' (cells + cs) (slots + sl) Q (F0 mi pcr ls [])) →
  W p l e R S mi args below meth cd H locs cells slots Q (F0 mi pc ls (st.map (z_tv ad)))
theorem zc_add_some {a b : Nat} {o : Option (zcS × Nat × Nat)} {r : zcS} {cs sl : Nat} (h : zc_add a b o = some (r, cs, sl)) : ∃ x y, o = some (r, x, y) ∧ cs = a + x ∧ sl = b + y := by
  match o, h with
  | some (s, x, y), h =>
    cases h
    exact ⟨x, y, rfl, rfl, rfl⟩
theorem zk_dep1 (c : Nat) : 1 ≤ zk_dep c := by
  unfold zk_dep
  split <;> omega
theorem zk_loc20 (c : Nat) : 20 ≤ zk_loc c := by
  unfold zk_loc
  split <;> omega
theorem zk_nm : ∀ c, c < 7 → (zk_y c).name = "<init>" := by decide +kernel
theorem zk_hd : ∀ c, c < 7 → (zk_y c).cls ≠ "java/lang/invoke/MethodHandle" ∧ (zk_y c).cls ≠ "java/lang/invoke/VarHandle" ∧ (parseMethodDescriptor (zk_y c).desc).map (fun d => d.parameters.length) = some 0 := by decide +kernel
theorem zk_pl : ∀ c, c < 7 → plainName (zk_y c).cls = true := by decide +kernel
theorem zk_ml : ∀ c, c < 7 → zk_maxL c = 1 := by decide +kernel
theorem z_rows : ∀ i, 76 ≤ i → i < 101 → z_kind i = 10 ∧ z_len i = 25 := by
  have h : ∀ i, i < 101 → 76 ≤ i → z_kind i = 10 ∧ z_len i = 25 := by decide +kernel
  exact fun i h1 h2 => h i h2 h1
theorem zc_blind {D : va_G} {kc : Nat → ClassId} {ad : Nat → Nat} {s : zcS} {x sz : Nat} : FrameBlind (zc_Pc D kc ad s x sz) := fun a U g mk h => by
  obtain ⟨h1, h2, h3, h4, h5⟩ := h
  have h6 : zc_E D kc (U.calling g mk a) := zc_E.sv (s := U) rfl h3
  exact ⟨h1, h2, h6, h4, h5⟩
section
variable {l : Launch} {D : va_G} {kc : Nat → ClassId}
theorem zc_metOf {n c x : Nat} (hP : zc_P l D kc n) {s r : zcS} {cs sl sz : Nat} {ad : Nat → Nat} (h : zc_run n c x 0 [] s = some (r, cs, sl)) (hc : c < 7) (hok : zc_ok s) (hx : x < s.1) : zc_Met l D kc c ad s r x sz cs sl := by
  refine Met.ofW (cc := zk_bytes c) (maxL := zk_maxL c) (ret := none) (zk_pl c hc) rfl ?_
  intro p e S mi args below meth cd s₁ B hml hv
  obtain ⟨rfl, hsz, hE, hPw, hDw⟩ := hv
  subst hsz
  have hts := atoms_spec (ws := zk_head c :: z_wl) B.pre
  have C : zc_Cx D kc c p ({ frames := zk_dep c, cells := cs, slots := sl, locals := zk_loc c } : Room) S mi [Value.ref (ad x)].toArray meth cd := ⟨B.exec, B.bytes, hml, findClass_of_methodNamed B.named, fun w hw => hts w (List.mem_cons_of_mem _ hw), B.notSynchronized, ((name_of_methodNamed B.named B.method).1).trans (zk_nm c hc), hE, Nat.le_refl _, Nat.le_refl _⟩
  rw [lg_entry_eq]
  have hML : (([Value.ref x] : List Value).map fun v => v.category).sum ≤ zk_maxL c := by rw [zk_ml c hc]; exact Nat.le_refl _
  have hz := z_entry ad [Value.ref x] (zk_maxL c) hML
  refine hP c x 0 [] s r cs sl h hc hok hx (fun _ hh => by cases hh) p e _ S mi _ below meth cd _ (zc_A ad s.1 S.heap.size) C (fun q hq => Or.inr hq) S.heap [] 0 0 ad _ hPw hDw va_S.rf (hz.1.trans (z_ent_len _ _ hML)) (hz.2.2 0 (.ref x) rfl) (by show 0 + cs ≤ cs; omega) (by show 0 + sl ≤ sl; omega) (fun pcr H' locs' ad' hag hle hokr hP' hD' hS' hdr => ?_)
  rw [Nat.zero_add, Nat.zero_add]
  exact W.vret B.exec B.bytes B.returns (fun t ht hW => ⟨⟨ad', rfl, hag, by rw [ht]; exact hP', hD', hle, hokr⟩, hS'.F ht⟩) hS'.2.2 hdr
set_option maxHeartbeats 2000000 in
theorem zc_sound (hLK : zk_LK) (hUI : z_UI) : ∀ n, zc_P l D kc n := by
  intro n
  induction n with
  | zero =>
    intro c h pc st s r cs sl h0
    cases h0
  | succ n ih =>
    intro c h pc st s r cs sl h0 hc hok hh hso p e R S mi args below meth cd Q A C hA H locs cells slots ad ls hP hD hS hls hl0 hcc hss kk
    have next : ∀ (pc' : Nat) (st' : List Value) (s' : zcS) (a b x y : Nat) (H1 : Heap) (locs1 : List Loc) (ad1 : Nat → Nat), s.1 ≤ s'.1 → (∀ k, k < s.1 → ad1 k = ad k) → zc_run n c h pc' st' s' = some (r, x, y) → cs = a + x → sl = b + y → zc_ok s' → zc_so s'.1 st' → va_P D vwCl (zc_ws kc ad1 s') H1 → va_D A (zc_ws kc ad1 s') → va_S A S.heap H1 locs1 → W p l e R S mi args below meth cd H1 locs1 (cells + a) (slots + b) Q (F0 mi pc' ls (st'.map (z_tv ad1))) := by
      intro pc' st' s' a b x y H1 locs1 ad1 hle hag hrun e1 e2 hok' hso' hP1 hD1 hS1
      subst e1
      subst e2
      refine ih c h pc' st' s' r x y hrun hc hok' (Nat.lt_of_lt_of_le hh hle) hso' p e R S mi args below meth cd Q A C hA H1 locs1 (cells + a) (slots + b) ad1 ls hP1 hD1 hS1 hls (by rw [hag h hh]; exact hl0) (by omega) (by omega) (fun pcr H' locs' ad' hag' hle' hokr hP' hD' hS' hdr => ?_)
      have := kk pcr H' locs' ad' (fun k hk => (hag' k (Nat.lt_of_lt_of_le hk hle)).trans (hag k hk)) (Nat.le_trans hle hle') hokr hP' hD' hS' hdr
      rw [Nat.add_assoc cells, Nat.add_assoc slots]
      exact this
    have next0 : ∀ (pc' : Nat) (st' : List Value) (s' : zcS) (H1 : Heap) (locs1 : List Loc), s'.1 = s.1 → zc_run n c h pc' st' s' = some (r, cs, sl) → zc_ok s' → zc_so s.1 st' → va_P D vwCl (zc_ws kc ad s') H1 → va_D A (zc_ws kc ad s') → va_S A S.heap H1 locs1 → W p l e R S mi args below meth cd H1 locs1 cells slots Q (F0 mi pc' ls (st'.map (z_tv ad))) := fun pc' st' s' H1 locs1 hle hrun hok' hso' hP1 hD1 hS1 => next pc' st' s' 0 0 cs sl H1 locs1 ad (by omega) (fun _ _ => rfl) hrun (by omega) (by omega) hok' (by rw [hle]; exact hso') hP1 hD1 hS1
    obtain ⟨hx, hb, hml, hown, hts, hlk, hnm, hE, hfr, hlo⟩ := C
    have hK := hE.1
    replace h0 : (match zk_at c pc with
      | none => none
      | some e => zc_stp (zc_run n) c h pc e.2.2.1 st s e.1) = some (r, cs, sl) := h0
    cases hat : zk_at c pc with
    | none => rw [hat] at h0; cases h0
    | some q =>
      obtain ⟨i, len, a, v, sw⟩ := q
      rw [hat] at h0
      replace h0 : zc_stp (zc_run n) c h pc a st s i = some (r, cs, sl) := h0
      obtain ⟨hB, hw⟩ := hLK c pc _ hc hat
      unfold zk_eB at hB
      unfold zk_need at hw
      dsimp only at hB hw
      rw [Bool.and_eq_true, decide_eq_true_eq] at hB
      obtain ⟨hd0, hB⟩ := hB
      have hd := zk_dec hd0
      unfold zc_stp at h0
      split at h0
      · -- aload_n
        rename_i j
        dsimp only at hB
        rw [decide_eq_true_eq] at hB
        subst hB
        split at h0
        · rename_i hj
          exact lv_aload_n hx hb hd hj hl0 (next0 _ (.ref h :: st) s H locs rfl h0 hok (zc_so_ref hh hso) hP hD hS)
        · cases h0
      · dsimp only at hB
        rw [decide_eq_true_eq] at hB
        subst hB
        exact lv_iconst hx hb hd rfl (next0 _ (.int _ :: st) s H locs rfl h0 hok (zc_so_int hso) hP hD hS)
      · dsimp only at hB
        rw [Bool.and_eq_true, decide_eq_true_eq, decide_eq_true_eq] at hB
        obtain ⟨hB, hB2⟩ := hB
        subst hB
        exact lv_bipush hx hb hd hB2 (next0 _ (.int _ :: st) s H locs rfl h0 hok (zc_so_int hso) hP hD hS)
      · dsimp only at hB
        rw [Bool.and_eq_true, decide_eq_true_eq, decide_eq_true_eq] at hB
        obtain ⟨hB, hB2⟩ := hB
        subst hB
        exact lv_sipush hx hb hd hB2 (next0 _ (.int _ :: st) s H locs rfl h0 hok (zc_so_int hso) hP hD hS)
      · -- dup
        dsimp only at hB
        rw [decide_eq_true_eq] at hB
        subst hB
        split at h0
        · rename_i x r'
          exact lv_dup hx hb hd rfl (next0 _ (.ref x :: .ref x :: r') s H locs rfl h0 hok (zc_so_ref (hso x List.mem_cons_self) hso) hP hD hS)
        · cases h0
      · -- newarray
        rename_i t
        dsimp only at hB hw
        rw [Bool.and_eq_true, decide_eq_true_eq] at hB
        obtain ⟨hB, hB2⟩ := hB
        subst hB
        split at h0
        · rename_i x r'
          split at h0
          · rename_i hkd
            split at h0
            · rename_i hln
              split at h0
              · cases h0
              · rename_i hneg
                obtain ⟨x1, y1, hrun, rfl, rfl⟩ := zc_add_some h0
                have hlen := z_len_le s.1
                have hso' := zc_so_cons hso
                have fin : ∀ (cA : ClassId) (kd : Nat) (q : Nat) (H1 : Heap), z_kind s.1 = kd → (kd = 10 ∨ kd = 11) → cA = kc kd → va_P D vwCl (zc_ws kc ad s ++ [(q, .inl (cA, z_len s.1, .inl (fun _ => 0)))]) H1 → va_D A (zc_ws kc ad s ++ [(q, .inl (cA, z_len s.1, .inl (fun _ => 0)))]) → va_S A S.heap H1 locs → W p l e R S mi args below meth cd H1 locs (cells + 1) (slots + z_len s.1) Q (F0 mi (pc + 2) ls (.ref q :: r'.map (z_tv ad))) := by
                  intro cA kd q H1 hkd hk2 hcA hP1 hD1 hS1
                  subst hcA
                  have ew : zc_ws kc ad s ++ [(q, .inl (kc kd, z_len s.1, .inl (fun _ => 0)))] = zc_ws kc (fun k => if k = s.1 then q else ad k) (s.1 + 1, s.2.1, s.2.2.1, fun k => if k = s.1 then fun _ => 0 else s.2.2.2 k) := by
                    refine zc_ws_push rfl (if_pos rfl) ?_ (fun k hk => if_neg (by omega)) (fun k hk => zc_cell_cong rfl rfl (if_neg (by omega)) (fun j x hx => if_neg (by have := hok k j x hx; omega)))
                    rcases hk2 with rfl | rfl
                    · rw [zc_cell_10 hkd]
                      simp
                    · rw [zc_cell_11 hkd]
                      simp
                  rw [ew] at hP1 hD1
                  have := next (pc + 2) (.ref s.1 :: r') _ 1 (z_len s.1) x1 y1 H1 locs (fun k => if k = s.1 then q else ad k) (Nat.le_succ _) (fun k hk => if_neg (by omega)) hrun rfl rfl (fun k j x hx => Nat.lt_succ_of_lt (hok k j x hx)) (zc_so_ref (Nat.lt_succ_self _) (zc_so_mono (Nat.le_succ _) hso')) hP1 hD1 hS1
                  rw [List.map_cons, zc_map hso' (fun k hk => if_neg (by omega))] at this
                  rw [show z_tv (fun k => if k = s.1 then q else ad k) (.ref s.1) = .ref q by simp [z_tv]] at this
                  exact this
                rw [Bool.or_eq_true, Bool.and_eq_true, Bool.and_eq_true, decide_eq_true_eq, decide_eq_true_eq, decide_eq_true_eq, decide_eq_true_eq] at hB2
                rcases hB2 with ⟨rfl, h10⟩ | ⟨rfl, h11⟩
                · refine va_newa (atype := .int) (ty := .int) (N' := z_len s.1) (a0 := (z_len s.1, .inl (fun _ => 0))) hx hb (hts _ (hw _ List.mem_cons_self)) rfl hK hP hD hS hA (fun cA => rfl) hneg hln.symm (by show _ * 4 ≤ _; omega) (by omega) (by omega) hd (fun q cA H1 hK1 hP1 hD1 hS1 => ?_)
                  refine fin cA 10 q H1 (hkd.trans h10) (Or.inl rfl) ?_ hP1 hD1 hS1
                  have g1 := (hK1.2 5 (cA, .int) rfl).2
                  have g2 := (hK.2 0 (kc 10, .int) rfl).2
                  exact Option.some.inj (g1.symm.trans g2)
                · refine va_newa (atype := .boolean) (ty := .boolean) (N' := z_len s.1) (a0 := (z_len s.1, .inl (fun _ => 0))) hx hb (hts _ (hw _ List.mem_cons_self)) rfl hK hP hD hS hA (fun cA => rfl) hneg hln.symm (by show _ * 1 ≤ _; omega) (by omega) (by omega) hd (fun q cA H1 hK1 hP1 hD1 hS1 => ?_)
                  refine fin cA 11 q H1 (hkd.trans h11) (Or.inr rfl) ?_ hP1 hD1 hS1
                  have g1 := (hK1.2 5 (cA, .boolean) rfl).2
                  have g2 := (hK.2 1 (kc 11, .boolean) rfl).2
                  exact Option.some.inj (g1.symm.trans g2)
            · cases h0
          · cases h0
        · cases h0
      · -- multianewarray
        rename_i idx dm
        dsimp only at hB hw
        rw [Bool.and_eq_true, decide_eq_true_eq, decide_eq_true_eq] at hB
        obtain ⟨hB, hB2⟩ := hB
        subst hB
        subst hB2
        split at h0
        · rename_i y x r'
          split at h0
          · rename_i hx25
            subst hx25
            split at h0
            · rename_i hy25
              subst hy25
              split at h0
              · rename_i h75
                obtain ⟨x1, y1, hrun, rfl, rfl⟩ := zc_add_some h0
                have hso' := zc_so_cons (zc_so_cons hso)
                have hcy : S.vm.findClass (FieldType.array .int).toString = some (kc 10) := (hK.2 0 (kc 10, .int) rfl).2
                have hP0 : va_P D vwCl (zc_ws kc ad s ++ va_pl [] (fun _ => .inl (0, 0, .inl fun _ => 0))) H := by
                  rw [show zc_ws kc ad s ++ va_pl [] (fun _ => .inl (0, 0, .inl fun _ => 0)) = zc_ws kc ad s from List.append_nil _]
                  exact hP
                have hD0 : va_D A (zc_ws kc ad s ++ va_pl [] (fun _ => .inl (0, 0, .inl fun _ => 0))) := by
                  rw [show zc_ws kc ad s ++ va_pl [] (fun _ => .inl (0, 0, .inl fun _ => 0)) = zc_ws kc ad s from List.append_nil _]
                  exact hD
                refine va_mna (ty := .int) (cy := kc 10) (N' := 25) (K' := 25) (z := (25, .inl fun _ => 0)) hx hb hown (hts _ (hw _ List.mem_cons_self)) hE.2.1 (hts _ (hw _ (List.mem_cons_of_mem _ List.mem_cons_self))) hcy hK hP0 hD0 hS hA (by decide) (by decide) rfl rfl (by decide) (by decide) (by decide) rfl rfl (by omega) (by omega) (fun c => by
                  show ({ cls := c, slots := Array.replicate 25 (.int 0), vm := .none } : Cell) = _
                  rw [arrV_new]
                  rfl) hd (fun q rr cA H1 hinj _ hK1 hP1 hD1 hS1 => ?_)
                have hcA : cA = kc 14 := by
                  have g1 := (hK1.2 5 (cA, .array .int) rfl).2
                  have g2 := (hK.2 4 (kc 14, .array .int) rfl).2
                  exact Option.some.inj (g1.symm.trans g2)
                subst hcA
                let ad1 : Nat → Nat := fun k => if k = 75 then q else if 76 ≤ k ∧ k < 101 then rr (k - 76) else ad k
                have ha0 : ∀ k, k < s.1 → ad1 k = ad k := fun k hk => by
                  show (if k = 75 then q else if 76 ≤ k ∧ k < 101 then rr (k - 76) else ad k) = ad k
                  rw [if_neg (by omega), if_neg (by omega)]
                have ha1 : ∀ j, j < 25 → ad1 (76 + j) = rr j := fun j hj => by
                  show (if 76 + j = 75 then q else if 76 ≤ 76 + j ∧ 76 + j < 101 then rr (76 + j - 76) else ad (76 + j)) = rr j
                  rw [if_neg (by omega), if_pos (by omega), Nat.add_sub_cancel_left]
                have ew : ((zc_ws kc ad s ++ [(q, .inl (kc 14, 25, .inr (.inr (.inr (.inr (fun i => if i < 25 then some (rr i) else none))))))]) ++ va_pl ([] ++ (List.range 25).map rr) (vr_up (fun _ => .inl (0, 0, .inl fun _ => 0)) ((List.range 25).map rr) (.inl (kc 10, (25, .inl fun _ => 0))))) = zc_ws kc ad1 (101, s.2.1, fun k j => if k = 75 then (if j < 25 then some (76 + j) else none) else s.2.2.1 k j, fun k => if 76 ≤ k then fun _ => 0 else s.2.2.2 k) := by
                  apply List.ext_getElem?
                  intro i
                  have hlen : (zc_ws kc ad s ++ [(q, (.inl (kc 14, 25, .inr (.inr (.inr (.inr (fun i => if i < 25 then some (rr i) else none))))) : va_E))]).length = 76 := by
                    rw [List.length_append, zc_ws_len, h75]
                    rfl
                  by_cases h1 : i < 75
                  · rw [List.getElem?_append_left (by omega), List.getElem?_append_left (by rw [zc_ws_len]; omega), zc_ws_get (by omega), zc_ws_get (by show i < 101; omega), ha0 i (by omega)]
                    congr 2
                    refine Eq.symm (zc_cell_cong ?_ ?_ ?_ ?_)
                    · rfl
                    · funext j
                      exact if_neg (by omega)
                    · exact if_neg (by omega)
                    · exact fun j x hx => ha0 x (hok i j x hx)
                  · by_cases h2 : i = 75
                    · subst h2
                      rw [List.getElem?_append_left (by omega), List.getElem?_append_right (by rw [zc_ws_len]; omega), zc_ws_len, h75, zc_ws_get (by show 75 < 101; omega)]
                      have e75 : ad1 75 = q := if_pos rfl
                      rw [e75, zc_cell_14 (by decide +kernel)]
                      have hf : (fun i => if i < 25 then some (rr i) else none) = (fun j => Option.map ad1 (if 75 = 75 then (if j < 25 then some (76 + j) else none) else s.2.2.1 75 j)) := by
                        funext j
                        rw [if_pos rfl]
                        by_cases hj : j < 25
                        · rw [if_pos hj, if_pos hj, Option.map_some, ha1 j hj]
                        · rw [if_neg hj, if_neg hj]
                          rfl
                      exact congrArg (fun f => some (q, (.inl (kc 14, 25, .inr (.inr (.inr (.inr f)))) : va_E))) hf
                    · by_cases h3 : i < 101
                      · rw [List.getElem?_append_right (by omega), hlen, zc_ws_get (by show i < 101; omega)]
                        obtain ⟨j, hj, rfl⟩ : ∃ j, j < 25 ∧ i = 76 + j := ⟨i - 76, by omega, by omega⟩
                        rw [Nat.add_sub_cancel_left, ha1 j hj]
                        unfold va_pl
                        rw [List.nil_append, List.getElem?_map, List.getElem?_map, List.getElem?_range hj]
                        show some (rr j, vr_up _ _ _ (rr j)) = some (rr j, _)
                        have hr := z_rows (76 + j) (by omega) (by omega)
                        rw [vr_up_in (List.mem_map.mpr ⟨j, List.mem_range.mpr hj, rfl⟩), zc_cell_10 hr.1, hr.2]
                        simp
                      · rw [List.getElem?_eq_none (by rw [List.length_append, hlen]; simp [va_pl]; omega), List.getElem?_eq_none (by rw [zc_ws_len]; show 101 ≤ i; omega)]
                rw [ew] at hP1 hD1
                have := next (pc + 4) (.ref 75 :: r') _ 26 650 x1 y1 H1 locs ad1 (by show s.1 ≤ 101; omega) ha0 hrun rfl rfl (fun k j x hx => by
                  show x < 101
                  replace hx : (if k = 75 then (if j < 25 then some (76 + j) else none) else s.2.2.1 k j) = some x := hx
                  split at hx
                  · split at hx
                    · cases hx
                      omega
                    · cases hx
                  · have := hok k j x hx
                    omega) (zc_so_ref (show 75 < 101 by decide) (zc_so_mono (show s.1 ≤ 101 by omega) hso')) hP1 hD1 hS1
                rw [List.map_cons, zc_map hso' ha0] at this
                rw [show z_tv ad1 (.ref 75) = .ref q by simp [z_tv, ad1]] at this
                exact this
              · cases h0
            · cases h0
          · cases h0
        · cases h0
      · -- new
        rename_i idx
        dsimp only at hB hw
        rw [Bool.and_eq_true, Bool.and_eq_true, decide_eq_true_eq, decide_eq_true_eq, decide_eq_true_eq] at hB
        obtain ⟨⟨hB, hB2⟩, hB3⟩ := hB
        subst hB
        split at h0
        · rename_i hkd
          obtain ⟨x1, y1, hrun, rfl, rfl⟩ := zc_add_some h0
          have hfs : ∀ j, j < z_N a.1 → defaultValue (z_tyf a.1 j) = vp_V ((List.range (z_N a.1)).map (fun j => if z_isR a.1 j = true then Value.null else .int 0)) j := by
            intro j hj
            rw [zc_dflt a.1 hB2 j hj]
            unfold vp_V
            rw [List.getD_eq_getElem?_getD, List.getElem?_map, List.getElem?_range hj]
            rfl
          refine va_new (C := z_C a.1) (T := z_T a.1) (N := z_N a.1) (ci := a.1) (fs := (List.range (z_N a.1)).map (fun j => if z_isR a.1 j = true then Value.null else .int 0)) hx hb hts (hUI a.1 hB2) (z_tyf a.1) (z_tyok a.1 hB2) hown (hts _ (hw _ List.mem_cons_self)) (hts _ (hw _ (List.mem_cons_of_mem _ List.mem_cons_self))) (hts _ (hw _ (List.mem_cons_of_mem _ (List.mem_cons_of_mem _ List.mem_cons_self)))) hK hP hD hS hA (z_vwCl a.1 hB2) hfs (by omega) (by omega) hd (fun q H1 hP1 hD1 hS1 => ?_)
          have ew : zc_ws kc ad s ++ [(q, .inr (a.1, (List.range (z_N a.1)).map (fun j => if z_isR a.1 j = true then Value.null else .int 0)))] = zc_ws kc (fun k => if k = s.1 then q else ad k) (s.1 + 1, fun k => if k = s.1 then fun _ => 0 else s.2.1 k, fun k => if k = s.1 then fun _ => none else s.2.2.1 k, s.2.2.2) := by
            refine zc_ws_push rfl (if_pos rfl) ?_ (fun k hk => if_neg (by omega)) (fun k hk => zc_cell_cong (if_neg (by omega)) (if_neg (by omega)) rfl (fun j x hx => if_neg (by have := hok k j x hx; omega)))
            rw [zc_cell_obj hkd hB2]
            congr 2
            unfold zc_obj
            apply List.map_congr_left
            intro j _
            unfold zc_fv
            simp [va_rf]
          rw [ew] at hP1 hD1
          rw [← hB3]
          have := next (pc + 3) (.ref s.1 :: st) _ 1 a.2.1 x1 y1 H1 locs (fun k => if k = s.1 then q else ad k) (Nat.le_succ _) (fun k hk => if_neg (by omega)) hrun rfl rfl (fun k j x hx => by
            show x < s.1 + 1
            replace hx : (if k = s.1 then fun _ => none else s.2.2.1 k) j = some x := hx
            split at hx
            · cases hx
            · exact Nat.lt_succ_of_lt (hok k j x hx)) (zc_so_ref (Nat.lt_succ_self _) (zc_so_mono (Nat.le_succ _) hso)) hP1 hD1 hS1
          rw [List.map_cons, zc_map hso (fun k hk => if_neg (by omega))] at this
          rw [show z_tv (fun k => if k = s.1 then q else ad k) (.ref s.1) = .ref q by simp [z_tv]] at this
          exact this
        · cases h0
      · -- invokespecial
        rename_i idx
        try dsimp only at hB hw
        rw [Bool.and_eq_true, decide_eq_true_eq] at hB
        obtain ⟨hB, hB2⟩ := hB
        subst hB
        split at h0
        · rename_i x r' ha1
          split at h0
          · rename_i hcat
            rw [if_pos ha1] at hw
            refine W.objInit hx hb hown (hts _ (hw _ List.mem_cons_self)) (hts _ (hw _ (List.mem_cons_of_mem _ List.mem_cons_self))) (hts _ (hw _ (List.mem_cons_of_mem _ (List.mem_cons_of_mem _ List.mem_cons_self)))) rfl (by rw [hml]; exact hls) rfl hd (Nat.le_trans (zk_dep1 c) hfr) ?_ ?_
            · show 2 * 0 + ((r'.map (z_tv ad)).map fun v => v.category).sum + 12 ≤ R.locals
              rw [z_cats]
              have := zk_loc20 c
              omega
            · refine W.eq (g2 := F0 mi (pc + 3) ls (r'.map (z_tv ad))) rfl ?_
              exact next0 _ r' s H locs rfl h0 hok (zc_so_cons hso) hP hD hS
          · cases h0
        · rename_i x r' ha1
          split at h0
          · rename_i hxs
            split at h0
            · rename_i hcat
              split at h0
              · cases h0
              · rename_i s' cs1 sl1 hcall
                split at h0
                · rename_i hss'
                  obtain ⟨x1, y1, hrun, rfl, rfl⟩ := zc_add_some h0
                  rw [Bool.or_eq_true, decide_eq_true_eq] at hB2
                  have hB2 := hB2.resolve_left (by omega)
                  rw [Bool.and_eq_true, Bool.and_eq_true, Bool.and_eq_true, decide_eq_true_eq, decide_eq_true_eq, decide_eq_true_eq] at hB2
                  obtain ⟨⟨⟨hc5, -⟩, hc1⟩, hnest⟩ := hB2
                  rw [if_neg (by omega)] at hw
                  subst hc5
                  rw [List.any_eq_true] at hnest
                  obtain ⟨q9, hq9, hq9e⟩ := hnest
                  rw [decide_eq_true_eq] at hq9e
                  subst hq9e
                  have hnw := hE.2.2 _ hq9
                  have hM : zc_Met l D kc a.2.1 ad s s' x H.size cs1 sl1 := zc_metOf ih hcall (by omega) hok hxs
                  have hd7 := zk_hd a.2.1 (by omega)
                  have hG : GoodIn z_wl (zk_head a.2.1 :: z_wl) := fun w hw' => (List.mem_cons.mp hw').elim (fun e => by
                    have : w ∈ z_wl := by rw [e]; exact hw _ (List.mem_cons_of_mem _ (List.mem_cons_of_mem _ List.mem_cons_self))
                    exact ⟨this, z_wl_good _ this⟩) (fun h => ⟨h, z_wl_good _ h⟩)
                  have hdep : zk_dep a.2.1 = 1 := if_neg (by omega)
                  have hloc : zk_loc a.2.1 = 20 := if_neg (by omega)
                  have hfr5 : 2 ≤ R.frames := hfr
                  have hlo5 : 60 ≤ R.locals := hlo
                  have hml1 := zk_ml a.2.1 (by omega)
                  have hfree : ∀ q, zc_A ad s.1 H.size q → A q := by
                    intro q hq
                    rcases hq with ⟨i, hi, rfl⟩ | hq
                    · exact hD.2 i _ (zc_ws_get hi)
                    · exact hA q (Nat.le_trans hS.1 hq)
                  have hDc : va_D (zc_A ad s.1 H.size) (zc_ws kc ad s) := ⟨hD.1, fun k q hq => by
                    have hk : k < s.1 := by
                      have := (List.getElem?_eq_some_iff.mp hq).1
                      rw [zc_ws_len] at this
                      exact this
                    rw [zc_ws_get hk] at hq
                    cases hq
                    exact Or.inl ⟨k, hk, rfl⟩⟩
                  refine va_callv (va_runIN (As := []) (rest := r'.map (z_tv ad)) (nL := zk_maxL 5) ⟨hx, hb, hml, hown, hts⟩ hM ⟨va_cnB 0 hts hG rfl rfl rfl hnw (hts _ (hw _ (List.mem_cons_of_mem _ List.mem_cons_self))) hd7 ⟨by show zk_dep a.2.1 + 1 ≤ R.frames; omega, by show 8 + (zk_maxL a.2.1 + 11) + zk_loc a.2.1 ≤ R.locals; omega⟩, zk_nm a.2.1 (by omega), hts _ (hw _ List.mem_cons_self)⟩ ⟨zc_blind, fun U hU hW => ⟨rfl, by rw [hU], zc_E.warm hW hE, by rw [hU]; exact hP, hDc⟩⟩ rfl rfl hls rfl (lv_room (by rw [z_cats]; exact hcat)) hd ⟨by omega, by omega⟩) hS (fun q _ h => hfree q h) hfree (fun ad' t H1 locs1 ht hvm hag hBB hz1 hk1 hS1 => ?_)
                  obtain ⟨hP1, hD1, hle1, hok1⟩ := hBB
                  rw [ht] at hP1
                  have := next (pc + 3) r' s' cs1 sl1 x1 y1 H1 locs1 ad' hss' hag hrun rfl rfl hok1 (zc_so_mono hss' (zc_so_cons hso)) hP1 (hD1.weaken (fun _ q _ h => hfree _ h)) hS1
                  rw [zc_map (zc_so_cons hso) hag] at this
                  exact this
                · cases h0
            · cases h0
          · cases h0
        · cases h0
      · -- putfield
        rename_i idx
        try dsimp only at hB hw
        rw [Bool.and_eq_true, Bool.and_eq_true, Bool.and_eq_true, Bool.and_eq_true, Bool.and_eq_true, decide_eq_true_eq, decide_eq_true_eq, decide_eq_true_eq, decide_eq_true_eq, decide_eq_true_eq] at hB
        obtain ⟨⟨⟨⟨⟨hB, ha7⟩, hjn⟩, hir⟩, hCo⟩, hty⟩ := hB
        subst hB
        have hdc := z_decl a.1 ha7 a.2.1 hjn
        have go : ∀ (q : Nat) (r' : List Value) (v : Value) (s' : zcS) (ty : FieldType), z_kind q = a.1 → q < s.1 → parseFieldDescriptor (z_T a.1 a.2.1).2.2.1 = some ty → narrow ty (z_tv ad v) = z_tv ad v → fits ty (z_tv ad v) = true → zc_fv ad s' a.1 q a.2.1 = z_tv ad v → (∀ i, i ≠ a.2.1 → zc_fv ad s' a.1 q i = zc_fv ad s a.1 q i) → (∀ x, x ≠ q → s'.2.1 x = s.2.1 x ∧ s'.2.2.1 x = s.2.2.1 x) → s'.2.2.2 = s.2.2.2 → s'.1 = s.1 → zc_ok s' → zc_so s.1 r' → zc_run n c h (pc + 3) r' s' = some (r, cs, sl) → W p l e R S mi args below meth cd H locs cells slots Q (F0 mi pc ls ((v :: Value.ref q :: r').map (z_tv ad))) := by
          intro q r' v s' ty hq hqs hp hnr hft hv ho hx2 hx3 hn' hok' hso' hrun
          have he : (zc_ws kc ad s)[q]? = some (ad q, .inr (a.1, zc_obj ad s a.1 q)) := by rw [zc_ws_get hqs, zc_cell_obj hq ha7]
          have fin : ∀ (H1 : Heap) (locs1 : List Loc), va_P D vwCl ((zc_ws kc ad s).set q (ad q, .inr (a.1, (zc_obj ad s a.1 q).set a.2.1 (z_tv ad v)))) H1 → va_D A ((zc_ws kc ad s).set q (ad q, .inr (a.1, (zc_obj ad s a.1 q).set a.2.1 (z_tv ad v)))) → va_S A S.heap H1 locs1 → W p l e R S mi args below meth cd H1 locs1 cells slots Q (F0 mi (pc + 3) ls (r'.map (z_tv ad))) := by
            intro H1 locs1 hP1 hD1 hS1
            have ew : (zc_ws kc ad s).set q (ad q, .inr (a.1, (zc_obj ad s a.1 q).set a.2.1 (z_tv ad v))) = zc_ws kc ad s' := by
              rw [zc_obj_set hv ho]
              exact zc_ws_set hn' hqs (zc_cell_obj hq ha7) (fun k _ hkq => zc_cell_cong (hx2 k hkq).1 (hx2 k hkq).2 (by rw [hx3]) (fun _ _ _ => rfl))
            rw [ew] at hP1 hD1
            exact next0 _ r' s' H1 locs1 hn' hrun hok' hso' hP1 hD1 hS1
          cases hfin : (z_T a.1 a.2.1).2.2.2 with
          | true => exact va_putF (C := z_C a.1) (T := z_T a.1) (N := z_N a.1) (ref := z_C a.1) (index := idx) hx hb hts (hUI a.1 ha7) (z_tyf a.1) (z_tyok a.1 ha7) (z_nm a.1 ha7) hown hK hP hD hS q he (z_vwCl a.1 ha7) a.2.1 hjn (hts _ (hw _ List.mem_cons_self)) (by rw [hdc]; exact fun x hx => hx) hfin hnm (by rw [hdc]; exact hCo) hp hnr hft (by rw [zc_obj_len]; exact hjn) hd fin
          | false => exact va_put (C := z_C a.1) (T := z_T a.1) (N := z_N a.1) (ref := z_C a.1) (index := idx) hx hb hts (hUI a.1 ha7) (z_tyf a.1) (z_tyok a.1 ha7) (z_nm a.1 ha7) hown hK hP hD hS q he (z_vwCl a.1 ha7) a.2.1 hjn (hts _ (hw _ List.mem_cons_self)) (by rw [hdc]; exact fun x hx => hx) hfin hp hnr hft (by rw [zc_obj_len]; exact hjn) hd fin
        have num : ∀ (ty : FieldType) (x : Int32) (q : Nat) (r' : List Value), z_isR a.1 a.2.1 = false → parseFieldDescriptor (z_T a.1 a.2.1).2.2.1 = some ty → narrow ty (.int x) = .int x → fits ty (.int x) = true → z_kind q = a.1 → q < s.1 → zc_so s.1 r' → zc_run n c h (pc + 3) r' (s.1, z_up s.2.1 q a.2.1 x, s.2.2) = some (r, cs, sl) → W p l e R S mi args below meth cd H locs cells slots Q (F0 mi pc ls ((Value.int x :: Value.ref q :: r').map (z_tv ad))) := by
          intro ty x q r' h1 hp hnr hft hq hqs hso' hrun
          refine go q r' (.int x) (s.1, z_up s.2.1 q a.2.1 x, s.2.2) ty hq hqs hp hnr hft ?_ ?_ ?_ rfl rfl hok hso' hrun
          · unfold zc_fv
            rw [h1]
            simp [z_up, z_tv]
          · intro i hi
            unfold zc_fv
            simp [z_up, hi]
          · intro y hyq
            exact ⟨z_upo hyq, rfl⟩
        split at h0
        · rename_i x q r' ha2
          rw [ha2] at hir hty
          split at h0
          · rename_i hq
            split at h0
            · rename_i hqs
              split at h0
              · rename_i hxs
                have hso' := zc_so_cons (zc_so_cons hso)
                have hty' : ∃ ty, parseFieldDescriptor (z_T a.1 a.2.1).2.2.1 = some ty ∧ ((∃ C, ty = .object C) ∨ ∃ t, ty = .array t) := by
                  replace hty : (match parseFieldDescriptor (z_T a.1 a.2.1).2.2.1 with
                    | some (.object _) => true
                    | some (.array _) => true
                    | _ => false) = true := hty
                  split at hty
                  · rename_i C hC
                    exact ⟨_, hC, Or.inl ⟨_, rfl⟩⟩
                  · rename_i C hC
                    exact ⟨_, hC, Or.inr ⟨_, rfl⟩⟩
                  · cases hty
                obtain ⟨ty, hp, hk2⟩ := hty'
                refine go q r' (.ref x) (s.1, s.2.1, z_up s.2.2.1 q a.2.1 (some x), s.2.2.2) ty hq hqs hp (by rcases hk2 with ⟨C, rfl⟩ | ⟨t, rfl⟩ <;> rfl) (by rcases hk2 with ⟨C, rfl⟩ | ⟨t, rfl⟩ <;> rfl) ?_ ?_ ?_ rfl rfl ?_ hso' h0
                · unfold zc_fv
                  rw [hir]
                  simp [z_up, z_tv, va_rf]
                · intro i hi
                  unfold zc_fv
                  simp [z_up, hi]
                · intro y hyq
                  exact ⟨rfl, z_upo hyq⟩
                · intro k j y hy
                  show y < s.1
                  replace hy : z_up s.2.2.1 q a.2.1 (some x) k j = some y := hy
                  unfold z_up at hy
                  split at hy
                  · cases hy
                    exact hxs
                  · exact hok k j y hy
              · cases h0
            · cases h0
          · cases h0
        · rename_i x q r' ha2
          rw [ha2] at hir hty
          replace hty : decide ((z_T a.1 a.2.1).2.2.1 = "I") = true := hty
          rw [decide_eq_true_eq] at hty
          split at h0
          · rename_i hq
            split at h0
            · rename_i hqs
              exact num .int x q r' (by rw [hir]; rfl) (by rw [hty]; rfl) rfl rfl hq hqs (zc_so_cons (zc_so_cons hso)) h0
            · cases h0
          · cases h0
        · rename_i x q r' ha2
          rw [ha2] at hir hty
          replace hty : decide ((z_T a.1 a.2.1).2.2.1 = "Z") = true := hty
          rw [decide_eq_true_eq] at hty
          split at h0
          · rename_i hq
            split at h0
            · rename_i hqs
              split at h0
              · rename_i h01
                exact num .boolean x q r' (by rw [hir]; rfl) (by rw [hty]; rfl) (by rcases h01 with rfl | rfl <;> rfl) (by rcases h01 with rfl | rfl <;> rfl) hq hqs (zc_so_cons (zc_so_cons hso)) h0
              · cases h0
            · cases h0
          · cases h0
        · cases h0
      · -- getfield
        rename_i idx
        try dsimp only at hB hw
        rw [Bool.and_eq_true, Bool.and_eq_true, Bool.and_eq_true, decide_eq_true_eq, decide_eq_true_eq, decide_eq_true_eq] at hB
        obtain ⟨⟨⟨hB, ha7⟩, hjn⟩, hir⟩ := hB
        subst hB
        have hdc := z_decl a.1 ha7 a.2.1 hjn
        split at h0
        · rename_i q r'
          split at h0
          · rename_i hq
            split at h0
            · rename_i hqs
              split at h0
              · rename_i x hRx
                have he : (zc_ws kc ad s)[q]? = some (ad q, .inr (a.1, zc_obj ad s a.1 q)) := by rw [zc_ws_get hqs, zc_cell_obj hq ha7]
                exact va_get (C := z_C a.1) (T := z_T a.1) (N := z_N a.1) (ref := z_C a.1) (index := idx) hx hb hts (hUI a.1 ha7) hown hK hP q he (z_vwCl a.1 ha7) a.2.1 hjn (hts _ (hw _ List.mem_cons_self)) (by rw [hdc]; exact fun x hx => hx) (v := .ref (ad x)) (by rw [zc_obj_get hjn]; unfold zc_fv; rw [hir, hRx]; rfl) hd (next0 _ (.ref x :: r') s H locs rfl h0 hok (zc_so_ref (hok q a.2.1 x hRx) (zc_so_cons hso)) hP hD hS)
              · cases h0
            · cases h0
          · cases h0
        · cases h0
      · -- iastore
        try dsimp only at hB
        rw [decide_eq_true_eq] at hB
        subst hB
        split at h0
        · rename_i x i q r'
          split at h0
          · rename_i hq
            split at h0
            · rename_i hqs
              split at h0
              · rename_i hin
                refine va_iast hx hb hK hP hD hS q 0 (by rw [zc_ws_get hqs, zc_cell_10 hq]) rfl hin hd (fun H1 locs1 hP1 hD1 hS1 => ?_)
                have ew : (zc_ws kc ad s).set q (ad q, .inl (kc 10, z_len q, .inl (upd (s.2.2.2 q) i.toNatClampNeg x))) = zc_ws kc ad (s.1, s.2.1, s.2.2.1, z_up s.2.2.2 q i.toNatClampNeg x) := zc_ws_set rfl hqs (by rw [zc_cell_10 hq]; simp only [z_upd]) (fun k _ hkq => zc_cell_cong rfl rfl (z_upo hkq) (fun _ _ _ => rfl))
                rw [ew] at hP1 hD1
                exact next0 _ r' (s.1, s.2.1, s.2.2.1, z_up s.2.2.2 q i.toNatClampNeg x) H1 locs1 rfl h0 hok (zc_so_cons (zc_so_cons (zc_so_cons hso))) hP1 hD1 hS1
              · cases h0
            · cases h0
          · cases h0
        · cases h0
      · -- return
        try dsimp only at hB
        rw [decide_eq_true_eq] at hB
        subst hB
        split at h0
        · cases h0
          exact kk pc H locs ad (fun _ _ => rfl) (Nat.le_refl _) hok hP hD hS hd
        · cases h0
      · cases h0
end
