theorem zj_f38 : Jvm.Cond.fieldLink RJ0 38 RJ0 "COMPACT_STRINGS" "Z" ∈ z_wl := List.mem_filter.mpr ⟨List.mem_of_getElem? (i := 766) (by decide +kernel), by decide +kernel⟩
theorem zj_f15 : Jvm.Cond.fieldLink RJ0 15 RJ0 "coder" "B" ∈ z_wl := List.mem_filter.mpr ⟨List.mem_of_getElem? (i := 1736) (by decide +kernel), by decide +kernel⟩
theorem zj_f9 : Jvm.Cond.fieldLink RJ0 9 RJ0 "value" "[B" ∈ z_wl := List.mem_filter.mpr ⟨List.mem_of_getElem? (i := 1735) (by decide +kernel), by decide +kernel⟩
theorem zj_f1053 : Jvm.Cond.fieldLink RJ0 1053 RJ3 "SIOOBE_FORMATTER" "Ljava/util/function/BiFunction;" ∈ z_wl := List.mem_filter.mpr ⟨List.mem_of_getElem? (i := 782) (by decide +kernel), by decide +kernel⟩
theorem zj_c_len : Jvm.Cond.code yJ0_length_8abf5 cJ0_length_8abf5 1 (some .int) ∈ z_wl := List.mem_filter.mpr ⟨List.mem_of_getElem? (i := 761) (by decide +kernel), by decide +kernel⟩
theorem zj_c_cA : Jvm.Cond.code yJ0_charAt_5068e cJ0_charAt_5068e 2 (some .char) ∈ z_wl := List.mem_filter.mpr ⟨List.mem_of_getElem? (i := 771) (by decide +kernel), by decide +kernel⟩
theorem zj_c_cod : Jvm.Cond.code yJ0_coder_7d493 cJ0_coder_7d493 1 (some .byte) ∈ z_wl := List.mem_filter.mpr ⟨List.mem_of_getElem? (i := 765) (by decide +kernel), by decide +kernel⟩
theorem zj_c_isL : Jvm.Cond.code yJ0_isLatin1_aae02 cJ0_isLatin1_aae02 1 (some .boolean) ∈ z_wl := List.mem_filter.mpr ⟨List.mem_of_getElem? (i := 775) (by decide +kernel), by decide +kernel⟩
theorem zj_c_cI : Jvm.Cond.code yJ0_checkIndex_df160 cJ0_checkIndex_df160 2 none ∈ z_wl := List.mem_filter.mpr ⟨List.mem_of_getElem? (i := 781) (by decide +kernel), by decide +kernel⟩
theorem zj_c_lA : Jvm.Cond.code yJ1_charAt_3b067 cJ1_charAt_3b067 2 (some .char) ∈ z_wl := List.mem_filter.mpr ⟨List.mem_of_getElem? (i := 778) (by decide +kernel), by decide +kernel⟩
theorem zj_c_pI : Jvm.Cond.code yJ3_checkIndex_8e157 cJ3_checkIndex_8e157 3 (some .int) ∈ z_wl := List.mem_filter.mpr ⟨List.mem_of_getElem? (i := 786) (by decide +kernel), by decide +kernel⟩
theorem zj_i_len : Jvm.Cond.instanceMethod yJ0_length_8abf5 ∈ z_wl := List.mem_filter.mpr ⟨List.mem_of_getElem? (i := 759) (by decide +kernel), by decide +kernel⟩
theorem zj_s_len : Jvm.Cond.selects RJ0 yJ0_length_8abf5 yJ0_length_8abf5 ∈ z_wl := List.mem_filter.mpr ⟨List.mem_of_getElem? (i := 760) (by decide +kernel), by decide +kernel⟩
theorem zj_i_cA : Jvm.Cond.instanceMethod yJ0_charAt_5068e ∈ z_wl := List.mem_filter.mpr ⟨List.mem_of_getElem? (i := 769) (by decide +kernel), by decide +kernel⟩
theorem zj_s_cA : Jvm.Cond.selects RJ0 yJ0_charAt_5068e yJ0_charAt_5068e ∈ z_wl := List.mem_filter.mpr ⟨List.mem_of_getElem? (i := 770) (by decide +kernel), by decide +kernel⟩
theorem zj_i_cod : Jvm.Cond.instanceMethod yJ0_coder_7d493 ∈ z_wl := List.mem_filter.mpr ⟨List.mem_of_getElem? (i := 763) (by decide +kernel), by decide +kernel⟩
theorem zj_s_cod : Jvm.Cond.selects RJ0 yJ0_coder_7d493 yJ0_coder_7d493 ∈ z_wl := List.mem_filter.mpr ⟨List.mem_of_getElem? (i := 764) (by decide +kernel), by decide +kernel⟩
theorem zj_i_isL : Jvm.Cond.instanceMethod yJ0_isLatin1_aae02 ∈ z_wl := List.mem_filter.mpr ⟨List.mem_of_getElem? (i := 773) (by decide +kernel), by decide +kernel⟩
theorem zj_s_isL : Jvm.Cond.selects RJ0 yJ0_isLatin1_aae02 yJ0_isLatin1_aae02 ∈ z_wl := List.mem_filter.mpr ⟨List.mem_of_getElem? (i := 774) (by decide +kernel), by decide +kernel⟩
theorem zj_t_cI : Jvm.Cond.static yJ0_checkIndex_df160 ∈ z_wl := List.mem_filter.mpr ⟨List.mem_of_getElem? (i := 780) (by decide +kernel), by decide +kernel⟩
theorem zj_t_lA : Jvm.Cond.static yJ1_charAt_3b067 ∈ z_wl := List.mem_filter.mpr ⟨List.mem_of_getElem? (i := 777) (by decide +kernel), by decide +kernel⟩
theorem zj_t_pI : Jvm.Cond.static yJ3_checkIndex_8e157 ∈ z_wl := List.mem_filter.mpr ⟨List.mem_of_getElem? (i := 785) (by decide +kernel), by decide +kernel⟩
theorem zj_n0 : Jvm.Cond.initialized RJ0 ∈ z_wl := List.mem_filter.mpr ⟨List.mem_of_getElem? (i := 127) (by decide +kernel), by decide +kernel⟩
theorem zj_n1 : Jvm.Cond.initialized RJ1 ∈ z_wl := List.mem_filter.mpr ⟨List.mem_of_getElem? (i := 128) (by decide +kernel), by decide +kernel⟩
theorem zj_n3 : Jvm.Cond.initialized RJ3 ∈ z_wl := List.mem_filter.mpr ⟨List.mem_of_getElem? (i := 129) (by decide +kernel), by decide +kernel⟩
theorem zj_m144 : Jvm.Cond.methodLink RX3 144 yJ0_length_8abf5 ∈ z_wl := List.mem_filter.mpr ⟨List.mem_of_getElem? (i := 758) (by decide +kernel), by decide +kernel⟩
theorem zj_m150 : Jvm.Cond.methodLink RX3 150 yJ0_charAt_5068e ∈ z_wl := List.mem_filter.mpr ⟨List.mem_of_getElem? (i := 768) (by decide +kernel), by decide +kernel⟩
theorem zj_m335 : Jvm.Cond.methodLink RJ0 335 yJ0_coder_7d493 ∈ z_wl := List.mem_filter.mpr ⟨List.mem_of_getElem? (i := 762) (by decide +kernel), by decide +kernel⟩
theorem zj_m492 : Jvm.Cond.methodLink RJ0 492 yJ0_isLatin1_aae02 ∈ z_wl := List.mem_filter.mpr ⟨List.mem_of_getElem? (i := 772) (by decide +kernel), by decide +kernel⟩
theorem zj_m495 : Jvm.Cond.methodLink RJ0 495 yJ1_charAt_3b067 ∈ z_wl := List.mem_filter.mpr ⟨List.mem_of_getElem? (i := 776) (by decide +kernel), by decide +kernel⟩
theorem zj_m9 : Jvm.Cond.methodLink RJ1 9 yJ0_checkIndex_df160 ∈ z_wl := List.mem_filter.mpr ⟨List.mem_of_getElem? (i := 779) (by decide +kernel), by decide +kernel⟩
theorem zj_m1059 : Jvm.Cond.methodLink RJ0 1059 yJ3_checkIndex_8e157 ∈ z_wl := List.mem_filter.mpr ⟨List.mem_of_getElem? (i := 784) (by decide +kernel), by decide +kernel⟩
def zj_E (adK adV : Nat → Nat) (U : State) (H : Heap) : Prop := vk_S 5 z_lens z_byts adK adV (fun _ => False) U H ∧ va_Z RJ0 "COMPACT_STRINGS" "Z" (.int 1) (fun _ => False) U H ∧ va_Zq RJ3 "SIOOBE_FORMATTER" "Ljava/util/function/BiFunction;" (fun _ => False) U H
theorem zj_E.mv {adK adV : Nat → Nat} {u U : State} {H : Heap} (hvm : u.vm.Alike U.vm) (h : zj_E adK adV u H) : zj_E adK adV U H := ⟨vk_S.moved hvm h.1, va_Z.moved hvm h.2.1, va_Zq.moved hvm h.2.2⟩
def zj_Pc (adK adV : Nat → Nat) (vals : List Value) : Array Value → State → Prop := va_Pc vals (fun U => zj_E adK adV U U.heap)
theorem zj_blind {adK adV : Nat → Nat} {vals : List Value} : FrameBlind (zj_Pc adK adV vals) := fun a U g mk h => by
  obtain ⟨h1, h2⟩ := h
  have h3 : zj_E adK adV (U.calling g mk a) U.heap := zj_E.mv (u := U) (U := U.calling g mk a) (Vm.Alike.refl U.vm) h2
  exact ⟨h1, h3⟩
def zj_Q (v : Option Value) : Array Value → State → Outcome → State → Prop := fun _ st oc t => oc = .returned v ∧ t.heap = st.heap
def zj_M (l : Launch) (adK adV : Nat → Nat) (y : MethodName) (bytes : ByteArray) (maxL : Nat) (ret : Option FieldType) (fr lo : Nat) (vals : List Value) (v : Option Value) : Prop := Met l y (.code y bytes maxL ret :: z_wl) ({ frames := fr, cells := 0, slots := 0, locals := lo } : Room) (zj_Pc adK adV vals) (zj_Q v) 0 0 (fun _ => False)
theorem zj_good {w : Jvm.Cond} (h : w ∈ z_wl) : GoodIn z_wl (w :: z_wl) := fun x hx => (List.mem_cons.mp hx).elim (fun e => by rw [e]; exact ⟨h, z_wl_good _ h⟩) (fun k => ⟨k, z_wl_good _ k⟩)
section
variable {p : Program} {l : Launch} {e : Env} {R : Room} {s : State} {m : MethodId} {args : Array Value} {below : List Frame} {meth : Method} {c : Code} {H : Heap} {locs : List Loc} {cells slots : Nat} {Q : State → Prop} {adK adV : Nat → Nat}
theorem zj_after {pc : Nat} {ls : Array Slot} {st0 rest : List Value} {v : Option Value} {a : Array Value} (hr : va_Run p l e R s m args below meth c H locs cells slots 0 0 (F0 m pc ls st0) rest (zj_Q v a) (fun _ => False)) (kk : W p l e R s m args below meth c H locs cells slots Q (F0 m (pc + 3) ls (v.toList ++ rest))) : W p l e R s m args below meth c H locs cells slots Q (F0 m pc ls st0) := by
  intro T hT X
  obtain ⟨v', st₀, t, T', L, h0, X', hL, e1, e2, ⟨hv, hh⟩, st⟩ := hr T hT X
  cases hv
  have hL0 : L = [] := List.eq_nil_iff_forall_not_mem.mpr fun q hq => hL q hq
  subst hL0
  rw [List.append_nil] at X'
  obtain ⟨t2, a1, b1⟩ := kk T' (e1.trans (hh.trans h0)) X'
  exact ⟨t2, st t2 a1, b1⟩
theorem zj_cb {own : String} {index maxL fr lo : Nat} {y : MethodName} {bytes : ByteArray} {ret : Option FieldType} (n : Nat) (hts : ∀ w ∈ z_wl, w.before args s = true) (h1 : Jvm.Cond.code y bytes maxL ret ∈ z_wl) (h2 : Jvm.Cond.methodLink own index y ∈ z_wl) (h3 : Jvm.Cond.initialized y.cls ∈ z_wl) (hd : y.cls ≠ "java/lang/invoke/MethodHandle" ∧ y.cls ≠ "java/lang/invoke/VarHandle" ∧ (parseMethodDescriptor y.desc).map (fun d => d.parameters.length) = some n) (hR : fr + 1 ≤ R.frames ∧ 8 + (maxL + 11) + lo ≤ R.locals) : CallB R s args own index y bytes maxL ret (.code y bytes maxL ret :: z_wl) ({ frames := fr, cells := 0, slots := 0, locals := lo } : Room) 0 0 n := callB_of n hts (zj_good h1) rfl rfl rfl (hts _ h3) (hts _ h2) hd hR
theorem zj_pre {vals : List Value} (hE : zj_E adK adV s H) : PreS s H (zj_Pc adK adV vals) vals := ⟨zj_blind, fun U hU hW => ⟨rfl, by show zj_E adK adV U U.heap; rw [hU]; exact zj_E.mv hW.alike hE⟩⟩
theorem zj_preV {vals : List Value} {i : Nat} (hi : i < 5) (hE : zj_E adK adV s H) (hrec : ∃ cell : Cell, H[adK i]? = some cell ∧ cell.vm.isStatics = false ∧ s.vm.findClass RJ0 = some cell.cls) : PreV s H RJ0 (adK i) (zj_Pc adK adV (.ref (adK i) :: vals)) vals := ⟨zj_blind, hrec, fun U hU hW => ⟨rfl, by show zj_E adK adV U U.heap; rw [hU]; exact zj_E.mv hW.alike hE⟩⟩
theorem zj_rec {i : Nat} (hi : i < 5) (hE : zj_E adK adV s s.heap) : ∃ cell : Cell, s.heap[adK i]? = some cell ∧ cell.vm.isStatics = false ∧ s.vm.findClass RJ0 = some cell.cls := vk_recv hE.1 hi (va_S.rf : va_S (fun _ => False) s.heap s.heap [])
end
section
variable {l : Launch} {adK adV : Nat → Nat}
set_option maxHeartbeats 1000000 in
theorem zj_M_cod {i : Nat} (hi : i < 5) : zj_M l adK adV yJ0_coder_7d493 cJ0_coder_7d493 1 (some .byte) 1 0 [.ref (adK i)] (some (.int 0)) := by
  refine Met.ofW (cc := cJ0_coder_7d493) (maxL := 1) (ret := (some .byte)) (by decide +kernel) rfl ?_
  intro p e s m args below meth cd s₁ B hml hv
  obtain ⟨rfl, hE⟩ := hv
  have hts0 := atoms_spec (ws := Jvm.Cond.code yJ0_coder_7d493 cJ0_coder_7d493 1 (some .byte) :: z_wl) B.pre
  have hts : ∀ w ∈ z_wl, w.before _ s = true := fun w hw => hts0 w (List.mem_cons_of_mem _ hw)
  have hown : s.vm.findClass RJ0 = some m.cls := findClass_of_methodNamed B.named
  have hx := B.exec
  have hb := B.bytes
  have hl := lv_entry ([.ref (adK i)]) (n := 1) (Nat.le_of_ble_eq_true rfl)
  rw [lg_entry_eq]
  generalize (lg_sl ([.ref (adK i)]) ++ List.replicate (1 - (lg_sl ([.ref (adK i)])).length) Slot.unset).toArray = ls at hl ⊢
  have hl : lv_has ls 1 [(0, .ref (adK i))] := hl
  refine va_gets hx hb hE.2.1 va_S.rf hown (hts _ zj_f38) (fun x hx => hx) (show decode cJ0_coder_7d493 0 = .ok (.getstatic 38, 3) by decide +kernel) ?_
  refine lv_if_eq hx hb (show decode cJ0_coder_7d493 3 = .ok (.ifCond .eq 10, 3) by decide +kernel) (tgt := 13) rfl (fun q => absurd q (by decide)) (fun _ => ?_)
  refine lv_aload_n hx hb (show decode cJ0_coder_7d493 6 = .ok (.aload_n 0, 1) by decide +kernel) rfl (lv_at hl 0 rfl) ?_
  refine vk_getf hx hb ((hE.1.1 i hi).2.1) va_S.rf hown (hts _ zj_f15) (fun x hx => hx) (show decode cJ0_coder_7d493 7 = .ok (.getfield 15, 3) by decide +kernel) ?_
  refine lv_goto hx hb (show decode cJ0_coder_7d493 10 = .ok (.goto 4, 3) by decide +kernel) (tgt := 14) rfl ?_
  exact W.zret hx hb B.returns rfl (fun t ht hW => ⟨rfl, ht⟩) (fun _ h => by cases h) (show decode cJ0_coder_7d493 14 = .ok (.ireturn, 1) by decide +kernel)

set_option maxHeartbeats 1000000 in
theorem zj_M_isL {i : Nat} (hi : i < 5) : zj_M l adK adV yJ0_isLatin1_aae02 cJ0_isLatin1_aae02 1 (some .boolean) 1 0 [.ref (adK i)] (some (.int 1)) := by
  refine Met.ofW (cc := cJ0_isLatin1_aae02) (maxL := 1) (ret := (some .boolean)) (by decide +kernel) rfl ?_
  intro p e s m args below meth cd s₁ B hml hv
  obtain ⟨rfl, hE⟩ := hv
  have hts0 := atoms_spec (ws := Jvm.Cond.code yJ0_isLatin1_aae02 cJ0_isLatin1_aae02 1 (some .boolean) :: z_wl) B.pre
  have hts : ∀ w ∈ z_wl, w.before _ s = true := fun w hw => hts0 w (List.mem_cons_of_mem _ hw)
  have hown : s.vm.findClass RJ0 = some m.cls := findClass_of_methodNamed B.named
  have hx := B.exec
  have hb := B.bytes
  have hl := lv_entry ([.ref (adK i)]) (n := 1) (Nat.le_of_ble_eq_true rfl)
  rw [lg_entry_eq]
  generalize (lg_sl ([.ref (adK i)]) ++ List.replicate (1 - (lg_sl ([.ref (adK i)])).length) Slot.unset).toArray = ls at hl ⊢
  have hl : lv_has ls 1 [(0, .ref (adK i))] := hl
  refine va_gets hx hb hE.2.1 va_S.rf hown (hts _ zj_f38) (fun x hx => hx) (show decode cJ0_isLatin1_aae02 0 = .ok (.getstatic 38, 3) by decide +kernel) ?_
  refine lv_if_eq hx hb (show decode cJ0_isLatin1_aae02 3 = .ok (.ifCond .eq 14, 3) by decide +kernel) (tgt := 17) rfl (fun q => absurd q (by decide)) (fun _ => ?_)
  refine lv_aload_n hx hb (show decode cJ0_isLatin1_aae02 6 = .ok (.aload_n 0, 1) by decide +kernel) rfl (lv_at hl 0 rfl) ?_
  refine vk_getf hx hb ((hE.1.1 i hi).2.1) va_S.rf hown (hts _ zj_f15) (fun x hx => hx) (show decode cJ0_isLatin1_aae02 7 = .ok (.getfield 15, 3) by decide +kernel) ?_
  refine lv_if_ne hx hb (show decode cJ0_isLatin1_aae02 10 = .ok (.ifCond .ne 7, 3) by decide +kernel) (tgt := 17) rfl (fun q => absurd rfl q) (fun _ => ?_)
  refine lv_iconst hx hb (show decode cJ0_isLatin1_aae02 13 = .ok (.iconst 1, 1) by decide +kernel) rfl ?_
  refine lv_goto hx hb (show decode cJ0_isLatin1_aae02 14 = .ok (.goto 4, 3) by decide +kernel) (tgt := 18) rfl ?_
  exact W.zret hx hb B.returns rfl (fun t ht hW => ⟨rfl, ht⟩) (fun _ h => by cases h) (show decode cJ0_isLatin1_aae02 18 = .ok (.ireturn, 1) by decide +kernel)

set_option maxHeartbeats 1000000 in
theorem zj_M_len {i : Nat} (hi : i < 5) : zj_M l adK adV yJ0_length_8abf5 cJ0_length_8abf5 1 (some .int) 2 30 [.ref (adK i)] (some (.int (Int32.ofNat (z_lens.getD i 0)))) := by
  refine Met.ofW (cc := cJ0_length_8abf5) (maxL := 1) (ret := (some .int)) (by decide +kernel) rfl ?_
  intro p e s m args below meth cd s₁ B hml hv
  obtain ⟨rfl, hE⟩ := hv
  have hts0 := atoms_spec (ws := Jvm.Cond.code yJ0_length_8abf5 cJ0_length_8abf5 1 (some .int) :: z_wl) B.pre
  have hts : ∀ w ∈ z_wl, w.before _ s = true := fun w hw => hts0 w (List.mem_cons_of_mem _ hw)
  have hown : s.vm.findClass RJ0 = some m.cls := findClass_of_methodNamed B.named
  have hx := B.exec
  have hb := B.bytes
  have hl := lv_entry ([.ref (adK i)]) (n := 1) (Nat.le_of_ble_eq_true rfl)
  rw [lg_entry_eq]
  generalize (lg_sl ([.ref (adK i)]) ++ List.replicate (1 - (lg_sl ([.ref (adK i)])).length) Slot.unset).toArray = ls at hl ⊢
  have hl : lv_has ls 1 [(0, .ref (adK i))] := hl
  refine lv_aload_n hx hb (show decode cJ0_length_8abf5 0 = .ok (.aload_n 0, 1) by decide +kernel) rfl (lv_at hl 0 rfl) ?_
  refine vk_getf hx hb ((hE.1.1 i hi).2.2.1) va_S.rf hown (hts _ zj_f9) (fun x hx => hx) (show decode cJ0_length_8abf5 1 = .ok (.getfield 9, 3) by decide +kernel) ?_
  refine va_tlen hx hb ((hE.1.1 i hi).2.2.2) va_S.rf rfl (show decode cJ0_length_8abf5 4 = .ok (.arraylength, 1) by decide +kernel) ?_
  refine lv_aload_n hx hb (show decode cJ0_length_8abf5 5 = .ok (.aload_n 0, 1) by decide +kernel) rfl (lv_at hl 0 rfl) ?_
  refine zj_after (va_runV (As := []) (rest := [.int (Int32.ofNat (z_lens.getD i 0))]) (nL := 1) ⟨hx, hb, hml, hown, hts⟩ (zj_M_cod hi) ⟨zj_cb 0 hts zj_c_cod zj_m335 zj_n0 (by decide +kernel) ⟨by show _ ≤ 2; decide, by show _ ≤ 30; decide⟩, hts _ zj_i_cod, hts _ zj_s_cod⟩ (zj_preV hi hE (zj_rec hi hE)) rfl rfl hl.1 rfl (lv_room (Nat.le_of_ble_eq_true rfl)) (show decode cJ0_length_8abf5 6 = .ok (.invokevirtual 335, 3) by decide +kernel) ⟨Nat.le_refl _, Nat.le_refl _⟩) ?_
  refine lv_ishr hx hb (show decode cJ0_length_8abf5 9 = .ok (.ishr, 1) by decide +kernel) ?_
  refine W.eq (g2 := F0 m 10 ls [.int (Int32.ofNat (z_lens.getD i 0))]) (by
    have : ∀ i, i < 5 → (Int32.ofNat (z_lens.getD i 0)) >>> ((0 : Int32) &&& 31) = Int32.ofNat (z_lens.getD i 0) := by decide +kernel
    show F0 m 10 ls [.int (Int32.ofNat (z_lens.getD i 0) >>> ((0 : Int32) &&& 31))] = _
    rw [this i hi]) ?_
  exact W.zret hx hb B.returns rfl (fun t ht hW => ⟨rfl, ht⟩) (fun _ h => by cases h) (show decode cJ0_length_8abf5 10 = .ok (.ireturn, 1) by decide +kernel)

set_option maxHeartbeats 1000000 in
theorem zj_M_pI {x n : Int32} {v : Value} (hv2 : v = .null ∨ ∃ a, v = .ref a) (h0 : ¬ x < 0) (h1 : x < n) : zj_M l adK adV yJ3_checkIndex_8e157 cJ3_checkIndex_8e157 3 (some .int) 1 0 [.int x, .int n, v] (some (.int x)) := by
  refine Met.ofW (cc := cJ3_checkIndex_8e157) (maxL := 3) (ret := (some .int)) (by decide +kernel) rfl ?_
  intro p e s m args below meth cd s₁ B hml hv
  obtain ⟨rfl, hE⟩ := hv
  have hts0 := atoms_spec (ws := Jvm.Cond.code yJ3_checkIndex_8e157 cJ3_checkIndex_8e157 3 (some .int) :: z_wl) B.pre
  have hts : ∀ w ∈ z_wl, w.before _ s = true := fun w hw => hts0 w (List.mem_cons_of_mem _ hw)
  have hown : s.vm.findClass RJ3 = some m.cls := findClass_of_methodNamed B.named
  have hx := B.exec
  have hb := B.bytes
  have hl := lv_entry ([.int x, .int n, v]) (n := 3) (by rcases hv2 with rfl | ⟨a, rfl⟩ <;> exact Nat.le_of_ble_eq_true rfl)
  rw [lg_entry_eq]
  generalize (lg_sl ([.int x, .int n, v]) ++ List.replicate (3 - (lg_sl ([.int x, .int n, v])).length) Slot.unset).toArray = ls at hl ⊢
  have hl : lv_has ls 3 [(0, .int x), (1, .int n), (2, v)] := by rcases hv2 with rfl | ⟨a, rfl⟩ <;> exact hl
  refine lv_iload_n hx hb (show decode cJ3_checkIndex_8e157 0 = .ok (.iload_n 0, 1) by decide +kernel) rfl (lv_at hl 0 rfl) ?_
  refine lv_if_lt hx hb (show decode cJ3_checkIndex_8e157 1 = .ok (.ifCond .lt 8, 3) by decide +kernel) (tgt := 9) rfl (fun q => absurd q h0) (fun _ => ?_)
  refine lv_iload_n hx hb (show decode cJ3_checkIndex_8e157 4 = .ok (.iload_n 0, 1) by decide +kernel) rfl (lv_at hl 0 rfl) ?_
  refine lv_iload_n hx hb (show decode cJ3_checkIndex_8e157 5 = .ok (.iload_n 1, 1) by decide +kernel) rfl (lv_at hl 1 rfl) ?_
  refine lv_icmp_lt hx hb (show decode cJ3_checkIndex_8e157 6 = .ok (.if_icmp .lt 10, 3) by decide +kernel) (tgt := 16) rfl (fun _ => ?_) (fun q => absurd h1 q)
  refine lv_iload_n hx hb (show decode cJ3_checkIndex_8e157 16 = .ok (.iload_n 0, 1) by decide +kernel) rfl (lv_at hl 0 rfl) ?_
  exact W.zret hx hb B.returns rfl (fun t ht hW => ⟨rfl, ht⟩) (fun _ h => by cases h) (show decode cJ3_checkIndex_8e157 17 = .ok (.ireturn, 1) by decide +kernel)

set_option maxHeartbeats 1000000 in
theorem zj_M_cI {x n : Int32} (h0 : ¬ x < 0) (h1 : x < n) : zj_M l adK adV yJ0_checkIndex_df160 cJ0_checkIndex_df160 2 none 2 30 [.int x, .int n] none := by
  refine Met.ofW (cc := cJ0_checkIndex_df160) (maxL := 2) (ret := none) (by decide +kernel) rfl ?_
  intro p e s m args below meth cd s₁ B hml hv
  obtain ⟨rfl, hE⟩ := hv
  have hts0 := atoms_spec (ws := Jvm.Cond.code yJ0_checkIndex_df160 cJ0_checkIndex_df160 2 none :: z_wl) B.pre
  have hts : ∀ w ∈ z_wl, w.before _ s = true := fun w hw => hts0 w (List.mem_cons_of_mem _ hw)
  have hown : s.vm.findClass RJ0 = some m.cls := findClass_of_methodNamed B.named
  have hx := B.exec
  have hb := B.bytes
  have hl := lv_entry ([.int x, .int n]) (n := 2) (Nat.le_of_ble_eq_true rfl)
  rw [lg_entry_eq]
  generalize (lg_sl ([.int x, .int n]) ++ List.replicate (2 - (lg_sl ([.int x, .int n])).length) Slot.unset).toArray = ls at hl ⊢
  have hl : lv_has ls 2 [(0, .int x), (1, .int n)] := hl
  refine lv_iload_n hx hb (show decode cJ0_checkIndex_df160 0 = .ok (.iload_n 0, 1) by decide +kernel) rfl (lv_at hl 0 rfl) ?_
  refine lv_iload_n hx hb (show decode cJ0_checkIndex_df160 1 = .ok (.iload_n 1, 1) by decide +kernel) rfl (lv_at hl 1 rfl) ?_
  have hZ : ∃ v : Value, (v = .null ∨ ∃ a, v = .ref a) ∧ va_Z RJ3 "SIOOBE_FORMATTER" "Ljava/util/function/BiFunction;" v (fun _ => False) s s.heap := by
    rcases hE.2.2 with h | ⟨t, h⟩
    · exact ⟨_, Or.inl rfl, h⟩
    · exact ⟨_, Or.inr ⟨t, rfl⟩, h⟩
  obtain ⟨v, hv2, hZ⟩ := hZ
  refine va_gets hx hb hZ va_S.rf hown (hts _ zj_f1053) (fun x hx => hx) (show decode cJ0_checkIndex_df160 2 = .ok (.getstatic 1053, 3) by decide +kernel) ?_
  refine zj_after (va_runS (As := [.int x, .int n, v]) (rest := []) (nL := 2) ⟨hx, hb, hml, hown, hts⟩ (zj_M_pI hv2 h0 h1) ⟨zj_cb 3 hts zj_c_pI zj_m1059 zj_n3 (by decide +kernel) ⟨by show _ ≤ 2; decide, by show _ ≤ 30; decide⟩, hts _ zj_t_pI⟩ (zj_pre hE) rfl rfl hl.1 rfl (lv_room (Nat.le_of_ble_eq_true rfl)) (show decode cJ0_checkIndex_df160 5 = .ok (.invokestatic 1059, 3) by decide +kernel) ⟨Nat.le_refl _, Nat.le_refl _⟩) ?_
  refine lv_pop hx hb (show decode cJ0_checkIndex_df160 8 = .ok (.pop, 1) by decide +kernel) rfl ?_
  exact W.vret hx hb B.returns (fun t ht hW => ⟨rfl, ht⟩) (fun _ h => by cases h) (show decode cJ0_checkIndex_df160 9 = .ok (.return_, 1) by decide +kernel)

set_option maxHeartbeats 1000000 in
theorem zj_M_lA {i : Nat} (hi : i < 5) {x : Int32} (hin : z_in x (z_lens.getD i 0)) : zj_M l adK adV yJ1_charAt_3b067 cJ1_charAt_3b067 2 (some .char) 3 60 [.ref (adV i), .int x] (some (.int ((z_byts.getD i []).getD x.toNatClampNeg 0))) := by
  refine Met.ofW (cc := cJ1_charAt_3b067) (maxL := 2) (ret := (some .char)) (by decide +kernel) rfl ?_
  intro p e s m args below meth cd s₁ B hml hv
  obtain ⟨rfl, hE⟩ := hv
  have hts0 := atoms_spec (ws := Jvm.Cond.code yJ1_charAt_3b067 cJ1_charAt_3b067 2 (some .char) :: z_wl) B.pre
  have hts : ∀ w ∈ z_wl, w.before _ s = true := fun w hw => hts0 w (List.mem_cons_of_mem _ hw)
  have hown : s.vm.findClass RJ1 = some m.cls := findClass_of_methodNamed B.named
  have hx := B.exec
  have hb := B.bytes
  have hl := lv_entry ([.ref (adV i), .int x]) (n := 2) (Nat.le_of_ble_eq_true rfl)
  rw [lg_entry_eq]
  generalize (lg_sl ([.ref (adV i), .int x]) ++ List.replicate (2 - (lg_sl ([.ref (adV i), .int x])).length) Slot.unset).toArray = ls at hl ⊢
  have hl : lv_has ls 2 [(0, .ref (adV i)), (1, .int x)] := hl
  have h0 : ¬ x < 0 := fun q => hin (Or.inl q)
  have hlt : x.toNatClampNeg < z_lens.getD i 0 := Nat.not_le.mp fun q => hin (Or.inr q)
  have hL9 : z_lens.getD i 0 ≤ 9 := by
    have : ∀ i, i < 5 → z_lens.getD i 0 ≤ 9 := by decide +kernel
    exact this i hi
  have hxn : x = nI x.toNatClampNeg := by
    obtain ⟨j, hj, rfl⟩ := nI_of h0
    rw [nI_clamp hj]
  have h1 : x < Int32.ofNat (z_lens.getD i 0) := by
    rw [hxn]
    exact nI_lt hlt (by omega)
  refine lv_iload_n hx hb (show decode cJ1_charAt_3b067 0 = .ok (.iload_n 1, 1) by decide +kernel) rfl (lv_at hl 1 rfl) ?_
  refine lv_aload_n hx hb (show decode cJ1_charAt_3b067 1 = .ok (.aload_n 0, 1) by decide +kernel) rfl (lv_at hl 0 rfl) ?_
  refine va_tlen hx hb ((hE.1.1 i hi).2.2.2) va_S.rf rfl (show decode cJ1_charAt_3b067 2 = .ok (.arraylength, 1) by decide +kernel) ?_
  refine zj_after (va_runS (As := [.int x, .int (Int32.ofNat (z_lens.getD i 0))]) (rest := []) (nL := 2) ⟨hx, hb, hml, hown, hts⟩ (zj_M_cI h0 h1) ⟨zj_cb 2 hts zj_c_cI zj_m9 zj_n0 (by decide +kernel) ⟨by show _ ≤ 3; decide, by show _ ≤ 60; decide⟩, hts _ zj_t_cI⟩ (zj_pre hE) rfl rfl hl.1 rfl (lv_room (Nat.le_of_ble_eq_true rfl)) (show decode cJ1_charAt_3b067 3 = .ok (.invokestatic 9, 3) by decide +kernel) ⟨Nat.le_refl _, Nat.le_refl _⟩) ?_
  refine lv_aload_n hx hb (show decode cJ1_charAt_3b067 6 = .ok (.aload_n 0, 1) by decide +kernel) rfl (lv_at hl 0 rfl) ?_
  refine lv_iload_n hx hb (show decode cJ1_charAt_3b067 7 = .ok (.iload_n 1, 1) by decide +kernel) rfl (lv_at hl 1 rfl) ?_
  refine va_tb hx hb ((hE.1.1 i hi).2.2.2) va_S.rf hin rfl (show decode cJ1_charAt_3b067 8 = .ok (.baload, 1) by decide +kernel) ?_
  refine lv_sipush hx hb (show decode cJ1_charAt_3b067 9 = .ok (.sipush 255, 3) by decide +kernel) (v := 255) rfl ?_
  refine lv_iand hx hb (show decode cJ1_charAt_3b067 12 = .ok (.iand, 1) by decide +kernel) ?_
  refine lv_i2c hx hb (show decode cJ1_charAt_3b067 13 = .ok (.i2c, 1) by decide +kernel) (v := (z_byts.getD i []).getD x.toNatClampNeg 0) (by
    have : ∀ i, i < 5 → ∀ j, j < 9 → ((((z_byts.getD i []).getD j 0 &&& 255).toUInt32 % 65536).toInt32 = (z_byts.getD i []).getD j 0) := by decide +kernel
    exact this i hi _ (by omega)) ?_
  exact W.zret hx hb B.returns (by
    have : ∀ i, i < 5 → ∀ j, j < 9 → narrow .char (.int ((z_byts.getD i []).getD j 0)) = .int ((z_byts.getD i []).getD j 0) := by decide +kernel
    exact this i hi _ (by omega)) (fun t ht hW => ⟨rfl, ht⟩) (fun _ h => by cases h) (show decode cJ1_charAt_3b067 14 = .ok (.ireturn, 1) by decide +kernel)

set_option maxHeartbeats 1000000 in
theorem zj_M_cA {i : Nat} (hi : i < 5) {x : Int32} (hin : z_in x (z_lens.getD i 0)) : zj_M l adK adV yJ0_charAt_5068e cJ0_charAt_5068e 2 (some .char) 4 90 [.ref (adK i), .int x] (some (.int ((z_byts.getD i []).getD x.toNatClampNeg 0))) := by
  refine Met.ofW (cc := cJ0_charAt_5068e) (maxL := 2) (ret := (some .char)) (by decide +kernel) rfl ?_
  intro p e s m args below meth cd s₁ B hml hv
  obtain ⟨rfl, hE⟩ := hv
  have hts0 := atoms_spec (ws := Jvm.Cond.code yJ0_charAt_5068e cJ0_charAt_5068e 2 (some .char) :: z_wl) B.pre
  have hts : ∀ w ∈ z_wl, w.before _ s = true := fun w hw => hts0 w (List.mem_cons_of_mem _ hw)
  have hown : s.vm.findClass RJ0 = some m.cls := findClass_of_methodNamed B.named
  have hx := B.exec
  have hb := B.bytes
  have hl := lv_entry ([.ref (adK i), .int x]) (n := 2) (Nat.le_of_ble_eq_true rfl)
  rw [lg_entry_eq]
  generalize (lg_sl ([.ref (adK i), .int x]) ++ List.replicate (2 - (lg_sl ([.ref (adK i), .int x])).length) Slot.unset).toArray = ls at hl ⊢
  have hl : lv_has ls 2 [(0, .ref (adK i)), (1, .int x)] := hl
  have hL9 : z_lens.getD i 0 ≤ 9 := by
    have : ∀ i, i < 5 → z_lens.getD i 0 ≤ 9 := by decide +kernel
    exact this i hi
  have hlt : x.toNatClampNeg < z_lens.getD i 0 := Nat.not_le.mp fun q => hin (Or.inr q)
  refine lv_aload_n hx hb (show decode cJ0_charAt_5068e 0 = .ok (.aload_n 0, 1) by decide +kernel) rfl (lv_at hl 0 rfl) ?_
  refine zj_after (va_runV (As := []) (rest := []) (nL := 2) ⟨hx, hb, hml, hown, hts⟩ (zj_M_isL hi) ⟨zj_cb 0 hts zj_c_isL zj_m492 zj_n0 (by decide +kernel) ⟨by show _ ≤ 4; decide, by show _ ≤ 90; decide⟩, hts _ zj_i_isL, hts _ zj_s_isL⟩ (zj_preV hi hE (zj_rec hi hE)) rfl rfl hl.1 rfl (lv_room (Nat.le_of_ble_eq_true rfl)) (show decode cJ0_charAt_5068e 1 = .ok (.invokevirtual 492, 3) by decide +kernel) ⟨Nat.le_refl _, Nat.le_refl _⟩) ?_
  refine lv_if_eq hx hb (show decode cJ0_charAt_5068e 4 = .ok (.ifCond .eq 12, 3) by decide +kernel) (tgt := 16) rfl (fun q => absurd q (by decide)) (fun _ => ?_)
  refine lv_aload_n hx hb (show decode cJ0_charAt_5068e 7 = .ok (.aload_n 0, 1) by decide +kernel) rfl (lv_at hl 0 rfl) ?_
  refine vk_getf hx hb ((hE.1.1 i hi).2.2.1) va_S.rf hown (hts _ zj_f9) (fun x hx => hx) (show decode cJ0_charAt_5068e 8 = .ok (.getfield 9, 3) by decide +kernel) ?_
  refine lv_iload_n hx hb (show decode cJ0_charAt_5068e 11 = .ok (.iload_n 1, 1) by decide +kernel) rfl (lv_at hl 1 rfl) ?_
  refine zj_after (va_runS (As := [.ref (adV i), .int x]) (rest := []) (nL := 2) ⟨hx, hb, hml, hown, hts⟩ (zj_M_lA hi hin) ⟨zj_cb 2 hts zj_c_lA zj_m495 zj_n1 (by decide +kernel) ⟨by show _ ≤ 4; decide, by show _ ≤ 90; decide⟩, hts _ zj_t_lA⟩ (zj_pre hE) rfl rfl hl.1 rfl (lv_room (Nat.le_of_ble_eq_true rfl)) (show decode cJ0_charAt_5068e 12 = .ok (.invokestatic 495, 3) by decide +kernel) ⟨Nat.le_refl _, Nat.le_refl _⟩) ?_
  exact W.zret hx hb B.returns (by
    have : ∀ i, i < 5 → ∀ j, j < 9 → narrow .char (.int ((z_byts.getD i []).getD j 0)) = .int ((z_byts.getD i []).getD j 0) := by decide +kernel
    exact this i hi _ (by omega)) (fun t ht hW => ⟨rfl, ht⟩) (fun _ h => by cases h) (show decode cJ0_charAt_5068e 15 = .ok (.ireturn, 1) by decide +kernel)

end
theorem z_js {l : Launch} {D : va_G} {kc : Nat → ClassId} {ad adV : Nat → Nat} {L : Nat} {xs : Nat → Int32} : z_JS l D kc ad adV L xs := by
  intro p e R s mi args below meth c Q m H locs ls cells slots pc r q C hO hS hls hcl hsl hcat h2 h5
  obtain ⟨hx, hb, hml, hown, hts, hlk, hE, hfr, hlo, htb⟩ := C
  rw [hO] at hown
  have hE2 : z_E D kc ad adV L xs s.heap.size s H := hE.kp hS.1 hS.2.1
  have hvk : vk_S 5 z_lens z_byts (fun i => ad (200 + i)) adV (z_A ad s.heap.size) s H := hE2.2.2.2.2.2.2.2.2.1
  have hJ : zj_E (fun i => ad (200 + i)) adV s H := ⟨vk_S.narrow hvk (fun _ h => h.elim), va_Z.narrow hE2.2.2.2.2.2.2.2.2.2.1 (fun _ h => h.elim), va_Zq.narrow hE2.2.2.2.2.2.2.2.2.2.2 (fun _ h => h.elim)⟩
  obtain ⟨i, hi, rfl⟩ : ∃ i, i < 5 ∧ q = 200 + i := ⟨q - 200, by omega, by omega⟩
  have hrec : ∃ cell : Cell, H[ad (200 + i)]? = some cell ∧ cell.vm.isStatics = false ∧ s.vm.findClass RJ0 = some cell.cls := by
    obtain ⟨cell, g1, g2, g3, -⟩ := (hvk.1 i hi).1
    exact ⟨cell, g1, g2, g3⟩
  have hlen : z_lens.getD i 0 = (z_txt (200 + i)).length := by
    have : ∀ i, i < 5 → z_lens.getD i 0 = (z_txt (200 + i)).length := by decide +kernel
    exact this i hi
  have hbyt : z_byts.getD i [] = z_txt (200 + i) := by
    have : ∀ i, i < 5 → z_byts.getD i [] = z_txt (200 + i) := by decide +kernel
    exact this i hi
  refine ⟨fun hf hl hd kk => ?_, fun hf hl hd x hin kk => ?_⟩
  · refine zj_after (v := some (.int (Int32.ofNat (z_lens.getD i 0)))) (va_runV (As := []) (rest := r) (nL := z_maxL m) ⟨hx, hb, hml, hown, hts⟩ (zj_M_len (adK := fun i => ad (200 + i)) (adV := adV) hi) ⟨zj_cb 0 hts zj_c_len zj_m144 zj_n0 (by decide +kernel) ⟨by show 2 + 1 ≤ R.frames; omega, by show 8 + (1 + 11) + 30 ≤ R.locals; omega⟩, hts _ zj_i_len, hts _ zj_s_len⟩ (zj_preV (adK := fun i => ad (200 + i)) hi hJ hrec) rfl rfl hls rfl (lv_room hcat) hd ⟨hcl, hsl⟩) ?_
    rw [hlen]
    exact kk
  · refine zj_after (v := some (.int ((z_byts.getD i []).getD x.toNatClampNeg 0))) (va_runV (As := [.int x]) (rest := r) (nL := z_maxL m) ⟨hx, hb, hml, hown, hts⟩ (zj_M_cA (adK := fun i => ad (200 + i)) (adV := adV) hi (x := x) (by rw [hlen]; exact hin)) ⟨zj_cb 1 hts zj_c_cA zj_m150 zj_n0 (by decide +kernel) ⟨by show 4 + 1 ≤ R.frames; omega, by show 8 + (2 + 11) + 90 ≤ R.locals; omega⟩, hts _ zj_i_cA, hts _ zj_s_cA⟩ (zj_preV (adK := fun i => ad (200 + i)) hi hJ hrec) rfl rfl hls rfl (lv_room hcat) hd ⟨hcl, hsl⟩) ?_
    rw [hbyt]
    exact kk
