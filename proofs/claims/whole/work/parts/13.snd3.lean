/-! switches, natives, returns, calls, throws -/
theorem z_sw_spec {α : Type} (x : Int32) (d : Nat) (k : Nat → α) : ∀ sw : List (Int32 × Nat), (∃ (i : Nat) (q : Int32 × Nat), sw[i]? = some q ∧ x = q.1 ∧ z_sw x sw d k = k q.2) ∨ ((∀ q ∈ sw, x ≠ q.1) ∧ z_sw x sw d k = k d)
  | [] => Or.inr ⟨fun q h => absurd h List.not_mem_nil, rfl⟩
  | q :: r => by
    by_cases hq : x = q.1
    · exact Or.inl ⟨0, q, rfl, hq, by unfold z_sw; rw [if_pos hq]⟩
    · have e : z_sw x (q :: r) d k = z_sw x r d k := by
        show (if x = q.1 then k q.2 else z_sw x r d k) = _
        rw [if_neg hq]
      rcases z_sw_spec x d k r with ⟨i, q', h1, h2, h3⟩ | ⟨h1, h2⟩
      · exact Or.inl ⟨i + 1, q', by simpa using h1, h2, e.trans h3⟩
      · refine Or.inr ⟨fun q' hq' => ?_, e.trans h2⟩
        rcases List.mem_cons.mp hq' with rfl | h
        · exact hq
        · exact h1 q' h
section ZW
variable {p : Program} {l : Launch} {e : Env} {R : Room} {s : State} {mi : MethodId} {args : Array Value} {below : List Frame} {meth : Method} {c : Code} {Q : State → Prop} {D : va_G} {kc : Nat → ClassId} {ad : Nat → Nat} {nL : Nat} {o : Option Value ⊕ Nat} {τ : zSt} {MC MS : Nat} {cc : ByteArray} {k : Nat → zL → List Value → zSt → Option zOut} {pc : Nat} {lv : zL} {st : List Value} {σ : zSt}
theorem zw_tsw (hx : p.tables.exec = Jvm.exec) (hb : c.code = cc) {d lo hi : Int} {offs : Array Int} {len dt : Nat} {sw : List (Int32 × Nat)} (hd : decode cc pc = .ok (.tableswitch d lo hi offs, len)) (ht : (pc : Int) + d = (dt : Int)) (hsz : (offs.size : Int) = hi - lo + 1) (hm : sw.map (fun q => (q.1.toInt, (q.2 : Int))) = offs.toList.zipIdx.map (fun q => (lo + (q.2 : Int), (pc : Int) + q.1))) (hk : z_K p l e R s mi args below meth c Q D kc ad nL o τ MC MS k) (x : Int32) (r : List Value) (he : st = .int x :: r) : z_Wg p l e R s mi args below meth c Q D kc ad nL o τ MC MS pc lv st σ (z_sw x sw dt (fun t => k t lv r σ)) := by
  intro t H locs ls cells slots h hP hS hl hn hc hs
  subst he
  have hget : ∀ (i : Nat) (q : Int32 × Nat), sw[i]? = some q → ∃ off, offs[i]? = some off ∧ q.1.toInt = lo + (i : Int) ∧ (q.2 : Int) = (pc : Int) + off := by
    intro i q hq
    have h1 : (sw.map (fun q => (q.1.toInt, (q.2 : Int))))[i]? = some (q.1.toInt, (q.2 : Int)) := by rw [List.getElem?_map, hq]; rfl
    rw [hm, List.getElem?_map, List.getElem?_zipIdx] at h1
    cases ho : offs.toList[i]? with
    | none => rw [ho] at h1; simp at h1
    | some off =>
      rw [ho] at h1
      simp at h1
      exact ⟨off, by rw [← Array.getElem?_toList]; exact ho, h1.1.symm, h1.2.symm⟩
  rcases z_sw_spec x dt (fun t => k t lv r σ) sw with ⟨i, q, h1, h2, h3⟩ | ⟨h1, h2⟩
  · rw [h3] at h
    obtain ⟨off, g1, g2, g3⟩ := hget i q h1
    have hi : i < offs.size := (Array.getElem?_eq_some_iff.mp g1).1
    exact lv_tableIn hx hb hd (by rw [h2, g2]; omega) (by rw [h2, g2]; omega) (by rw [h2, g2, show (lo + (i : Int) - lo).toNat = i by omega]; exact g1) g3.symm (hk _ _ _ _ _ _ _ _ _ _ h hP hS hl hn hc hs)
  · rw [h2] at h
    refine lv_tableOut hx hb hd ?_ ht (hk _ _ _ _ _ _ _ _ _ _ h hP hS hl hn hc hs)
    apply Classical.byContradiction
    intro hno
    have hno : ¬ x.toInt < lo ∧ ¬ hi < x.toInt := ⟨fun q => hno (Or.inl q), fun q => hno (Or.inr q)⟩
    have hi : (x.toInt - lo).toNat < offs.size := by omega
    have hlen : sw.length = offs.size := by
      have := congrArg List.length hm
      simpa using this
    have hq : sw[(x.toInt - lo).toNat]? = some (sw[(x.toInt - lo).toNat]'(by omega)) := List.getElem?_eq_getElem (by omega)
    obtain ⟨off, g1, g2, g3⟩ := hget _ _ hq
    exact h1 _ (List.mem_of_getElem? hq) (Int32.toInt_inj.mp (by rw [g2]; omega))
theorem z_lk_off {x : Int32} {d : Int} {pc : Nat} : ∀ (ps : List (Int × Int)) (sw : List (Int32 × Nat)) (dt : Nat), (pc : Int) + d = (dt : Int) → sw.map (fun q => (q.1.toInt, (q.2 : Int))) = ps.map (fun q => (q.1, (pc : Int) + q.2)) → ∀ {α : Type} (k : Nat → α), ∃ t, z_sw x sw dt k = k t ∧ (pc : Int) + Op.lookupswitch.offset ps d x.toInt = (t : Int)
  | [], [], dt, ht, _, _, k => ⟨dt, rfl, ht⟩
  | [], q :: r, _, _, h, _, _ => by simp at h
  | b :: ps, [], _, _, h, _, _ => by simp at h
  | b :: ps, q :: r, dt, ht, h, _, k => by
    simp only [List.map_cons, List.cons.injEq, Prod.mk.injEq] at h
    obtain ⟨⟨h1, h2⟩, h3⟩ := h
    by_cases hq : x = q.1
    · refine ⟨q.2, by unfold z_sw; rw [if_pos hq], ?_⟩
      rw [Op.lookupswitch.offset_cons, if_pos (by rw [hq]; exact h1.symm)]
      exact h2.symm
    · obtain ⟨t, g1, g2⟩ := z_lk_off (x := x) (d := d) (pc := pc) ps r dt ht h3 k
      refine ⟨t, ?_, ?_⟩
      · show (if x = q.1 then k q.2 else z_sw x r dt k) = _
        rw [if_neg hq]
        exact g1
      · rw [Op.lookupswitch.offset_cons, if_neg (fun z => hq (Int32.toInt_inj.mp (by rw [h1]; exact z.symm)))]
        exact g2
theorem zw_lsw (hx : p.tables.exec = Jvm.exec) (hb : c.code = cc) {d : Int} {ps : Array (Int × Int)} {len dt : Nat} {sw : List (Int32 × Nat)} (hd : decode cc pc = .ok (.lookupswitch d ps, len)) (ht : (pc : Int) + d = (dt : Int)) (hp : (ps.toList.zip (ps.toList.drop 1)).all (fun (a, next) => a.1 < next.1) = true) (hm : sw.map (fun q => (q.1.toInt, (q.2 : Int))) = ps.toList.map (fun q => (q.1, (pc : Int) + q.2))) (hk : z_K p l e R s mi args below meth c Q D kc ad nL o τ MC MS k) (x : Int32) (r : List Value) (he : st = .int x :: r) : z_Wg p l e R s mi args below meth c Q D kc ad nL o τ MC MS pc lv st σ (z_sw x sw dt (fun t => k t lv r σ)) := by
  intro t H locs ls cells slots h hP hS hl hn hc hs
  subst he
  obtain ⟨tg, g1, g2⟩ := z_lk_off (x := x) ps.toList sw dt ht hm (fun t => k t lv r σ)
  rw [g1] at h
  exact lv_lookup hx hb hd hp rfl g2 (hk _ _ _ _ _ _ _ _ _ _ h hP hS hl hn hc hs)
theorem z_cats8 {st : List Value} (n : Nat) (h : ((st.drop n).map fun v => v.category).sum ≤ 8) : (((st.drop n).map (z_tv ad)).map fun v => v.category).sum ≤ 8 := by
  rw [z_cats]
  exact h
theorem zw_max (hx : p.tables.exec = Jvm.exec) (hb : c.code = cc) (hml : c.maxLocals = nL) {own : String} {idx : Nat} {a : Nat × Nat × Nat} (h1000 : a.1 = 1000) (hown : s.vm.findClass own = some mi.cls) (hw : ∀ w ∈ ([.methodLink own idx Lib.Math.max.name, .static Lib.Math.max.name, .initialized "java/lang/Math", .code Lib.Math.max.name Lib.Math.max.code 2 (some .int)] : List Jvm.Cond), w.before args s = true) (hfr : 2 ≤ R.frames) (hlo : 21 ≤ R.locals) (hMC : MC ≤ R.cells) (hMS : MS ≤ R.slots) (hd : decode cc pc = .ok (.invokestatic idx, 3)) (hk : z_K p l e R s mi args below meth c Q D kc ad nL o τ MC MS k) (h8 : ((st.drop 2).map fun v => v.category).sum ≤ 8) : z_Wg p l e R s mi args below meth c Q D kc ad nL o τ MC MS pc lv st σ (z_nat 3 a pc lv st σ k) := by
  intro t H locs ls cells slots h hP hS hl hn hc hs
  unfold z_nat at h
  rw [h1000] at h
  match st, h with
  | .int y :: .int x :: r, h =>
    have h8' := z_cats8 (ad := ad) 2 h8
    exact va_mmax hx hb (by rw [hml, hl.1, hn]) hown (hw _ (by simp)) (hw _ (by simp)) (hw _ (by simp)) (hw _ (by simp)) (by omega) (by have := h8'; simp only [List.drop_succ_cons, List.drop_zero] at this; omega) (by omega) (by omega) hd (hk _ _ _ _ _ _ _ _ _ _ h hP hS hl hn hc hs)
theorem zw_min (hx : p.tables.exec = Jvm.exec) (hb : c.code = cc) (hml : c.maxLocals = nL) {own : String} {idx : Nat} {a : Nat × Nat × Nat} (h1000 : a.1 = 1001) (hown : s.vm.findClass own = some mi.cls) (hw : ∀ w ∈ ([.methodLink own idx Lib.Math.min.name, .static Lib.Math.min.name, .initialized "java/lang/Math", .code Lib.Math.min.name Lib.Math.min.code 2 (some .int)] : List Jvm.Cond), w.before args s = true) (hfr : 2 ≤ R.frames) (hlo : 21 ≤ R.locals) (hMC : MC ≤ R.cells) (hMS : MS ≤ R.slots) (hd : decode cc pc = .ok (.invokestatic idx, 3)) (hk : z_K p l e R s mi args below meth c Q D kc ad nL o τ MC MS k) (h8 : ((st.drop 2).map fun v => v.category).sum ≤ 8) : z_Wg p l e R s mi args below meth c Q D kc ad nL o τ MC MS pc lv st σ (z_nat 3 a pc lv st σ k) := by
  intro t H locs ls cells slots h hP hS hl hn hc hs
  unfold z_nat at h
  rw [h1000] at h
  match st, h with
  | .int y :: .int x :: r, h =>
    have h8' := z_cats8 (ad := ad) 2 h8
    exact va_mmin hx hb (by rw [hml, hl.1, hn]) hown (hw _ (by simp)) (hw _ (by simp)) (hw _ (by simp)) (hw _ (by simp)) (by omega) (by have := h8'; simp only [List.drop_succ_cons, List.drop_zero] at this; omega) (by omega) (by omega) hd (hk _ _ _ _ _ _ _ _ _ _ h hP hS hl hn hc hs)
theorem zw_copy (hx : p.tables.exec = Jvm.exec) (hb : c.code = cc) (hml : c.maxLocals = nL) {own : String} {idx : Nat} {a : Nat × Nat × Nat} (h1000 : a.1 = 1002) (hown : s.vm.findClass own = some mi.cls) (hw : ∀ w ∈ ([.methodLink own idx arraycopyName, .native arraycopyName, .static arraycopyName, .initialized "java/lang/System"] : List Jvm.Cond), w.before args s = true) (hKn : va_K D vwCl (z_tys kc) s) (hinj : ∀ i j, i < 125 → j < 125 → ad i = ad j → i = j) (hfr : 2 ≤ R.frames) (hlo : 8 + (nativeFrameWords "java/lang/System" "arraycopy" 5 + 11) ≤ R.locals) (hd : decode cc pc = .ok (.invokestatic idx, 3)) (hk : z_K p l e R s mi args below meth c Q D kc ad nL o τ MC MS k) (h8 : ((st.drop 5).map fun v => v.category).sum ≤ 8) : z_Wg p l e R s mi args below meth c Q D kc ad nL o τ MC MS pc lv st σ (z_nat 3 a pc lv st σ k) := by
  intro t H locs ls cells slots h hP hS hl hn hc hs
  unfold z_nat at h
  rw [h1000] at h
  match st, h with
  | .int n :: .int dp :: .ref q1 :: .int sp :: .ref q0 :: r, h =>
    replace h : (if z_kind q0 = 10 then if z_kind q1 = 10 then if q0 = q1 then none else if sp < 0 then none else if dp < 0 then none else if n < 0 then none else if sp.toNatClampNeg + n.toNatClampNeg ≤ z_len q0 then if dp.toNatClampNeg + n.toNatClampNeg ≤ z_len q1 then
      k (pc + 3) lv r (σ.1, σ.2.1, (fun c j => if c = q1 then (if dp.toNatClampNeg ≤ j ∧ j < dp.toNatClampNeg + n.toNatClampNeg then σ.2.2.1 q0 (sp.toNatClampNeg + (j - dp.toNatClampNeg)) else σ.2.2.1 q1 j) else σ.2.2.1 c j), σ.2.2.2)
    else none else none else none else none) = some (o, τ, t) := h
    split at h
    · rename_i hq0
      split at h
      · rename_i hq1
        split at h
        · cases h
        · split at h
          · cases h
          · rename_i hsp
            split at h
            · cases h
            · rename_i hdp
              split at h
              · cases h
              · rename_i hn0
                split at h
                · rename_i hb0
                  split at h
                  · rename_i hb1
                    have hlt0 := z_kind_lt hq0 (by omega)
                    have hlt1 := z_kind_lt hq1 (by omega)
                    have h8' := z_cats8 (ad := ad) 5 h8
                    refine va_copyi hx hb (by rw [hml, hl.1, hn]) hown (hw _ (by simp)) (hw _ (by simp)) (hw _ (by simp)) (hw _ (by simp)) hKn hP ((z_inj_ap hinj).D σ) hS q0 q1 0 0 (ty := .int) (by rw [z_ws_get hlt0, z_cell_10 hq0]) (by rw [z_ws_get hlt1, z_cell_10 hq1]) rfl rfl rfl hsp hdp hn0 hb0 hb1 (fun _ _ => rfl) (by omega) (by have := h8'; simp only [List.drop_succ_cons, List.drop_zero] at this; omega) hd (fun H1 locs1 hP1 _ hS1 => ?_)
                    have e : (fun j => if q1 = q1 then (if dp.toNatClampNeg ≤ j ∧ j < dp.toNatClampNeg + n.toNatClampNeg then σ.2.2.1 q0 (sp.toNatClampNeg + (j - dp.toNatClampNeg)) else σ.2.2.1 q1 j) else σ.2.2.1 q1 j) = va_cpy (σ.2.2.1 q0) (σ.2.2.1 q1) sp.toNatClampNeg dp.toNatClampNeg n.toNatClampNeg := by
                      funext j
                      simp [va_cpy]
                    rw [z_ws_set (kc := kc) (ad := ad) (σ := σ) (τ := (σ.1, σ.2.1, (fun c j => if c = q1 then (if dp.toNatClampNeg ≤ j ∧ j < dp.toNatClampNeg + n.toNatClampNeg then σ.2.2.1 q0 (sp.toNatClampNeg + (j - dp.toNatClampNeg)) else σ.2.2.1 q1 j) else σ.2.2.1 c j), σ.2.2.2)) hlt1 ((z_cell_10 hq1).trans (congrArg (fun f : Nat → Int32 => (Sum.inl (kc 10, z_len q1, Sum.inl f) : va_E)) e)) (fun y hy => z_cell_cong rfl rfl (by funext j; simp [hy]) (fun _ => rfl) (fun _ => rfl))] at hP1
                    exact hk _ _ _ _ _ _ _ _ _ _ h hP1 hS1 hl hn hc hs
                  · cases h
                · cases h
      · cases h
    · cases h
end ZW
