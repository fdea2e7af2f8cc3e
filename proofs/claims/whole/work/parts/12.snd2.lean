/-! the heap's rows -/
def z_wl : List Jvm.Cond := lw_tbl.filter goodWord
theorem z_cell_obj {kc : Nat → ClassId} {ad : Nat → Nat} {σ : zSt} {q c : Nat} (h : z_kind q = c) (hc : c < 7) : z_cell kc ad σ q = .inr (c, z_obj ad σ c q) := by
  unfold z_cell
  rw [h]
  match c, hc with
  | 0, _ => rfl
  | 1, _ => rfl
  | 2, _ => rfl
  | 3, _ => rfl
  | 4, _ => rfl
  | 5, _ => rfl
  | 6, _ => rfl
theorem z_cell_10 {kc : Nat → ClassId} {ad : Nat → Nat} {σ : zSt} {q : Nat} (h : z_kind q = 10) : z_cell kc ad σ q = .inl (kc 10, z_len q, .inl (σ.2.2.1 q)) := by
  unfold z_cell
  rw [h]
  rfl
theorem z_cell_11 {kc : Nat → ClassId} {ad : Nat → Nat} {σ : zSt} {q : Nat} (h : z_kind q = 11) : z_cell kc ad σ q = .inl (kc 11, z_len q, .inl (σ.2.2.1 q)) := by
  unfold z_cell
  rw [h]
  rfl
theorem z_cell_12 {kc : Nat → ClassId} {ad : Nat → Nat} {σ : zSt} {q : Nat} (h : z_kind q = 12) : z_cell kc ad σ q = .inl (kc 12, 1, .inr (.inl (fun j => if j = 0 then σ.2.2.2.1 else 0))) := by
  unfold z_cell
  rw [h]
  rfl
theorem z_cell_13 {kc : Nat → ClassId} {ad : Nat → Nat} {σ : zSt} {q : Nat} (h : z_kind q = 13) : z_cell kc ad σ q = .inl (kc 13, 1, .inr (.inr (.inr (.inl (fun j => if j = 0 then σ.2.2.2.2 else 0))))) := by
  unfold z_cell
  rw [h]
  rfl
theorem z_cell_14 {kc : Nat → ClassId} {ad : Nat → Nat} {σ : zSt} {q : Nat} (h : z_kind q = 14) : z_cell kc ad σ q = .inl (kc 14, z_len q, .inr (.inr (.inr (.inr (fun j => some (ad (q + (1 + j)))))))) := by
  unfold z_cell
  rw [h]
  rfl
theorem z_cell_10u {kc : Nat → ClassId} {ad : Nat → Nat} {σ : zSt} {q i : Nat} {x : Int32} (h : z_kind q = 10) : z_cell kc ad (σ.1, σ.2.1, z_up σ.2.2.1 q i x, σ.2.2.2) q = .inl (kc 10, z_len q, .inl (upd (σ.2.2.1 q) i x)) := (z_cell_10 h).trans (by simp only [z_upd])
theorem z_cell_11u {kc : Nat → ClassId} {ad : Nat → Nat} {σ : zSt} {q i : Nat} {x : Int32} (h : z_kind q = 11) : z_cell kc ad (σ.1, σ.2.1, z_up σ.2.2.1 q i x, σ.2.2.2) q = .inl (kc 11, z_len q, .inl (upd (σ.2.2.1 q) i x)) := (z_cell_11 h).trans (by simp only [z_upd])
theorem z_cell_12u {kc : Nat → ClassId} {ad : Nat → Nat} {σ : zSt} {q : Nat} {x y : Int64} (h : z_kind q = 12) : z_cell kc ad (σ.1, σ.2.1, σ.2.2.1, x, σ.2.2.2.2) q = .inl (kc 12, 1, .inr (.inl (vp_updL (fun j => if j = 0 then y else 0) (Int32.toNatClampNeg 0) x))) := (z_cell_12 h).trans (by
  have e : (fun j : Nat => if j = 0 then x else 0) = vp_updL (fun j => if j = 0 then y else 0) (Int32.toNatClampNeg 0) x := by
    funext j
    by_cases hj : j = 0
    · subst hj
      rfl
    · have h0 : Int32.toNatClampNeg 0 = 0 := rfl
      simp [vp_updL, h0, hj]
  simp only [e])
theorem z_cell_13u {kc : Nat → ClassId} {ad : Nat → Nat} {σ : zSt} {q : Nat} {x y : UInt64} (h : z_kind q = 13) : z_cell kc ad (σ.1, σ.2.1, σ.2.2.1, σ.2.2.2.1, x) q = .inl (kc 13, 1, .inr (.inr (.inr (.inl (vf_upd (fun j => if j = 0 then y else 0) (Int32.toNatClampNeg 0) x))))) := (z_cell_13 h).trans (by
  have e : (fun j : Nat => if j = 0 then x else 0) = vf_upd (fun j => if j = 0 then y else 0) (Int32.toNatClampNeg 0) x := by
    funext j
    by_cases hj : j = 0
    · subst hj
      rfl
    · have h0 : Int32.toNatClampNeg 0 = 0 := rfl
      simp [vf_upd, h0, hj]
  simp only [e])
theorem z_vwCl : ∀ ci, ci < 7 → vwCl[ci]? = some (z_C ci, z_T ci, z_N ci)
  | 0, _ => rfl
  | 1, _ => rfl
  | 2, _ => rfl
  | 3, _ => rfl
  | 4, _ => rfl
  | 5, _ => rfl
  | 6, _ => rfl
  | n + 7, h => absurd h (by omega)
theorem z_decl : ∀ ci, ci < 7 → ∀ j, j < z_N ci → (z_T ci j).1 = z_C ci := by decide +kernel
theorem z_tydef : ∀ ci, ci < 7 → ∀ j, j < z_N ci → ∃ ty, parseFieldDescriptor (z_T ci j).2.2.1 = some ty
  | 0, _ => fun j hj => ⟨_, tyX0_ok j hj⟩
  | 1, _ => fun j hj => ⟨_, tyX1_ok j hj⟩
  | 2, _ => fun j hj => ⟨_, tyX2_ok j hj⟩
  | 3, _ => fun j hj => ⟨_, tyX3_ok j hj⟩
  | 4, _ => fun j hj => ⟨_, tyX4_ok j hj⟩
  | 5, _ => fun j hj => ⟨_, tyX5_ok j hj⟩
  | 6, _ => fun j hj => ⟨_, tyX6_ok j hj⟩
  | n + 7, h => absurd h (by omega)
def z_tyf (ci : Nat) : Nat → FieldType := match ci with
  | 0 => tyX0
  | 1 => tyX1
  | 2 => tyX2
  | 3 => tyX3
  | 4 => tyX4
  | 5 => tyX5
  | _ => tyX6
theorem z_tyok : ∀ ci, ci < 7 → ∀ j, j < z_N ci → parseFieldDescriptor (z_T ci j).2.2.1 = some (z_tyf ci j)
  | 0, _ => tyX0_ok
  | 1, _ => tyX1_ok
  | 2, _ => tyX2_ok
  | 3, _ => tyX3_ok
  | 4, _ => tyX4_ok
  | 5, _ => tyX5_ok
  | 6, _ => tyX6_ok
  | n + 7, h => absurd h (by omega)
theorem z_nm : ∀ ci, ci < 7 → ∀ a, a < z_N ci → ∀ b, b < z_N ci → a ≠ b → (z_T ci a).2.1 ≠ (z_T ci b).2.1
  | 0, _ => nmX0
  | 1, _ => nmX1
  | 2, _ => nmX2
  | 3, _ => nmX3
  | 4, _ => nmX4
  | 5, _ => nmX5
  | 6, _ => nmX6
  | n + 7, h => absurd h (by omega)
theorem z_tvrv (ad : Nat → Nat) (r : Option Nat) : z_tv ad (z_rv r) = va_rf (r.map ad) := by cases r <;> rfl
theorem z_inj_ap {ad : Nat → Nat} {sz : Nat} (h : ∀ i j, i < 125 → j < 125 → ad i = ad j → i = j) : z_ap ad (z_A ad sz) := ⟨h, fun i hi => Or.inl ⟨i, hi, rfl⟩⟩
section ZW
variable {p : Program} {l : Launch} {e : Env} {R : Room} {s : State} {mi : MethodId} {args : Array Value} {below : List Frame} {meth : Method} {c : Code} {Q : State → Prop} {D : va_G} {kc : Nat → ClassId} {ad : Nat → Nat} {nL : Nat} {o : Option Value ⊕ Nat} {τ : zSt} {MC MS : Nat} {cc : ByteArray} {k : Nat → zL → List Value → zSt → Option zOut} {pc : Nat} {lv : zL} {st : List Value} {σ : zSt}
theorem zw_get (hx : p.tables.exec = Jvm.exec) (hb : c.code = cc) {own : String} {idx : Nat} {a : Nat × Nat × Nat} (hts : ∀ w ∈ z_wl, w.before args s = true) (hin : ∀ w ∈ u_ws (z_C a.1) (z_T a.1) (z_N a.1), w ∈ z_wl) (hown : s.vm.findClass own = some mi.cls) (hKn : va_K D vwCl (z_tys kc) s) (ha : a.1 < 7) (hj : a.2.1 < z_N a.1) (hr : (z_off a.1 a.2.1, z_isR a.1 a.2.1) = match a.2.2 with | 0 => (none, false) | 1 => (none, true) | 2 => (none, false) | n => (some (n - 10), true)) (hw : (Jvm.Cond.fieldLink own idx (z_C a.1) (z_T a.1 a.2.1).2.1 (z_T a.1 a.2.1).2.2.1).before args s = true) (hd : decode cc pc = .ok (.getfield idx, 3)) (hk : z_K p l e R s mi args below meth c Q D kc ad nL o τ MC MS k) : z_Wg p l e R s mi args below meth c Q D kc ad nL o τ MC MS pc lv st σ (z_gt 3 a pc lv st σ k) := by
  intro t H locs ls cells slots h hP hS hl hn hc hs
  unfold z_gt at h
  split at h
  · rename_i q r
    split at h
    · rename_i hq
      have hlt := z_kind_lt hq (by omega)
      have he : (z_ws kc ad σ)[q]? = some (ad q, .inr (a.1, z_obj ad σ a.1 q)) := by rw [z_ws_get hlt, z_cell_obj hq ha]
      have hdc := z_decl a.1 ha a.2.1 hj
      have go : ∀ v : Value, z_fv ad σ a.1 q a.2.1 = z_tv ad v → k (pc + 3) lv (v :: r) σ = some (o, τ, t) → W p l e R s mi args below meth c H locs cells slots Q (F0 mi pc ls ((Value.ref q :: r).map (z_tv ad))) := by
        intro v hv hh
        exact va_get (C := z_C a.1) (T := z_T a.1) (N := z_N a.1) (ref := z_C a.1) (index := idx) hx hb hts hin hown hKn hP q he (z_vwCl a.1 ha) a.2.1 hj hw (by rw [hdc]; exact fun x hx => hx) (v := z_tv ad v) (by rw [z_obj_get hj, hv]) hd (hk _ _ _ _ _ _ _ _ _ _ hh hP hS hl hn hc hs)
      split at h
      · rename_i h1
        refine go _ ?_ h
        rw [h1] at hr
        cases hr' : z_off a.1 a.2.1 <;> simp_all [z_fv, z_tv]
      · rename_i h1
        refine go _ ?_ h
        rw [h1] at hr
        rw [z_tvrv]
        cases hr' : z_off a.1 a.2.1 <;> simp_all [z_fv]
      · rename_i h1
        refine go _ ?_ h
        rw [h1] at hr
        cases hr' : z_off a.1 a.2.1 <;> simp_all [z_fv, z_tv]
      · rename_i n h0 h1 h2
        refine go _ ?_ h
        have hr2 : (z_off a.1 a.2.1, z_isR a.1 a.2.1) = (some (a.2.2 - 10), true) := by
          rw [hr]
          split <;> simp_all
        have hr' : z_off a.1 a.2.1 = some (a.2.2 - 10) := congrArg Prod.fst hr2
        unfold z_fv
        rw [hr']
        rfl
    · cases h
  · cases h
theorem zw_put (hx : p.tables.exec = Jvm.exec) (hb : c.code = cc) {own : String} {idx : Nat} {a : Nat × Nat × Nat} (hts : ∀ w ∈ z_wl, w.before args s = true) (hin : ∀ w ∈ u_ws (z_C a.1) (z_T a.1) (z_N a.1), w ∈ z_wl) (hown : s.vm.findClass own = some mi.cls) (hKn : va_K D vwCl (z_tys kc) s) (hinj : ∀ i j, i < 125 → j < 125 → ad i = ad j → i = j) (ha : a.1 < 7) (hj : a.2.1 < z_N a.1) (hof : z_off a.1 a.2.1 = none) (hr : z_isR a.1 a.2.1 = decide (a.2.2 = 1)) (hfin : (z_T a.1 a.2.1).2.2.2 = false) (hty : (a.2.2 = 0 ∧ (z_T a.1 a.2.1).2.2.1 = "I") ∨ (a.2.2 = 2 ∧ (z_T a.1 a.2.1).2.2.1 = "Z") ∨ (a.2.2 = 1 ∧ ((∃ C, parseFieldDescriptor (z_T a.1 a.2.1).2.2.1 = some (.object C)) ∨ ∃ ty, parseFieldDescriptor (z_T a.1 a.2.1).2.2.1 = some (.array ty)))) (hw : (Jvm.Cond.fieldLink own idx (z_C a.1) (z_T a.1 a.2.1).2.1 (z_T a.1 a.2.1).2.2.1).before args s = true) (hd : decode cc pc = .ok (.putfield idx, 3)) (hk : z_K p l e R s mi args below meth c Q D kc ad nL o τ MC MS k) : z_Wg p l e R s mi args below meth c Q D kc ad nL o τ MC MS pc lv st σ (z_pt 3 a pc lv st σ k) := by
  intro t H locs ls cells slots h hP hS hl hn hc hs
  have hdc := z_decl a.1 ha a.2.1 hj
  have go : ∀ (q : Nat) (r : List Value) (v : Value) (σ1 : zSt) (ty : FieldType), z_kind q = a.1 → parseFieldDescriptor (z_T a.1 a.2.1).2.2.1 = some ty → narrow ty (z_tv ad v) = z_tv ad v → fits ty (z_tv ad v) = true → z_fv ad σ1 a.1 q a.2.1 = z_tv ad v → (∀ i, i ≠ a.2.1 → z_fv ad σ1 a.1 q i = z_fv ad σ a.1 q i) → (∀ x, x ≠ q → σ1.1 x = σ.1 x ∧ σ1.2.1 x = σ.2.1 x) → σ1.2.2 = σ.2.2 → k (pc + 3) lv r σ1 = some (o, τ, t) → W p l e R s mi args below meth c H locs cells slots Q (F0 mi pc ls ((v :: Value.ref q :: r).map (z_tv ad))) := by
    intro q r v σ1 ty hq hp hnr hft hv ho hx2 hx3 hh
    have hlt := z_kind_lt hq (by omega)
    have he : (z_ws kc ad σ)[q]? = some (ad q, .inr (a.1, z_obj ad σ a.1 q)) := by rw [z_ws_get hlt, z_cell_obj hq ha]
    refine va_put (C := z_C a.1) (T := z_T a.1) (N := z_N a.1) (ref := z_C a.1) (index := idx) hx hb hts hin (z_tyf a.1) (z_tyok a.1 ha) (z_nm a.1 ha) hown hKn hP ((z_inj_ap hinj).D σ) hS q he (z_vwCl a.1 ha) a.2.1 hj hw (by rw [hdc]; exact fun x hx => hx) hfin hp hnr hft (by simp [z_obj]; exact hj) hd (fun H1 locs1 hP1 _ hS1 => ?_)
    rw [z_obj_set hv ho, z_ws_set (kc := kc) (ad := ad) (σ := σ) (τ := σ1) hlt (z_cell_obj hq ha) (fun x hxq => z_cell_cong (hx2 x hxq).1 (hx2 x hxq).2 (by rw [hx3]) (fun _ => by rw [hx3]) (fun _ => by rw [hx3]))] at hP1
    exact hk _ _ _ _ _ _ _ _ _ _ hh hP1 hS1 hl hn hc hs
  have num : ∀ (b : Nat) (ty : FieldType) (x : Int32) (q : Nat) (r : List Value), a.2.2 ≠ 1 → parseFieldDescriptor (z_T a.1 a.2.1).2.2.1 = some ty → narrow ty (.int x) = .int x → fits ty (.int x) = true → z_kind q = a.1 → k (pc + 3) lv r (z_up σ.1 q a.2.1 x, σ.2) = some (o, τ, t) → W p l e R s mi args below meth c H locs cells slots Q (F0 mi pc ls ((Value.int x :: Value.ref q :: r).map (z_tv ad))) := by
    intro b ty x q r h1 hp hnr hft hq hh
    refine go q r (.int x) (z_up σ.1 q a.2.1 x, σ.2) ty hq hp hnr hft ?_ ?_ ?_ rfl hh
    · unfold z_fv
      rw [hof]
      dsimp only
      rw [hr, if_neg (by simpa using h1)]
      simp [z_up, z_tv]
    · intro i hi
      unfold z_fv
      simp [z_up, hi]
    · intro x hxq
      exact ⟨z_upo hxq, rfl⟩
  unfold z_pt at h
  rcases hty with ⟨h0, h1⟩ | ⟨h0, h1⟩ | ⟨h0, h1⟩
  · rw [h0] at h
    match st, h with
    | .int x :: .ref q :: r, h =>
      replace h : (if z_kind q = a.1 then k (pc + 3) lv r (z_up σ.1 q a.2.1 x, σ.2) else none) = some (o, τ, t) := h
      split at h
      · rename_i hq
        exact num 0 .int x q r (by omega) (by rw [h1]; rfl) rfl rfl hq h
      · cases h
  · rw [h0] at h
    match st, h with
    | .int x :: .ref q :: r, h =>
      replace h : (if z_kind q = a.1 then (if x = 0 ∨ x = 1 then k (pc + 3) lv r (z_up σ.1 q a.2.1 x, σ.2) else none) else none) = some (o, τ, t) := h
      split at h
      · rename_i hq
        split at h
        · rename_i h01
          exact num 0 .boolean x q r (by omega) (by rw [h1]; rfl) (by rcases h01 with rfl | rfl <;> rfl) (by rcases h01 with rfl | rfl <;> rfl) hq h
        · cases h
      · cases h
  · rw [h0] at h
    match st, h with
    | .ref x :: .ref q :: r, h =>
      replace h : (if z_kind q = a.1 then k (pc + 3) lv r (σ.1, z_up σ.2.1 q a.2.1 (some x), σ.2.2) else none) = some (o, τ, t) := h
      split at h
      · rename_i hq
        have hobj : ∀ ty, parseFieldDescriptor (z_T a.1 a.2.1).2.2.1 = some ty → ((∃ C, ty = .object C) ∨ ∃ t, ty = .array t) → W p l e R s mi args below meth c H locs cells slots Q (F0 mi pc ls ((Value.ref x :: Value.ref q :: r).map (z_tv ad))) := by
          intro ty hp hk2
          refine go q r (.ref x) (σ.1, z_up σ.2.1 q a.2.1 (some x), σ.2.2) ty hq hp (by rcases hk2 with ⟨C, rfl⟩ | ⟨t, rfl⟩ <;> rfl) (by rcases hk2 with ⟨C, rfl⟩ | ⟨t, rfl⟩ <;> rfl) ?_ ?_ ?_ rfl h
          · unfold z_fv
            rw [hof]
            dsimp only
            rw [hr, h0]
            simp [z_up, z_tv, va_rf]
          · intro i hi
            unfold z_fv
            simp [z_up, hi]
          · intro y hyq
            exact ⟨rfl, z_upo hyq⟩
        rcases h1 with ⟨C, hp⟩ | ⟨ty, hp⟩
        · exact hobj _ hp (Or.inl ⟨C, rfl⟩)
        · exact hobj _ hp (Or.inr ⟨ty, rfl⟩)
      · cases h
theorem zw_iaload (hx : p.tables.exec = Jvm.exec) (hb : c.code = cc) {a : Nat × Nat × Nat} {L : Nat} {xs : Nat → Int32} (hKn : va_K D vwCl (z_tys kc) s) (hX : va_X (ad 300) L xs s s.heap ∧ ad 300 < s.heap.size ∧ ¬ z_A ad s.heap.size (ad 300)) (hd : decode cc pc = .ok (.iaload, 1)) (hk : z_K p l e R s mi args below meth c Q D kc ad nL o τ MC MS k) : z_Wg p l e R s mi args below meth c Q D kc ad nL o τ MC MS pc lv st σ (z_ald L xs 1 a pc lv st σ k 10) := by
  intro t H locs ls cells slots h hP hS hl hn hc hs
  unfold z_ald at h
  split at h
  · rename_i i q r
    split at h
    · split at h
      · rename_i hq
        subst hq
        rw [if_pos rfl] at h
        split at h
        · rename_i hin
          exact va_sld hx hb hX.1 hX.2.1 hX.2.2 hS hin hd (hk _ _ _ _ _ _ _ _ _ _ h hP hS hl hn hc hs)
        · cases h
      · cases h
    · split at h
      · rename_i hq
        split at h
        · rename_i hin
          exact va_iald hx hb hKn hP q 0 (by rw [z_ws_get (z_kind_lt hq (by omega)), z_cell_10 hq]) rfl hin hd (hk _ _ _ _ _ _ _ _ _ _ h hP hS hl hn hc hs)
        · cases h
      · cases h
  · cases h
theorem zw_baload (hx : p.tables.exec = Jvm.exec) (hb : c.code = cc) {a : Nat × Nat × Nat} {L : Nat} {xs : Nat → Int32} (hKn : va_K D vwCl (z_tys kc) s) (hd : decode cc pc = .ok (.baload, 1)) (hk : z_K p l e R s mi args below meth c Q D kc ad nL o τ MC MS k) : z_Wg p l e R s mi args below meth c Q D kc ad nL o τ MC MS pc lv st σ (z_ald L xs 1 a pc lv st σ k 11) := by
  intro t H locs ls cells slots h hP hS hl hn hc hs
  unfold z_ald at h
  split at h
  · rename_i i q r
    split at h
    · split at h
      · rw [if_neg (by omega)] at h
        cases h
      · cases h
    · split at h
      · rename_i hq
        split at h
        · rename_i hin
          exact va_zald hx hb hKn hP q 1 (by rw [z_ws_get (z_kind_lt hq (by omega)), z_cell_11 hq]) rfl hin hd (hk _ _ _ _ _ _ _ _ _ _ h hP hS hl hn hc hs)
        · cases h
      · cases h
  · cases h
theorem zw_iastore (hx : p.tables.exec = Jvm.exec) (hb : c.code = cc) (hKn : va_K D vwCl (z_tys kc) s) (hinj : ∀ i j, i < 125 → j < 125 → ad i = ad j → i = j) (hd : decode cc pc = .ok (.iastore, 1)) (hk : z_K p l e R s mi args below meth c Q D kc ad nL o τ MC MS k) : z_Wg p l e R s mi args below meth c Q D kc ad nL o τ MC MS pc lv st σ (z_ast 1 pc lv st σ k 10) := by
  intro t H locs ls cells slots h hP hS hl hn hc hs
  unfold z_ast at h
  split at h
  · rename_i x i q r
    split at h
    · rename_i hq
      split at h
      · rename_i hin
        have hlt := z_kind_lt hq (by omega)
        refine va_iast hx hb hKn hP ((z_inj_ap hinj).D σ) hS q 0 (by rw [z_ws_get hlt, z_cell_10 hq]) rfl hin hd (fun H1 locs1 hP1 _ hS1 => ?_)
        rw [z_ws_set (kc := kc) (ad := ad) (σ := σ) (τ := (σ.1, σ.2.1, z_up σ.2.2.1 q i.toNatClampNeg x, σ.2.2.2)) hlt (z_cell_10u hq) (fun y hy => z_cell_cong rfl rfl (z_upo hy) (fun _ => rfl) (fun _ => rfl))] at hP1
        exact hk _ _ _ _ _ _ _ _ _ _ h hP1 hS1 hl hn hc hs
      · cases h
    · cases h
  · cases h
theorem zw_bastore (hx : p.tables.exec = Jvm.exec) (hb : c.code = cc) (hKn : va_K D vwCl (z_tys kc) s) (hinj : ∀ i j, i < 125 → j < 125 → ad i = ad j → i = j) (hd : decode cc pc = .ok (.bastore, 1)) (hk : z_K p l e R s mi args below meth c Q D kc ad nL o τ MC MS k) : z_Wg p l e R s mi args below meth c Q D kc ad nL o τ MC MS pc lv st σ (z_ast 1 pc lv st σ k 11) := by
  intro t H locs ls cells slots h hP hS hl hn hc hs
  unfold z_ast at h
  split at h
  · rename_i x i q r
    split at h
    · rename_i hq
      split at h
      · rename_i hin
        have hlt := z_kind_lt hq (by omega)
        replace h : (if x = 0 ∨ x = 1 then k (pc + 1) lv r (σ.1, σ.2.1, z_up σ.2.2.1 q i.toNatClampNeg x, σ.2.2.2) else none) = some (o, τ, t) := h
        split at h
        · rename_i h01
          have hx1 : vp_nar .boolean x = x := by rcases h01 with rfl | rfl <;> rfl
          refine va_zast hx hb hKn hP ((z_inj_ap hinj).D σ) hS q 1 (by rw [z_ws_get hlt, z_cell_11 hq]) rfl hin hd (fun H1 locs1 hP1 _ hS1 => ?_)
          rw [hx1, z_ws_set (kc := kc) (ad := ad) (σ := σ) (τ := (σ.1, σ.2.1, z_up σ.2.2.1 q i.toNatClampNeg x, σ.2.2.2)) hlt (z_cell_11u hq) (fun y hy => z_cell_cong rfl rfl (z_upo hy) (fun _ => rfl) (fun _ => rfl))] at hP1
          exact hk _ _ _ _ _ _ _ _ _ _ h hP1 hS1 hl hn hc hs
        · cases h
      · cases h
    · cases h
  · cases h
theorem z_in01 {i : Int32} (h : i = 0) : vp_in i 1 := by
  subst h
  unfold vp_in
  decide
theorem zw_laload (hx : p.tables.exec = Jvm.exec) (hb : c.code = cc) (hKn : va_K D vwCl (z_tys kc) s) (hd : decode cc pc = .ok (.laload, 1)) (hk : z_K p l e R s mi args below meth c Q D kc ad nL o τ MC MS k) (L : Nat) (xs : Nat → Int32) (a : Nat × Nat × Nat) (v : Value) (sw : List (Int32 × Nat)) (cl : Nat → zL → zSt → Option zOut) : z_Wg p l e R s mi args below meth c Q D kc ad nL o τ MC MS pc lv st σ (z_stp L xs 1 a v sw pc lv st σ k cl .laload) := by
  intro t H locs ls cells slots h hP hS hl hn hc hs
  dsimp only [z_stp] at h
  split at h
  · rename_i i q r
    split at h
    · rename_i hq
      split at h
      · rename_i hi
        subst hi
        exact va_lald (f := fun j => if j = 0 then σ.2.2.2.1 else 0) hx hb hKn hP q 2 (by rw [z_ws_get (z_kind_lt hq (by omega)), z_cell_12 hq]) rfl (z_in01 rfl) hd (hk _ _ _ _ _ _ _ _ _ _ h hP hS hl hn hc hs)
      · cases h
    · cases h
  · cases h
theorem zw_daload (hx : p.tables.exec = Jvm.exec) (hb : c.code = cc) (hKn : va_K D vwCl (z_tys kc) s) (hd : decode cc pc = .ok (.daload, 1)) (hk : z_K p l e R s mi args below meth c Q D kc ad nL o τ MC MS k) (L : Nat) (xs : Nat → Int32) (a : Nat × Nat × Nat) (v : Value) (sw : List (Int32 × Nat)) (cl : Nat → zL → zSt → Option zOut) : z_Wg p l e R s mi args below meth c Q D kc ad nL o τ MC MS pc lv st σ (z_stp L xs 1 a v sw pc lv st σ k cl .daload) := by
  intro t H locs ls cells slots h hP hS hl hn hc hs
  dsimp only [z_stp] at h
  split at h
  · rename_i i q r
    split at h
    · rename_i hq
      split at h
      · rename_i hi
        subst hi
        exact va_dald (f := fun j => if j = 0 then σ.2.2.2.2 else 0) hx hb hKn hP q 3 (by rw [z_ws_get (z_kind_lt hq (by omega)), z_cell_13 hq]) rfl (z_in01 rfl) hd (hk _ _ _ _ _ _ _ _ _ _ h hP hS hl hn hc hs)
      · cases h
    · cases h
  · cases h
theorem zw_lastore (hx : p.tables.exec = Jvm.exec) (hb : c.code = cc) (hKn : va_K D vwCl (z_tys kc) s) (hinj : ∀ i j, i < 125 → j < 125 → ad i = ad j → i = j) (hone : ∀ i, z_kind i = 12 → i = 123) (hd : decode cc pc = .ok (.lastore, 1)) (hk : z_K p l e R s mi args below meth c Q D kc ad nL o τ MC MS k) (L : Nat) (xs : Nat → Int32) (a : Nat × Nat × Nat) (v : Value) (sw : List (Int32 × Nat)) (cl : Nat → zL → zSt → Option zOut) : z_Wg p l e R s mi args below meth c Q D kc ad nL o τ MC MS pc lv st σ (z_stp L xs 1 a v sw pc lv st σ k cl .lastore) := by
  intro t H locs ls cells slots h hP hS hl hn hc hs
  dsimp only [z_stp] at h
  split at h
  · rename_i x i q r
    split at h
    · rename_i hq
      split at h
      · rename_i hi
        subst hi
        have hlt := z_kind_lt hq (by omega)
        refine va_last hx hb hKn hP ((z_inj_ap hinj).D σ) hS q 2 (by rw [z_ws_get hlt, z_cell_12 hq]) rfl (z_in01 rfl) hd (fun H1 locs1 hP1 _ hS1 => ?_)
        rw [z_ws_set (kc := kc) (ad := ad) (σ := σ) (τ := (σ.1, σ.2.1, σ.2.2.1, x, σ.2.2.2.2)) hlt (z_cell_12u (y := σ.2.2.2.1) hq) (fun y hy => z_cell_cong rfl rfl rfl (fun h12 => absurd ((hone y h12).trans (hone q hq).symm) hy) (fun _ => rfl))] at hP1
        exact hk _ _ _ _ _ _ _ _ _ _ h hP1 hS1 hl hn hc hs
      · cases h
    · cases h
  · cases h
theorem zw_dastore (hx : p.tables.exec = Jvm.exec) (hb : c.code = cc) (hKn : va_K D vwCl (z_tys kc) s) (hinj : ∀ i j, i < 125 → j < 125 → ad i = ad j → i = j) (hone : ∀ i, z_kind i = 13 → i = 124) (hd : decode cc pc = .ok (.dastore, 1)) (hk : z_K p l e R s mi args below meth c Q D kc ad nL o τ MC MS k) (L : Nat) (xs : Nat → Int32) (a : Nat × Nat × Nat) (v : Value) (sw : List (Int32 × Nat)) (cl : Nat → zL → zSt → Option zOut) : z_Wg p l e R s mi args below meth c Q D kc ad nL o τ MC MS pc lv st σ (z_stp L xs 1 a v sw pc lv st σ k cl .dastore) := by
  intro t H locs ls cells slots h hP hS hl hn hc hs
  dsimp only [z_stp] at h
  split at h
  · rename_i x i q r
    split at h
    · rename_i hq
      split at h
      · rename_i hi
        subst hi
        have hlt := z_kind_lt hq (by omega)
        refine va_dast hx hb hKn hP ((z_inj_ap hinj).D σ) hS q 3 (by rw [z_ws_get hlt, z_cell_13 hq]) rfl (z_in01 rfl) hd (fun H1 locs1 hP1 _ hS1 => ?_)
        rw [z_ws_set (kc := kc) (ad := ad) (σ := σ) (τ := (σ.1, σ.2.1, σ.2.2.1, σ.2.2.2.1, x)) hlt (z_cell_13u (y := σ.2.2.2.2) hq) (fun y hy => z_cell_cong rfl rfl rfl (fun _ => rfl) (fun h12 => absurd ((hone y h12).trans (hone q hq).symm) hy))] at hP1
        exact hk _ _ _ _ _ _ _ _ _ _ h hP1 hS1 hl hn hc hs
      · cases h
    · cases h
  · cases h
theorem zw_aaload (hx : p.tables.exec = Jvm.exec) (hb : c.code = cc) (hKn : va_K D vwCl (z_tys kc) s) (hd : decode cc pc = .ok (.aaload, 1)) (hk : z_K p l e R s mi args below meth c Q D kc ad nL o τ MC MS k) (L : Nat) (xs : Nat → Int32) (a : Nat × Nat × Nat) (v : Value) (sw : List (Int32 × Nat)) (cl : Nat → zL → zSt → Option zOut) : z_Wg p l e R s mi args below meth c Q D kc ad nL o τ MC MS pc lv st σ (z_stp L xs 1 a v sw pc lv st σ k cl .aaload) := by
  intro t H locs ls cells slots h hP hS hl hn hc hs
  dsimp only [z_stp] at h
  split at h
  · rename_i i q r
    split at h
    · rename_i hq
      split at h
      · rename_i hin
        have he := hP q _ (by rw [z_ws_get (z_kind_lt hq (by omega)), z_cell_14 hq])
        have hlt : i.toNatClampNeg < z_len q := Nat.not_le.mp fun z => hin (Or.inr z)
        have := hk _ _ _ _ _ _ _ _ _ _ h hP hS hl hn hc hs
        refine W.aald (v := va_rf (some (ad (q + (1 + i.toNatClampNeg))))) (ty := .array .int) hx hb he ((hKn.2 4 _ rfl).1 (z_len q) (fun j => va_rf (some (ad (q + (1 + j)))))) rfl (fun q => by cases q) (by show ¬ (i < 0 ∨ (arrV _ _ _).slots.size ≤ _); rw [arrV_size]; exact hin) (by show (arrV _ _ _).slots[_]? = _; rw [arrV_read _ _ hlt]) rfl rfl hd ?_
        exact this
      · cases h
    · cases h
  · cases h
theorem zw_alen (hx : p.tables.exec = Jvm.exec) (hb : c.code = cc) {L : Nat} {xs : Nat → Int32} (hKn : va_K D vwCl (z_tys kc) s) (hX : va_X (ad 300) L xs s s.heap ∧ ad 300 < s.heap.size ∧ ¬ z_A ad s.heap.size (ad 300)) (hd : decode cc pc = .ok (.arraylength, 1)) (hk : z_K p l e R s mi args below meth c Q D kc ad nL o τ MC MS k) (ys : Nat → Int32) (a : Nat × Nat × Nat) (v : Value) (sw : List (Int32 × Nat)) (cl : Nat → zL → zSt → Option zOut) : z_Wg p l e R s mi args below meth c Q D kc ad nL o τ MC MS pc lv st σ (z_stp L ys 1 a v sw pc lv st σ k cl .arraylength) := by
  intro t H locs ls cells slots h hP hS hl hn hc hs
  dsimp only [z_stp] at h
  split at h
  · rename_i q r
    split at h
    · split at h
      · rename_i hq
        subst hq
        exact va_slen hx hb hX.1 hX.2.1 hX.2.2 hS hd (hk _ _ _ _ _ _ _ _ _ _ h hP hS hl hn hc hs)
      · cases h
    · split at h
      · rename_i hq
        exact va_alen (x := (z_len q, .inl (σ.2.2.1 q))) hx hb hKn hP q 0 (by rw [z_ws_get (z_kind_lt hq (by omega)), z_cell_10 hq]) (ty := .int) rfl rfl hd (hk _ _ _ _ _ _ _ _ _ _ h hP hS hl hn hc hs)
      · cases h
  · cases h
end ZW
