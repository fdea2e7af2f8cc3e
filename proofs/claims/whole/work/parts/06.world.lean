/-! THE WORLD of a plain state: ad gives each place its address, kc each kind of array its class -/
def z_tv (ad : Nat → Nat) (v : Value) : Value := match v with
  | .ref k => .ref (ad k)
  | v => v
def z_isR (ci j : Nat) : Bool := match (vwCl.getD ci ("", (fun _ => ("", "", "", false)), 0)).2.1 j with
  | (_, _, d, _) => !(d == "I") && !(d == "Z")
def z_N (ci : Nat) : Nat := (vwCl.getD ci ("", (fun _ => ("", "", "", false)), 0)).2.2
def z_T (ci : Nat) : u_T := (vwCl.getD ci ("", (fun _ => ("", "", "", false)), 0)).2.1
def z_C (ci : Nat) : String := (vwCl.getD ci ("", (fun _ => ("", "", "", false)), 0)).1
def z_fv (ad : Nat → Nat) (σ : zSt) (ci k j : Nat) : Value := match z_off ci j with
  | some f => .ref (ad (k + f))
  | none => if z_isR ci j = true then va_rf ((σ.2.1 k j).map ad) else .int (σ.1 k j)
def z_obj (ad : Nat → Nat) (σ : zSt) (ci k : Nat) : List Value := (List.range (z_N ci)).map (z_fv ad σ ci k)
def z_cell (kc : Nat → ClassId) (ad : Nat → Nat) (σ : zSt) (k : Nat) : va_E := match z_kind k with
  | 10 => .inl (kc 10, z_len k, .inl (σ.2.2.1 k))
  | 11 => .inl (kc 11, z_len k, .inl (σ.2.2.1 k))
  | 12 => .inl (kc 12, 1, .inr (.inl (fun j => if j = 0 then σ.2.2.2.1 else 0)))
  | 13 => .inl (kc 13, 1, .inr (.inr (.inr (.inl (fun j => if j = 0 then σ.2.2.2.2 else 0)))))
  | 14 => .inl (kc 14, z_len k, .inr (.inr (.inr (.inr (fun j => some (ad (k + (1 + j))))))))
  | c => .inr (c, z_obj ad σ c k)
def z_ws (kc : Nat → ClassId) (ad : Nat → Nat) (σ : zSt) : va_W := (List.range 125).map fun k => (ad k, z_cell kc ad σ k)
def z_tys (kc : Nat → ClassId) : List (ClassId × FieldType) := [(kc 10, .int), (kc 11, .boolean), (kc 12, .long), (kc 13, .double), (kc 14, .array .int)]
theorem z_ws_get {kc : Nat → ClassId} {ad : Nat → Nat} {σ : zSt} {k : Nat} (h : k < 125) : (z_ws kc ad σ)[k]? = some (ad k, z_cell kc ad σ k) := by
  unfold z_ws
  rw [List.getElem?_map, List.getElem?_range h]
  rfl
theorem z_ws_set {kc : Nat → ClassId} {ad : Nat → Nat} {σ τ : zSt} {q : Nat} {e : va_E} (hq : q < 125) (he : z_cell kc ad τ q = e) (ho : ∀ k, k ≠ q → z_cell kc ad τ k = z_cell kc ad σ k) : (z_ws kc ad σ).set q (ad q, e) = z_ws kc ad τ := by
  apply List.ext_getElem?
  intro i
  by_cases hi : i < 125
  · by_cases e1 : i = q
    · subst e1
      rw [z_ws_get hi, List.getElem?_set_self (by simp [z_ws]; exact hi), he]
    · rw [List.getElem?_set_ne (Ne.symm e1), z_ws_get hi, z_ws_get hi, ho i e1]
  · rw [List.getElem?_eq_none (by simp [z_ws]; omega), List.getElem?_eq_none (by simp [z_ws]; omega)]
theorem z_kind_lt {k c : Nat} (h : z_kind k = c) (hc : c < 99) : k < 125 := by
  by_cases hk : k < 125
  · exact hk
  · exfalso
    unfold z_kind at h
    rw [List.getD_eq_getElem?_getD, List.getElem?_eq_none (by show 125 ≤ k; omega)] at h
    simp at h
    omega
/-- addresses apart, all in A -/
def z_ap (ad : Nat → Nat) (A : Nat → Prop) : Prop := (∀ i j, i < 125 → j < 125 → ad i = ad j → i = j) ∧ ∀ i, i < 125 → A (ad i)
theorem z_ap.D {kc : Nat → ClassId} {ad : Nat → Nat} {A : Nat → Prop} (h : z_ap ad A) (σ : zSt) : va_D A (z_ws kc ad σ) := by
  have hl : ∀ {i : Nat} {p : Nat × va_E}, (z_ws kc ad σ)[i]? = some p → i < 125 ∧ p.1 = ad i := by
    intro i p hp
    have h1 : i < 125 := by
      have := (List.getElem?_eq_some_iff.mp hp).1
      simpa [z_ws] using this
    rw [z_ws_get h1] at hp
    cases hp
    exact ⟨h1, rfl⟩
  refine ⟨fun i j p q hp hq e => ?_, fun k q hq => ?_⟩
  · obtain ⟨h1, h2⟩ := hl hp
    obtain ⟨h3, h4⟩ := hl hq
    exact h.1 i j h1 h3 (by rw [← h2, ← h4]; exact e)
  · obtain ⟨h1, h2⟩ := hl hq
    rw [h2]
    exact h.2 k h1
theorem z_upd {f : Nat → Nat → Int32} {q i : Nat} {x : Int32} : z_up f q i x q = upd (f q) i x := by
  funext b
  simp [z_up, upd]
theorem z_upo {α : Type} {f : Nat → Nat → α} {q i k : Nat} {x : α} (h : k ≠ q) : z_up f q i x k = f k := by
  funext b
  simp [z_up, h]
theorem z_cell_cong {kc : Nat → ClassId} {ad : Nat → Nat} {σ τ : zSt} {k : Nat} (h1 : τ.1 k = σ.1 k) (h2 : τ.2.1 k = σ.2.1 k) (h3 : τ.2.2.1 k = σ.2.2.1 k) (h4 : z_kind k = 12 → τ.2.2.2.1 = σ.2.2.2.1) (h5 : z_kind k = 13 → τ.2.2.2.2 = σ.2.2.2.2) : z_cell kc ad τ k = z_cell kc ad σ k := by
  have hob : ∀ c, z_obj ad τ c k = z_obj ad σ c k := fun c => by
    unfold z_obj
    apply List.map_congr_left
    intro j _
    unfold z_fv
    rw [h1, h2]
  unfold z_cell
  split
  · rw [h3]
  · rw [h3]
  · rename_i hk
    rw [h4 hk]
  · rename_i hk
    rw [h5 hk]
  · rfl
  · rw [hob]
theorem z_obj_get {ad : Nat → Nat} {σ : zSt} {ci k j : Nat} (h : j < z_N ci) : (z_obj ad σ ci k)[j]? = some (z_fv ad σ ci k j) := by
  unfold z_obj
  rw [List.getElem?_map, List.getElem?_range h]
  rfl
theorem z_obj_set {ad : Nat → Nat} {σ τ : zSt} {ci k j : Nat} {v : Value} (hv : z_fv ad τ ci k j = v) (ho : ∀ i, i ≠ j → z_fv ad τ ci k i = z_fv ad σ ci k i) : (z_obj ad σ ci k).set j v = z_obj ad τ ci k := by
  apply List.ext_getElem?
  intro i
  by_cases hi : i < z_N ci
  · by_cases e1 : i = j
    · subst e1
      rw [z_obj_get hi, List.getElem?_set_self (by simp [z_obj]; exact hi), hv]
    · rw [List.getElem?_set_ne (Ne.symm e1), z_obj_get hi, z_obj_get hi, ho i e1]
  · rw [List.getElem?_eq_none (by simp [z_obj]; omega), List.getElem?_eq_none (by simp [z_obj]; omega)]
/-- the locals hold what the list says -/
def z_lc (ad : Nat → Nat) (l : zL) (ls : Array Slot) : Prop := ls.size = l.length ∧ lv_wf ls ∧ ∀ i v, z_ld l i = some v → ls[i]? = some (.val (z_tv ad v))
def z_lv (ad : Nat → Nat) (l : zL) : List (Nat × Value) := (List.range l.length).filterMap fun i => (z_ld l i).map fun v => (i, z_tv ad v)
theorem z_ld_lt {l : zL} {i : Nat} {v : Value} (h : z_ld l i = some v) : i < l.length := by
  unfold z_ld at h
  by_cases hi : i < l.length
  · exact hi
  · rw [List.getElem?_eq_none (by omega)] at h
    cases h
theorem z_lv_mem {ad : Nat → Nat} {l : zL} {i : Nat} {v : Value} (h : z_ld l i = some v) : (i, z_tv ad v) ∈ z_lv ad l := by
  unfold z_lv
  rw [List.mem_filterMap]
  exact ⟨i, List.mem_range.mpr (z_ld_lt h), by rw [h]; rfl⟩
theorem z_lc.has {ad : Nat → Nat} {l : zL} {ls : Array Slot} (h : z_lc ad l ls) : lv_has ls l.length (z_lv ad l) := by
  refine ⟨h.1, h.2.1, fun q hq => ?_⟩
  unfold z_lv at hq
  rw [List.mem_filterMap] at hq
  obtain ⟨i, -, hi⟩ := hq
  cases e : z_ld l i with
  | none => rw [e] at hi; cases hi
  | some v =>
    rw [e] at hi
    cases hi
    exact h.2.2 i v e
theorem z_ld_set {l : zL} {i j : Nat} {r : Option Value} : z_ld (l.set i r) j = if i = j ∧ j < l.length then r else z_ld l j := by
  unfold z_ld
  rw [List.getElem?_set]
  by_cases e : i = j
  · subst e
    by_cases h : i < l.length
    · simp [h]
    · simp [h, List.getElem?_eq_none (Nat.le_of_not_lt h)]
  · simp [e]
theorem z_tv_cat (ad : Nat → Nat) (v : Value) : (z_tv ad v).category = v.category := by cases v <;> rfl
theorem z_ok_cat {l : zL} {i j : Nat} {v : Value} (h : z_ok l i = true) (hj : j + 1 = i) (hv : z_ld l j = some v) : ¬ v.category = 2 := by
  subst hj
  unfold z_ok at h
  dsimp only at h
  rw [hv] at h
  cases v <;> simp_all [Value.category]
theorem z_lc.st1 {ad : Nat → Nat} {l : zL} {ls' : Array Slot} {i : Nat} {v : Value} (hok : z_ok l i = true) (h : lv_has ls' l.length ((i, z_tv ad v) :: (z_lv ad l).filter (fun q => !(q.1 == i) && !(q.1 + 1 == i && q.2.category == 2)))) : z_lc ad (l.set i (some v)) ls' := by
  refine ⟨by rw [List.length_set]; exact h.1, h.2.1, fun j w hj => ?_⟩
  rw [z_ld_set] at hj
  by_cases e : i = j ∧ j < l.length
  · rw [if_pos e] at hj
    cases hj
    obtain ⟨rfl, -⟩ := e
    exact h.2.2 _ List.mem_cons_self
  · rw [if_neg e] at hj
    have hlt := z_ld_lt hj
    have hij : ¬ j = i := fun q => e ⟨q.symm, hlt⟩
    refine h.2.2 (j, z_tv ad w) (List.mem_cons_of_mem _ (List.mem_filter.mpr ⟨z_lv_mem hj, ?_⟩))
    have hc : j + 1 = i → ¬ w.category = 2 := fun q => z_ok_cat hok q hj
    simp only [z_tv_cat]
    by_cases q : j + 1 = i
    · have := hc q
      simp [hij, this]
    · simp [hij, q]
theorem z_lc.st2 {ad : Nat → Nat} {l : zL} {ls' : Array Slot} {i : Nat} {v : Value} (hok : z_ok l i = true) (h : lv_has ls' l.length ((i, z_tv ad v) :: (z_lv ad l).filter (fun q => !(q.1 == i) && (!(q.1 == i + 1) && !(q.1 + 1 == i && q.2.category == 2))))) : z_lc ad ((l.set i (some v)).set (i + 1) none) ls' := by
  refine ⟨by rw [List.length_set, List.length_set]; exact h.1, h.2.1, fun j w hj => ?_⟩
  rw [z_ld_set] at hj
  by_cases e0 : i + 1 = j ∧ j < (l.set i (some v)).length
  · rw [if_pos e0] at hj
    cases hj
  · rw [if_neg e0, z_ld_set] at hj
    by_cases e : i = j ∧ j < l.length
    · rw [if_pos e] at hj
      cases hj
      obtain ⟨rfl, -⟩ := e
      exact h.2.2 _ List.mem_cons_self
    · rw [if_neg e] at hj
      have hlt := z_ld_lt hj
      have hij : ¬ j = i := fun q => e ⟨q.symm, hlt⟩
      have hij1 : ¬ j = i + 1 := fun q => e0 ⟨q.symm, by rw [List.length_set]; exact hlt⟩
      refine h.2.2 (j, z_tv ad w) (List.mem_cons_of_mem _ (List.mem_filter.mpr ⟨z_lv_mem hj, ?_⟩))
      have hc : j + 1 = i → ¬ w.category = 2 := fun q => z_ok_cat hok q hj
      simp only [z_tv_cat]
      by_cases q : j + 1 = i
      · have := hc q
        simp [hij, hij1, this]
      · simp [hij, hij1, q]
/-- the locals at a method's entry -/
theorem z_ent_ld (ad : Nat → Nat) : ∀ (args : List Value) (n k : Nat) (i : Nat) (v : Value), z_ld ((args.flatMap fun v => if v.category = 2 then [some v, none] else [some v]) ++ List.replicate n none) i = some v → (i + k, z_tv ad v) ∈ lv_args k (args.map (z_tv ad)) := by
  intro args
  induction args with
  | nil =>
    intro n k i v h
    exfalso
    unfold z_ld at h
    simp only [List.flatMap_nil, List.nil_append, List.getElem?_replicate] at h
    split at h
    · rename_i hh
      split at hh <;> simp_all
    · cases h
  | cons a t ih =>
    intro n k i v h
    simp only [List.flatMap_cons, List.map_cons, lv_args, z_tv_cat]
    by_cases hc : a.category = 2
    · rw [if_pos hc]
      simp only [List.flatMap_cons, if_pos hc] at h
      match i with
      | 0 =>
        simp [z_ld] at h
        subst h
        simp
      | 1 => simp [z_ld] at h
      | i + 2 =>
        have h' := ih n (k + 2) i v (by simpa [z_ld] using h)
        refine List.mem_cons_of_mem _ ?_
        rw [show i + 2 + k = i + (k + 2) by omega]
        exact h'
    · rw [if_neg hc]
      simp only [List.flatMap_cons, if_neg hc] at h
      match i with
      | 0 =>
        simp [z_ld] at h
        subst h
        simp
      | i + 1 =>
        have h' := ih n (k + 1) i v (by simpa [z_ld] using h)
        refine List.mem_cons_of_mem _ ?_
        rw [show i + 1 + k = i + (k + 1) by omega]
        exact h'
theorem z_flat_len (args : List Value) : (args.flatMap fun v => if v.category = 2 then [some v, none] else [some v]).length = (args.map fun v => v.category).sum := by
  induction args with
  | nil => rfl
  | cons a t ih =>
    rw [List.flatMap_cons, List.length_append, ih, List.map_cons, List.sum_cons]
    cases a <;> simp [Value.category]
theorem z_sl_len (args : List Value) : (lg_sl args).length = (args.map fun v => v.category).sum := by
  induction args with
  | nil => rfl
  | cons a t ih =>
    have e : lg_sl (a :: t) = (if a.category = 2 then [Slot.val a, Slot.second] else [Slot.val a]) ++ lg_sl t := by simp [lg_sl]
    rw [e, List.length_append, ih, List.map_cons, List.sum_cons]
    cases a <;> simp [Value.category]
theorem z_cats (ad : Nat → Nat) (args : List Value) : ((args.map (z_tv ad)).map fun v => v.category) = args.map fun v => v.category := by
  rw [List.map_map]
  apply List.map_congr_left
  intro v _
  exact z_tv_cat ad v
theorem z_entry (ad : Nat → Nat) (args : List Value) (n : Nat) (h : (args.map fun v => v.category).sum ≤ n) : z_lc ad (z_ent n args) ((lg_sl (args.map (z_tv ad)) ++ List.replicate (n - (lg_sl (args.map (z_tv ad))).length) Slot.unset).toArray) := by
  have hl : (lg_sl (args.map (z_tv ad))).length = (args.map fun v => v.category).sum := by rw [z_sl_len, z_cats]
  have hh := lv_entry (args.map (z_tv ad)) (n := n) (by rw [hl]; exact h)
  refine ⟨?_, hh.2.1, fun i v hv => ?_⟩
  · rw [hh.1]
    unfold z_ent
    rw [List.length_append, List.length_replicate, z_flat_len]
    omega
  · have := z_ent_ld ad args _ 0 i v hv
    exact hh.2.2 (i, z_tv ad v) this
