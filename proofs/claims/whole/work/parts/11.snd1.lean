/-! SOUNDNESS of the interpreter: a run of it is a walk of the machine -/
def z_A (ad : Nat → Nat) (sz : Nat) : Nat → Prop := fun q => (∃ k, k < 125 ∧ q = ad k) ∨ sz ≤ q
/-- r tells what comes of the frame at pc: then the machine goes there -/
def z_Wg (p : Program) (l : Launch) (e : Env) (R : Room) (s : State) (mi : MethodId) (args : Array Value) (below : List Frame) (meth : Method) (c : Code) (Q : State → Prop) (D : va_G) (kc : Nat → ClassId) (ad : Nat → Nat) (nL : Nat) (o : Option Value ⊕ Nat) (τ : zSt) (MC MS : Nat) (pc : Nat) (lv : zL) (st : List Value) (σ : zSt) (r : Option zOut) : Prop :=
  ∀ (t : Nat) (H : Heap) (locs : List Loc) (ls : Array Slot) (cells slots : Nat), r = some (o, τ, t) → va_P D vwCl (z_ws kc ad σ) H → va_S (z_A ad s.heap.size) s.heap H locs → z_lc ad lv ls → lv.length = nL → cells + t = MC → slots + 6 * t = MS → W p l e R s mi args below meth c H locs cells slots Q (F0 mi pc ls (st.map (z_tv ad)))
def z_K (p : Program) (l : Launch) (e : Env) (R : Room) (s : State) (mi : MethodId) (args : Array Value) (below : List Frame) (meth : Method) (c : Code) (Q : State → Prop) (D : va_G) (kc : Nat → ClassId) (ad : Nat → Nat) (nL : Nat) (o : Option Value ⊕ Nat) (τ : zSt) (MC MS : Nat) (k : Nat → zL → List Value → zSt → Option zOut) : Prop :=
  ∀ (pc : Nat) (lv : zL) (st : List Value) (σ : zSt), z_Wg p l e R s mi args below meth c Q D kc ad nL o τ MC MS pc lv st σ (k pc lv st σ)
section ZW
variable {p : Program} {l : Launch} {e : Env} {R : Room} {s : State} {mi : MethodId} {args : Array Value} {below : List Frame} {meth : Method} {c : Code} {Q : State → Prop} {D : va_G} {kc : Nat → ClassId} {ad : Nat → Nat} {nL : Nat} {o : Option Value ⊕ Nat} {τ : zSt} {MC MS : Nat} {cc : ByteArray} {k : Nat → zL → List Value → zSt → Option zOut} {pc : Nat} {lv : zL} {st : List Value} {σ : zSt}
theorem zw_iload_n (hx : p.tables.exec = Jvm.exec) (hb : c.code = cc) {n : Fin 4} (hd : decode cc pc = .ok (.iload_n n, 1)) (hk : z_K p l e R s mi args below meth c Q D kc ad nL o τ MC MS k) : z_Wg p l e R s mi args below meth c Q D kc ad nL o τ MC MS pc lv st σ (z_lod 1 pc lv st σ k n 0) := by
  intro t H locs ls cells slots h hP hS hl hn hc hs
  unfold z_lod at h
  cases hv : z_ld lv n with
  | none => rw [hv] at h; cases h
  | some v =>
    rw [hv] at h
    cases v with
    | int x => exact lv_iload_n hx hb hd rfl (hl.2.2 _ _ hv) (hk _ _ _ _ _ _ _ _ _ _ h hP hS hl hn hc hs)
    | _ => cases h
theorem zw_iload (hx : p.tables.exec = Jvm.exec) (hb : c.code = cc) {n : Nat} (hd : decode cc pc = .ok (.iload n, 2)) (hk : z_K p l e R s mi args below meth c Q D kc ad nL o τ MC MS k) : z_Wg p l e R s mi args below meth c Q D kc ad nL o τ MC MS pc lv st σ (z_lod 2 pc lv st σ k n 0) := by
  intro t H locs ls cells slots h hP hS hl hn hc hs
  unfold z_lod at h
  cases hv : z_ld lv n with
  | none => rw [hv] at h; cases h
  | some v =>
    rw [hv] at h
    cases v with
    | int x => exact lv_iload hx hb hd (hl.2.2 _ _ hv) (hk _ _ _ _ _ _ _ _ _ _ h hP hS hl hn hc hs)
    | _ => cases h
theorem zw_aload_n (hx : p.tables.exec = Jvm.exec) (hb : c.code = cc) {n : Fin 4} (hd : decode cc pc = .ok (.aload_n n, 1)) (hk : z_K p l e R s mi args below meth c Q D kc ad nL o τ MC MS k) : z_Wg p l e R s mi args below meth c Q D kc ad nL o τ MC MS pc lv st σ (z_lod 1 pc lv st σ k n 1) := by
  intro t H locs ls cells slots h hP hS hl hn hc hs
  unfold z_lod at h
  cases hv : z_ld lv n with
  | none => rw [hv] at h; cases h
  | some v =>
    rw [hv] at h
    cases v with
    | ref x => exact lv_aload_n hx hb hd rfl (hl.2.2 _ _ hv) (hk _ _ _ _ _ _ _ _ _ _ h hP hS hl hn hc hs)
    | _ => cases h
theorem zw_aload (hx : p.tables.exec = Jvm.exec) (hb : c.code = cc) {n : Nat} (hd : decode cc pc = .ok (.aload n, 2)) (hk : z_K p l e R s mi args below meth c Q D kc ad nL o τ MC MS k) : z_Wg p l e R s mi args below meth c Q D kc ad nL o τ MC MS pc lv st σ (z_lod 2 pc lv st σ k n 1) := by
  intro t H locs ls cells slots h hP hS hl hn hc hs
  unfold z_lod at h
  cases hv : z_ld lv n with
  | none => rw [hv] at h; cases h
  | some v =>
    rw [hv] at h
    cases v with
    | ref x => exact lv_aload hx hb hd (hl.2.2 _ _ hv) (hk _ _ _ _ _ _ _ _ _ _ h hP hS hl hn hc hs)
    | _ => cases h
theorem zw_lload_n (hx : p.tables.exec = Jvm.exec) (hb : c.code = cc) {n : Fin 4} (hd : decode cc pc = .ok (.lload_n n, 1)) (hk : z_K p l e R s mi args below meth c Q D kc ad nL o τ MC MS k) : z_Wg p l e R s mi args below meth c Q D kc ad nL o τ MC MS pc lv st σ (z_lod 1 pc lv st σ k n 2) := by
  intro t H locs ls cells slots h hP hS hl hn hc hs
  unfold z_lod at h
  cases hv : z_ld lv n with
  | none => rw [hv] at h; cases h
  | some v =>
    rw [hv] at h
    cases v with
    | long x => exact lv_lload_n hx hb hd rfl (hl.2.2 _ _ hv) (hk _ _ _ _ _ _ _ _ _ _ h hP hS hl hn hc hs)
    | _ => cases h
theorem zw_lload (hx : p.tables.exec = Jvm.exec) (hb : c.code = cc) {n : Nat} (hd : decode cc pc = .ok (.lload n, 2)) (hk : z_K p l e R s mi args below meth c Q D kc ad nL o τ MC MS k) : z_Wg p l e R s mi args below meth c Q D kc ad nL o τ MC MS pc lv st σ (z_lod 2 pc lv st σ k n 2) := by
  intro t H locs ls cells slots h hP hS hl hn hc hs
  unfold z_lod at h
  cases hv : z_ld lv n with
  | none => rw [hv] at h; cases h
  | some v =>
    rw [hv] at h
    cases v with
    | long x => exact lv_lload hx hb hd (hl.2.2 _ _ hv) (hk _ _ _ _ _ _ _ _ _ _ h hP hS hl hn hc hs)
    | _ => cases h
theorem zw_dload_n (hx : p.tables.exec = Jvm.exec) (hb : c.code = cc) {n : Fin 4} (hd : decode cc pc = .ok (.dload_n n, 1)) (hk : z_K p l e R s mi args below meth c Q D kc ad nL o τ MC MS k) : z_Wg p l e R s mi args below meth c Q D kc ad nL o τ MC MS pc lv st σ (z_lod 1 pc lv st σ k n 3) := by
  intro t H locs ls cells slots h hP hS hl hn hc hs
  unfold z_lod at h
  cases hv : z_ld lv n with
  | none => rw [hv] at h; cases h
  | some v =>
    rw [hv] at h
    cases v with
    | double x => exact lv_dload_n hx hb hd rfl (hl.2.2 _ _ hv) (hk _ _ _ _ _ _ _ _ _ _ h hP hS hl hn hc hs)
    | _ => cases h
theorem zw_dload (hx : p.tables.exec = Jvm.exec) (hb : c.code = cc) {n : Nat} (hd : decode cc pc = .ok (.dload n, 2)) (hk : z_K p l e R s mi args below meth c Q D kc ad nL o τ MC MS k) : z_Wg p l e R s mi args below meth c Q D kc ad nL o τ MC MS pc lv st σ (z_lod 2 pc lv st σ k n 3) := by
  intro t H locs ls cells slots h hP hS hl hn hc hs
  unfold z_lod at h
  cases hv : z_ld lv n with
  | none => rw [hv] at h; cases h
  | some v =>
    rw [hv] at h
    cases v with
    | double x => exact lv_dload hx hb hd (hl.2.2 _ _ hv) (hk _ _ _ _ _ _ _ _ _ _ h hP hS hl hn hc hs)
    | _ => cases h
theorem zw_istore_n (hx : p.tables.exec = Jvm.exec) (hb : c.code = cc) {n : Fin 4} (hd : decode cc pc = .ok (.istore_n n, 1)) (hk : z_K p l e R s mi args below meth c Q D kc ad nL o τ MC MS k) : z_Wg p l e R s mi args below meth c Q D kc ad nL o τ MC MS pc lv st σ (z_sto 1 pc lv st σ k n 0) := by
  intro t H locs ls cells slots h hP hS hl hn hc hs
  unfold z_sto at h
  cases hok : z_ok lv n with
  | false => rw [hok] at h; split at h <;> simp_all
  | true =>
    rw [hok] at h
    match st, h with
    | .int x :: r, h =>
      replace h : (if n.val < lv.length then k (pc + 1) (lv.set n.val (some (.int x))) r σ else none) = some (o, τ, t) := h
      by_cases hlt : n.val < lv.length
      · rw [if_pos hlt] at h
        exact lv_istore_n (lv' := _) hx hb hd rfl hl.has hlt rfl (fun ls' hl' => hk _ _ _ _ _ _ _ _ _ _ h hP hS (z_lc.st1 (v := .int x) hok hl') (by simp only [List.length_set]; exact hn) hc hs)
      · rw [if_neg hlt] at h; cases h
theorem zw_istore (hx : p.tables.exec = Jvm.exec) (hb : c.code = cc) {n : Nat} (hd : decode cc pc = .ok (.istore n, 2)) (hk : z_K p l e R s mi args below meth c Q D kc ad nL o τ MC MS k) : z_Wg p l e R s mi args below meth c Q D kc ad nL o τ MC MS pc lv st σ (z_sto 2 pc lv st σ k n 0) := by
  intro t H locs ls cells slots h hP hS hl hn hc hs
  unfold z_sto at h
  cases hok : z_ok lv n with
  | false => rw [hok] at h; split at h <;> simp_all
  | true =>
    rw [hok] at h
    match st, h with
    | .int x :: r, h =>
      replace h : (if n < lv.length then k (pc + 2) (lv.set n (some (.int x))) r σ else none) = some (o, τ, t) := h
      by_cases hlt : n < lv.length
      · rw [if_pos hlt] at h
        exact lv_istore (lv' := _) hx hb hd hl.has hlt rfl (fun ls' hl' => hk _ _ _ _ _ _ _ _ _ _ h hP hS (z_lc.st1 (v := .int x) hok hl') (by simp only [List.length_set]; exact hn) hc hs)
      · rw [if_neg hlt] at h; cases h
theorem zw_astore_n (hx : p.tables.exec = Jvm.exec) (hb : c.code = cc) {n : Fin 4} (hd : decode cc pc = .ok (.astore_n n, 1)) (hk : z_K p l e R s mi args below meth c Q D kc ad nL o τ MC MS k) : z_Wg p l e R s mi args below meth c Q D kc ad nL o τ MC MS pc lv st σ (z_sto 1 pc lv st σ k n 1) := by
  intro t H locs ls cells slots h hP hS hl hn hc hs
  unfold z_sto at h
  cases hok : z_ok lv n with
  | false => rw [hok] at h; split at h <;> simp_all
  | true =>
    rw [hok] at h
    match st, h with
    | .ref x :: r, h =>
      replace h : (if n.val < lv.length then k (pc + 1) (lv.set n.val (some (.ref x))) r σ else none) = some (o, τ, t) := h
      by_cases hlt : n.val < lv.length
      · rw [if_pos hlt] at h
        exact lv_astore_n (lv' := _) hx hb hd rfl hl.has hlt rfl (fun ls' hl' => hk _ _ _ _ _ _ _ _ _ _ h hP hS (z_lc.st1 (v := .ref x) hok hl') (by simp only [List.length_set]; exact hn) hc hs)
      · rw [if_neg hlt] at h; cases h
theorem zw_astore (hx : p.tables.exec = Jvm.exec) (hb : c.code = cc) {n : Nat} (hd : decode cc pc = .ok (.astore n, 2)) (hk : z_K p l e R s mi args below meth c Q D kc ad nL o τ MC MS k) : z_Wg p l e R s mi args below meth c Q D kc ad nL o τ MC MS pc lv st σ (z_sto 2 pc lv st σ k n 1) := by
  intro t H locs ls cells slots h hP hS hl hn hc hs
  unfold z_sto at h
  cases hok : z_ok lv n with
  | false => rw [hok] at h; split at h <;> simp_all
  | true =>
    rw [hok] at h
    match st, h with
    | .ref x :: r, h =>
      replace h : (if n < lv.length then k (pc + 2) (lv.set n (some (.ref x))) r σ else none) = some (o, τ, t) := h
      by_cases hlt : n < lv.length
      · rw [if_pos hlt] at h
        exact lv_astore (lv' := _) hx hb hd hl.has hlt rfl (fun ls' hl' => hk _ _ _ _ _ _ _ _ _ _ h hP hS (z_lc.st1 (v := .ref x) hok hl') (by simp only [List.length_set]; exact hn) hc hs)
      · rw [if_neg hlt] at h; cases h
theorem zw_lstore_n (hx : p.tables.exec = Jvm.exec) (hb : c.code = cc) {n : Fin 4} (hd : decode cc pc = .ok (.lstore_n n, 1)) (hk : z_K p l e R s mi args below meth c Q D kc ad nL o τ MC MS k) : z_Wg p l e R s mi args below meth c Q D kc ad nL o τ MC MS pc lv st σ (z_sto 1 pc lv st σ k n 2) := by
  intro t H locs ls cells slots h hP hS hl hn hc hs
  unfold z_sto at h
  cases hok : z_ok lv n with
  | false => rw [hok] at h; split at h <;> simp_all
  | true =>
    rw [hok] at h
    match st, h with
    | .long x :: r, h =>
      replace h : (if n.val + 1 < lv.length then k (pc + 1) ((lv.set n.val (some (.long x))).set (n.val + 1) none) r σ else none) = some (o, τ, t) := h
      by_cases hlt : n.val + 1 < lv.length
      · rw [if_pos hlt] at h
        exact lv_lstore_n (lv' := _) hx hb hd rfl hl.has hlt rfl (fun ls' hl' => hk _ _ _ _ _ _ _ _ _ _ h hP hS (z_lc.st2 (v := .long x) hok hl') (by simp only [List.length_set]; exact hn) hc hs)
      · rw [if_neg hlt] at h; cases h
theorem zw_lstore (hx : p.tables.exec = Jvm.exec) (hb : c.code = cc) {n : Nat} (hd : decode cc pc = .ok (.lstore n, 2)) (hk : z_K p l e R s mi args below meth c Q D kc ad nL o τ MC MS k) : z_Wg p l e R s mi args below meth c Q D kc ad nL o τ MC MS pc lv st σ (z_sto 2 pc lv st σ k n 2) := by
  intro t H locs ls cells slots h hP hS hl hn hc hs
  unfold z_sto at h
  cases hok : z_ok lv n with
  | false => rw [hok] at h; split at h <;> simp_all
  | true =>
    rw [hok] at h
    match st, h with
    | .long x :: r, h =>
      replace h : (if n + 1 < lv.length then k (pc + 2) ((lv.set n (some (.long x))).set (n + 1) none) r σ else none) = some (o, τ, t) := h
      by_cases hlt : n + 1 < lv.length
      · rw [if_pos hlt] at h
        exact lv_lstore (lv' := _) hx hb hd hl.has hlt rfl (fun ls' hl' => hk _ _ _ _ _ _ _ _ _ _ h hP hS (z_lc.st2 (v := .long x) hok hl') (by simp only [List.length_set]; exact hn) hc hs)
      · rw [if_neg hlt] at h; cases h
theorem zw_dstore_n (hx : p.tables.exec = Jvm.exec) (hb : c.code = cc) {n : Fin 4} (hd : decode cc pc = .ok (.dstore_n n, 1)) (hk : z_K p l e R s mi args below meth c Q D kc ad nL o τ MC MS k) : z_Wg p l e R s mi args below meth c Q D kc ad nL o τ MC MS pc lv st σ (z_sto 1 pc lv st σ k n 3) := by
  intro t H locs ls cells slots h hP hS hl hn hc hs
  unfold z_sto at h
  cases hok : z_ok lv n with
  | false => rw [hok] at h; split at h <;> simp_all
  | true =>
    rw [hok] at h
    match st, h with
    | .double x :: r, h =>
      replace h : (if n.val + 1 < lv.length then k (pc + 1) ((lv.set n.val (some (.double x))).set (n.val + 1) none) r σ else none) = some (o, τ, t) := h
      by_cases hlt : n.val + 1 < lv.length
      · rw [if_pos hlt] at h
        exact lv_dstore_n (lv' := _) hx hb hd rfl hl.has hlt rfl (fun ls' hl' => hk _ _ _ _ _ _ _ _ _ _ h hP hS (z_lc.st2 (v := .double x) hok hl') (by simp only [List.length_set]; exact hn) hc hs)
      · rw [if_neg hlt] at h; cases h
theorem zw_dstore (hx : p.tables.exec = Jvm.exec) (hb : c.code = cc) {n : Nat} (hd : decode cc pc = .ok (.dstore n, 2)) (hk : z_K p l e R s mi args below meth c Q D kc ad nL o τ MC MS k) : z_Wg p l e R s mi args below meth c Q D kc ad nL o τ MC MS pc lv st σ (z_sto 2 pc lv st σ k n 3) := by
  intro t H locs ls cells slots h hP hS hl hn hc hs
  unfold z_sto at h
  cases hok : z_ok lv n with
  | false => rw [hok] at h; split at h <;> simp_all
  | true =>
    rw [hok] at h
    match st, h with
    | .double x :: r, h =>
      replace h : (if n + 1 < lv.length then k (pc + 2) ((lv.set n (some (.double x))).set (n + 1) none) r σ else none) = some (o, τ, t) := h
      by_cases hlt : n + 1 < lv.length
      · rw [if_pos hlt] at h
        exact lv_dstore (lv' := _) hx hb hd hl.has hlt rfl (fun ls' hl' => hk _ _ _ _ _ _ _ _ _ _ h hP hS (z_lc.st2 (v := .double x) hok hl') (by simp only [List.length_set]; exact hn) hc hs)
      · rw [if_neg hlt] at h; cases h
theorem zw_iconst (hx : p.tables.exec = Jvm.exec) (hb : c.code = cc) {n : Int} (hd : decode cc pc = .ok (.iconst n, 1)) (hk : z_K p l e R s mi args below meth c Q D kc ad nL o τ MC MS k) : z_Wg p l e R s mi args below meth c Q D kc ad nL o τ MC MS pc lv st σ (k (pc + 1) lv (.int (Int32.ofInt n) :: st) σ) := by
  intro t H locs ls cells slots h hP hS hl hn hc hs
  exact lv_iconst hx hb hd rfl (hk _ _ _ _ _ _ _ _ _ _ h hP hS hl hn hc hs)
theorem zw_bipush (hx : p.tables.exec = Jvm.exec) (hb : c.code = cc) {n : Int} (hd : decode cc pc = .ok (.bipush n, 2)) (hv : (Int8.ofInt n).toInt32 = Int32.ofInt n) (hk : z_K p l e R s mi args below meth c Q D kc ad nL o τ MC MS k) : z_Wg p l e R s mi args below meth c Q D kc ad nL o τ MC MS pc lv st σ (k (pc + 2) lv (.int (Int32.ofInt n) :: st) σ) := by
  intro t H locs ls cells slots h hP hS hl hn hc hs
  exact lv_bipush hx hb hd hv (hk _ _ _ _ _ _ _ _ _ _ h hP hS hl hn hc hs)
theorem zw_sipush (hx : p.tables.exec = Jvm.exec) (hb : c.code = cc) {n : Int} (hd : decode cc pc = .ok (.sipush n, 3)) (hv : (Int16.ofInt n).toInt32 = Int32.ofInt n) (hk : z_K p l e R s mi args below meth c Q D kc ad nL o τ MC MS k) : z_Wg p l e R s mi args below meth c Q D kc ad nL o τ MC MS pc lv st σ (k (pc + 3) lv (.int (Int32.ofInt n) :: st) σ) := by
  intro t H locs ls cells slots h hP hS hl hn hc hs
  exact lv_sipush hx hb hd hv (hk _ _ _ _ _ _ _ _ _ _ h hP hS hl hn hc hs)
theorem zw_lconst (hx : p.tables.exec = Jvm.exec) (hb : c.code = cc) {n : Fin 2} (hd : decode cc pc = .ok (.lconst n, 1)) (hk : z_K p l e R s mi args below meth c Q D kc ad nL o τ MC MS k) : z_Wg p l e R s mi args below meth c Q D kc ad nL o τ MC MS pc lv st σ (k (pc + 1) lv (.long (Int64.ofNat n) :: st) σ) := by
  intro t H locs ls cells slots h hP hS hl hn hc hs
  exact lv_lconst hx hb hd rfl (hk _ _ _ _ _ _ _ _ _ _ h hP hS hl hn hc hs)
theorem zw_dconst (hx : p.tables.exec = Jvm.exec) (hb : c.code = cc) (hd : decode cc pc = .ok (.dconst 0, 1)) (hk : z_K p l e R s mi args below meth c Q D kc ad nL o τ MC MS k) : z_Wg p l e R s mi args below meth c Q D kc ad nL o τ MC MS pc lv st σ (k (pc + 1) lv (.double 0 :: st) σ) := by
  intro t H locs ls cells slots h hP hS hl hn hc hs
  exact lv_dconst0 hx hb hd (hk _ _ _ _ _ _ _ _ _ _ h hP hS hl hn hc hs)
theorem zw_ldc (hx : p.tables.exec = Jvm.exec) (hb : c.code = cc) {own : String} {i : Nat} {x : Int32} (hown : s.vm.findClass own = some mi.cls) (hw : (Jvm.Cond.constant own i x).before args s = true) (hd : decode cc pc = .ok (.ldc i, 2)) (hk : z_K p l e R s mi args below meth c Q D kc ad nL o τ MC MS k) : z_Wg p l e R s mi args below meth c Q D kc ad nL o τ MC MS pc lv st σ (k (pc + 2) lv (.int x :: st) σ) := by
  intro t H locs ls cells slots h hP hS hl hn hc hs
  exact lv_ldc hx hb hown hw hd (hk _ _ _ _ _ _ _ _ _ _ h hP hS hl hn hc hs)
theorem zw_ldcS (hx : p.tables.exec = Jvm.exec) (hb : c.code = cc) {own tx : String} {i q : Nat} (hown : s.vm.findClass own = some mi.cls) (hw : vk_R own i tx (ad q) s) (hd : decode cc pc = .ok (.ldc i, 2)) (hk : z_K p l e R s mi args below meth c Q D kc ad nL o τ MC MS k) : z_Wg p l e R s mi args below meth c Q D kc ad nL o τ MC MS pc lv st σ (k (pc + 2) lv (.ref q :: st) σ) := by
  intro t H locs ls cells slots h hP hS hl hn hc hs
  exact va_ldcS hx hb hown hw hd (hk _ _ _ _ _ _ _ _ _ _ h hP hS hl hn hc hs)
theorem zw_ldc_w (hx : p.tables.exec = Jvm.exec) (hb : c.code = cc) {own : String} {i : Nat} {x : Int32} (hown : s.vm.findClass own = some mi.cls) (hw : (Jvm.Cond.constant own i x).before args s = true) (hd : decode cc pc = .ok (.ldc_w i, 3)) (hk : z_K p l e R s mi args below meth c Q D kc ad nL o τ MC MS k) : z_Wg p l e R s mi args below meth c Q D kc ad nL o τ MC MS pc lv st σ (k (pc + 3) lv (.int x :: st) σ) := by
  intro t H locs ls cells slots h hP hS hl hn hc hs
  exact lv_ldcw hx hb hown hw hd (hk _ _ _ _ _ _ _ _ _ _ h hP hS hl hn hc hs)
theorem zw_ldc2 (hx : p.tables.exec = Jvm.exec) (hb : c.code = cc) {own : String} {i : Nat} {x : Int64} (hown : s.vm.findClass own = some mi.cls) (hw : (Jvm.Cond.constantLong own i x).before args s = true) (hd : decode cc pc = .ok (.ldc2_w i, 3)) (hk : z_K p l e R s mi args below meth c Q D kc ad nL o τ MC MS k) : z_Wg p l e R s mi args below meth c Q D kc ad nL o τ MC MS pc lv st σ (k (pc + 3) lv (.long x :: st) σ) := by
  intro t H locs ls cells slots h hP hS hl hn hc hs
  exact lv_ldc2 hx hb hown hw hd (hk _ _ _ _ _ _ _ _ _ _ h hP hS hl hn hc hs)
theorem zw_ldc2d (hx : p.tables.exec = Jvm.exec) (hb : c.code = cc) {own : String} {i : Nat} {x : UInt64} (hown : s.vm.findClass own = some mi.cls) (hw : (Jvm.Cond.constantDouble own i x).before args s = true) (hd : decode cc pc = .ok (.ldc2_w i, 3)) (hk : z_K p l e R s mi args below meth c Q D kc ad nL o τ MC MS k) : z_Wg p l e R s mi args below meth c Q D kc ad nL o τ MC MS pc lv st σ (k (pc + 3) lv (.double x :: st) σ) := by
  intro t H locs ls cells slots h hP hS hl hn hc hs
  exact lv_ldc2d hx hb hown hw hd (hk _ _ _ _ _ _ _ _ _ _ h hP hS hl hn hc hs)
theorem zw_iadd (hx : p.tables.exec = Jvm.exec) (hb : c.code = cc) (hd : decode cc pc = .ok (.iadd, 1)) (hk : z_K p l e R s mi args below meth c Q D kc ad nL o τ MC MS k) : z_Wg p l e R s mi args below meth c Q D kc ad nL o τ MC MS pc lv st σ (z_bin 1 pc lv st σ k 0) := by
  intro t H locs ls cells slots h hP hS hl hn hc hs
  unfold z_bin at h
  split at h
  · exact lv_iadd hx hb hd (hk _ _ _ _ _ _ _ _ _ _ h hP hS hl hn hc hs)
  · cases h
theorem zw_isub (hx : p.tables.exec = Jvm.exec) (hb : c.code = cc) (hd : decode cc pc = .ok (.isub, 1)) (hk : z_K p l e R s mi args below meth c Q D kc ad nL o τ MC MS k) : z_Wg p l e R s mi args below meth c Q D kc ad nL o τ MC MS pc lv st σ (z_bin 1 pc lv st σ k 1) := by
  intro t H locs ls cells slots h hP hS hl hn hc hs
  unfold z_bin at h
  split at h
  · exact lv_isub hx hb hd (hk _ _ _ _ _ _ _ _ _ _ h hP hS hl hn hc hs)
  · cases h
theorem zw_imul (hx : p.tables.exec = Jvm.exec) (hb : c.code = cc) (hd : decode cc pc = .ok (.imul, 1)) (hk : z_K p l e R s mi args below meth c Q D kc ad nL o τ MC MS k) : z_Wg p l e R s mi args below meth c Q D kc ad nL o τ MC MS pc lv st σ (z_bin 1 pc lv st σ k 2) := by
  intro t H locs ls cells slots h hP hS hl hn hc hs
  unfold z_bin at h
  split at h
  · exact lv_imul hx hb hd (hk _ _ _ _ _ _ _ _ _ _ h hP hS hl hn hc hs)
  · cases h
theorem zw_iand (hx : p.tables.exec = Jvm.exec) (hb : c.code = cc) (hd : decode cc pc = .ok (.iand, 1)) (hk : z_K p l e R s mi args below meth c Q D kc ad nL o τ MC MS k) : z_Wg p l e R s mi args below meth c Q D kc ad nL o τ MC MS pc lv st σ (z_bin 1 pc lv st σ k 5) := by
  intro t H locs ls cells slots h hP hS hl hn hc hs
  unfold z_bin at h
  split at h
  · exact lv_iand hx hb hd (hk _ _ _ _ _ _ _ _ _ _ h hP hS hl hn hc hs)
  · cases h
theorem zw_ior (hx : p.tables.exec = Jvm.exec) (hb : c.code = cc) (hd : decode cc pc = .ok (.ior, 1)) (hk : z_K p l e R s mi args below meth c Q D kc ad nL o τ MC MS k) : z_Wg p l e R s mi args below meth c Q D kc ad nL o τ MC MS pc lv st σ (z_bin 1 pc lv st σ k 6) := by
  intro t H locs ls cells slots h hP hS hl hn hc hs
  unfold z_bin at h
  split at h
  · exact lv_ior hx hb hd (hk _ _ _ _ _ _ _ _ _ _ h hP hS hl hn hc hs)
  · cases h
theorem zw_ishr (hx : p.tables.exec = Jvm.exec) (hb : c.code = cc) (hd : decode cc pc = .ok (.ishr, 1)) (hk : z_K p l e R s mi args below meth c Q D kc ad nL o τ MC MS k) : z_Wg p l e R s mi args below meth c Q D kc ad nL o τ MC MS pc lv st σ (z_bin 1 pc lv st σ k 7) := by
  intro t H locs ls cells slots h hP hS hl hn hc hs
  unfold z_bin at h
  split at h
  · exact lv_ishr hx hb hd (hk _ _ _ _ _ _ _ _ _ _ h hP hS hl hn hc hs)
  · cases h
theorem zw_iushr (hx : p.tables.exec = Jvm.exec) (hb : c.code = cc) (hd : decode cc pc = .ok (.iushr, 1)) (hk : z_K p l e R s mi args below meth c Q D kc ad nL o τ MC MS k) : z_Wg p l e R s mi args below meth c Q D kc ad nL o τ MC MS pc lv st σ (z_bin 1 pc lv st σ k 8) := by
  intro t H locs ls cells slots h hP hS hl hn hc hs
  unfold z_bin at h
  split at h
  · exact lv_iushr hx hb hd rfl (hk _ _ _ _ _ _ _ _ _ _ h hP hS hl hn hc hs)
  · cases h
theorem zw_idiv (hx : p.tables.exec = Jvm.exec) (hb : c.code = cc) (hd : decode cc pc = .ok (.idiv, 1)) (hk : z_K p l e R s mi args below meth c Q D kc ad nL o τ MC MS k) : z_Wg p l e R s mi args below meth c Q D kc ad nL o τ MC MS pc lv st σ (z_bin 1 pc lv st σ k 3) := by
  intro t H locs ls cells slots h hP hS hl hn hc hs
  unfold z_bin at h
  split at h
  · rename_i y x r
    replace h : (if y = 0 then none else k (pc + 1) lv (.int (x / y) :: r) σ) = some (o, τ, t) := h
    by_cases hy : y = 0
    · rw [if_pos hy] at h; cases h
    · rw [if_neg hy] at h
      exact lv_idiv hx hb hd hy (hk _ _ _ _ _ _ _ _ _ _ h hP hS hl hn hc hs)
  · cases h
theorem zw_irem (hx : p.tables.exec = Jvm.exec) (hb : c.code = cc) (hd : decode cc pc = .ok (.irem, 1)) (hk : z_K p l e R s mi args below meth c Q D kc ad nL o τ MC MS k) : z_Wg p l e R s mi args below meth c Q D kc ad nL o τ MC MS pc lv st σ (z_bin 1 pc lv st σ k 4) := by
  intro t H locs ls cells slots h hP hS hl hn hc hs
  unfold z_bin at h
  split at h
  · rename_i y x r
    replace h : (if y = 0 then none else k (pc + 1) lv (.int (x - x / y * y) :: r) σ) = some (o, τ, t) := h
    by_cases hy : y = 0
    · rw [if_pos hy] at h; cases h
    · rw [if_neg hy] at h
      exact lv_irem hx hb hd hy (hk _ _ _ _ _ _ _ _ _ _ h hP hS hl hn hc hs)
  · cases h
theorem zw_ladd (hx : p.tables.exec = Jvm.exec) (hb : c.code = cc) (hd : decode cc pc = .ok (.ladd, 1)) (hk : z_K p l e R s mi args below meth c Q D kc ad nL o τ MC MS k) (L : Nat) (xs : Nat → Int32) (a : Nat × Nat × Nat) (v : Value) (sw : List (Int32 × Nat)) (cl : Nat → zL → zSt → Option zOut) : z_Wg p l e R s mi args below meth c Q D kc ad nL o τ MC MS pc lv st σ (z_stp L xs 1 a v sw pc lv st σ k cl .ladd) := by
  intro t H locs ls cells slots h hP hS hl hn hc hs
  dsimp only [z_stp] at h
  split at h
  · exact lv_ladd hx hb hd (hk _ _ _ _ _ _ _ _ _ _ h hP hS hl hn hc hs)
  · cases h
theorem zw_lsub (hx : p.tables.exec = Jvm.exec) (hb : c.code = cc) (hd : decode cc pc = .ok (.lsub, 1)) (hk : z_K p l e R s mi args below meth c Q D kc ad nL o τ MC MS k) (L : Nat) (xs : Nat → Int32) (a : Nat × Nat × Nat) (v : Value) (sw : List (Int32 × Nat)) (cl : Nat → zL → zSt → Option zOut) : z_Wg p l e R s mi args below meth c Q D kc ad nL o τ MC MS pc lv st σ (z_stp L xs 1 a v sw pc lv st σ k cl .lsub) := by
  intro t H locs ls cells slots h hP hS hl hn hc hs
  dsimp only [z_stp] at h
  split at h
  · exact lv_lsub hx hb hd (hk _ _ _ _ _ _ _ _ _ _ h hP hS hl hn hc hs)
  · cases h
theorem zw_lmul (hx : p.tables.exec = Jvm.exec) (hb : c.code = cc) (hd : decode cc pc = .ok (.lmul, 1)) (hk : z_K p l e R s mi args below meth c Q D kc ad nL o τ MC MS k) (L : Nat) (xs : Nat → Int32) (a : Nat × Nat × Nat) (v : Value) (sw : List (Int32 × Nat)) (cl : Nat → zL → zSt → Option zOut) : z_Wg p l e R s mi args below meth c Q D kc ad nL o τ MC MS pc lv st σ (z_stp L xs 1 a v sw pc lv st σ k cl .lmul) := by
  intro t H locs ls cells slots h hP hS hl hn hc hs
  dsimp only [z_stp] at h
  split at h
  · exact lv_lmul hx hb hd (hk _ _ _ _ _ _ _ _ _ _ h hP hS hl hn hc hs)
  · cases h
theorem zw_i2l (hx : p.tables.exec = Jvm.exec) (hb : c.code = cc) (hd : decode cc pc = .ok (.i2l, 1)) (hk : z_K p l e R s mi args below meth c Q D kc ad nL o τ MC MS k) (L : Nat) (xs : Nat → Int32) (a : Nat × Nat × Nat) (v : Value) (sw : List (Int32 × Nat)) (cl : Nat → zL → zSt → Option zOut) : z_Wg p l e R s mi args below meth c Q D kc ad nL o τ MC MS pc lv st σ (z_stp L xs 1 a v sw pc lv st σ k cl .i2l) := by
  intro t H locs ls cells slots h hP hS hl hn hc hs
  dsimp only [z_stp] at h
  split at h
  · exact lv_i2l hx hb hd rfl (hk _ _ _ _ _ _ _ _ _ _ h hP hS hl hn hc hs)
  · cases h
theorem zw_l2i (hx : p.tables.exec = Jvm.exec) (hb : c.code = cc) (hd : decode cc pc = .ok (.l2i, 1)) (hk : z_K p l e R s mi args below meth c Q D kc ad nL o τ MC MS k) (L : Nat) (xs : Nat → Int32) (a : Nat × Nat × Nat) (v : Value) (sw : List (Int32 × Nat)) (cl : Nat → zL → zSt → Option zOut) : z_Wg p l e R s mi args below meth c Q D kc ad nL o τ MC MS pc lv st σ (z_stp L xs 1 a v sw pc lv st σ k cl .l2i) := by
  intro t H locs ls cells slots h hP hS hl hn hc hs
  dsimp only [z_stp] at h
  split at h
  · exact lv_l2i hx hb hd rfl (hk _ _ _ _ _ _ _ _ _ _ h hP hS hl hn hc hs)
  · cases h
theorem zw_i2d (hx : p.tables.exec = Jvm.exec) (hb : c.code = cc) (hd : decode cc pc = .ok (.i2d, 1)) (hk : z_K p l e R s mi args below meth c Q D kc ad nL o τ MC MS k) (L : Nat) (xs : Nat → Int32) (a : Nat × Nat × Nat) (v : Value) (sw : List (Int32 × Nat)) (cl : Nat → zL → zSt → Option zOut) : z_Wg p l e R s mi args below meth c Q D kc ad nL o τ MC MS pc lv st σ (z_stp L xs 1 a v sw pc lv st σ k cl .i2d) := by
  intro t H locs ls cells slots h hP hS hl hn hc hs
  dsimp only [z_stp] at h
  split at h
  · exact lv_i2d hx hb hd (hk _ _ _ _ _ _ _ _ _ _ h hP hS hl hn hc hs)
  · cases h
theorem zw_lcmp (hx : p.tables.exec = Jvm.exec) (hb : c.code = cc) (hd : decode cc pc = .ok (.lcmp, 1)) (hk : z_K p l e R s mi args below meth c Q D kc ad nL o τ MC MS k) (L : Nat) (xs : Nat → Int32) (a : Nat × Nat × Nat) (v : Value) (sw : List (Int32 × Nat)) (cl : Nat → zL → zSt → Option zOut) : z_Wg p l e R s mi args below meth c Q D kc ad nL o τ MC MS pc lv st σ (z_stp L xs 1 a v sw pc lv st σ k cl .lcmp) := by
  intro t H locs ls cells slots h hP hS hl hn hc hs
  dsimp only [z_stp] at h
  split at h
  · exact W.lcmp hx hb hd (hk _ _ _ _ _ _ _ _ _ _ h hP hS hl hn hc hs)
  · cases h
theorem zw_dcmp (hx : p.tables.exec = Jvm.exec) (hb : c.code = cc) {q : CmpOp} (hd : decode cc pc = .ok (.dcmp q, 1)) (hk : z_K p l e R s mi args below meth c Q D kc ad nL o τ MC MS k) (L : Nat) (xs : Nat → Int32) (a : Nat × Nat × Nat) (v : Value) (sw : List (Int32 × Nat)) (cl : Nat → zL → zSt → Option zOut) : z_Wg p l e R s mi args below meth c Q D kc ad nL o τ MC MS pc lv st σ (z_stp L xs 1 a v sw pc lv st σ k cl (.dcmp q)) := by
  intro t H locs ls cells slots h hP hS hl hn hc hs
  dsimp only [z_stp] at h
  split at h
  · exact lv_dcmp hx hb hd (hk _ _ _ _ _ _ _ _ _ _ h hP hS hl hn hc hs)
  · cases h
theorem zw_ddiv (hx : p.tables.exec = Jvm.exec) (hb : c.code = cc) (hd : decode cc pc = .ok (.ddiv, 1)) (hk : z_K p l e R s mi args below meth c Q D kc ad nL o τ MC MS k) (L : Nat) (xs : Nat → Int32) (a : Nat × Nat × Nat) (v : Value) (sw : List (Int32 × Nat)) (cl : Nat → zL → zSt → Option zOut) : z_Wg p l e R s mi args below meth c Q D kc ad nL o τ MC MS pc lv st σ (z_stp L xs 1 a v sw pc lv st σ k cl .ddiv) := by
  intro t H locs ls cells slots h hP hS hl hn hc hs
  dsimp only [z_stp] at h
  split at h
  · split at h
    · exact lv_ddiv hx hb hd (by assumption) (hk _ _ _ _ _ _ _ _ _ _ h hP hS hl hn hc hs)
    · cases h
  · cases h
theorem zw_dmul (hx : p.tables.exec = Jvm.exec) (hb : c.code = cc) (hd : decode cc pc = .ok (.dmul, 1)) (hk : z_K p l e R s mi args below meth c Q D kc ad nL o τ MC MS k) (L : Nat) (xs : Nat → Int32) (a : Nat × Nat × Nat) (v : Value) (sw : List (Int32 × Nat)) (cl : Nat → zL → zSt → Option zOut) : z_Wg p l e R s mi args below meth c Q D kc ad nL o τ MC MS pc lv st σ (z_stp L xs 1 a v sw pc lv st σ k cl .dmul) := by
  intro t H locs ls cells slots h hP hS hl hn hc hs
  dsimp only [z_stp] at h
  split at h
  · split at h
    · exact lv_dmul hx hb hd (by assumption) (hk _ _ _ _ _ _ _ _ _ _ h hP hS hl hn hc hs)
    · cases h
  · cases h
theorem zw_dup (hx : p.tables.exec = Jvm.exec) (hb : c.code = cc) (hd : decode cc pc = .ok (.dup, 1)) (hk : z_K p l e R s mi args below meth c Q D kc ad nL o τ MC MS k) (L : Nat) (xs : Nat → Int32) (a : Nat × Nat × Nat) (v : Value) (sw : List (Int32 × Nat)) (cl : Nat → zL → zSt → Option zOut) : z_Wg p l e R s mi args below meth c Q D kc ad nL o τ MC MS pc lv st σ (z_stp L xs 1 a v sw pc lv st σ k cl .dup) := by
  intro t H locs ls cells slots h hP hS hl hn hc hs
  dsimp only [z_stp] at h
  split at h
  · split at h
    · exact lv_dup hx hb hd (by rw [z_tv_cat]; assumption) (hk _ _ _ _ _ _ _ _ _ _ h hP hS hl hn hc hs)
    · cases h
  · cases h
theorem zw_dup2 (hx : p.tables.exec = Jvm.exec) (hb : c.code = cc) (hd : decode cc pc = .ok (.dup2, 1)) (hk : z_K p l e R s mi args below meth c Q D kc ad nL o τ MC MS k) (L : Nat) (xs : Nat → Int32) (a : Nat × Nat × Nat) (v : Value) (sw : List (Int32 × Nat)) (cl : Nat → zL → zSt → Option zOut) : z_Wg p l e R s mi args below meth c Q D kc ad nL o τ MC MS pc lv st σ (z_stp L xs 1 a v sw pc lv st σ k cl .dup2) := by
  intro t H locs ls cells slots h hP hS hl hn hc hs
  dsimp only [z_stp] at h
  split at h
  · split at h
    · split at h
      · exact lv_dup2_11 hx hb hd (by rw [z_tv_cat]; assumption) (by rw [z_tv_cat]; assumption) (hk _ _ _ _ _ _ _ _ _ _ h hP hS hl hn hc hs)
      · cases h
    · cases h
  · cases h
theorem zw_iinc (hx : p.tables.exec = Jvm.exec) (hb : c.code = cc) {i : Nat} {d : Int} (hd : decode cc pc = .ok (.iinc i d, 3)) (hk : z_K p l e R s mi args below meth c Q D kc ad nL o τ MC MS k) (L : Nat) (xs : Nat → Int32) (a : Nat × Nat × Nat) (v : Value) (sw : List (Int32 × Nat)) (cl : Nat → zL → zSt → Option zOut) : z_Wg p l e R s mi args below meth c Q D kc ad nL o τ MC MS pc lv st σ (z_stp L xs 3 a v sw pc lv st σ k cl (.iinc i d)) := by
  intro t H locs ls cells slots h hP hS hl hn hc hs
  dsimp only [z_stp] at h
  split at h
  · rename_i x hv
    obtain ⟨j, hj⟩ := List.getElem?_of_mem (z_lv_mem (ad := ad) hv)
    have hok : z_ok lv i = true := by
      unfold z_ok
      split
      · rfl
      · rename_i j'
        have hcat : ∀ w, z_ld lv j' = some w → ¬ w.category = 2 := fun w hw hcw => by
          have h1 := hl.2.1.1 j' _ (hl.2.2 _ _ hw) (by rw [z_tv_cat]; exact hcw)
          rw [hl.2.2 _ _ hv] at h1
          cases h1
        split
        · rename_i q hq; exact absurd rfl (hcat _ hq)
        · rename_i q hq; exact absurd rfl (hcat _ hq)
        · rfl
    exact lv_iinc (lv' := _) hx hb hd hl.has hj rfl (z_ld_lt hv) rfl (fun ls' hl' => hk _ _ _ _ _ _ _ _ _ _ h hP hS (z_lc.st1 (v := .int (x + Int32.ofInt d)) hok hl') (by simp only [List.length_set]; exact hn) hc hs)
  · cases h
theorem zw_goto (hx : p.tables.exec = Jvm.exec) (hb : c.code = cc) {off : Int} {tg : Nat} (hd : decode cc pc = .ok (.goto off, 3)) (ht : (pc : Int) + off = (tg : Int)) (hk : z_K p l e R s mi args below meth c Q D kc ad nL o τ MC MS k) : z_Wg p l e R s mi args below meth c Q D kc ad nL o τ MC MS pc lv st σ (k tg lv st σ) := by
  intro t H locs ls cells slots h hP hS hl hn hc hs
  exact lv_goto hx hb hd ht (hk _ _ _ _ _ _ _ _ _ _ h hP hS hl hn hc hs)
theorem zw_if_eq (hx : p.tables.exec = Jvm.exec) (hb : c.code = cc) {off : Int} {tg : Nat} (hd : decode cc pc = .ok (.ifCond .eq off, 3)) (ht : (pc : Int) + off = (tg : Int)) (hk : z_K p l e R s mi args below meth c Q D kc ad nL o τ MC MS k) (r : List Value) (x : Int32) (he : st = .int x :: r) : z_Wg p l e R s mi args below meth c Q D kc ad nL o τ MC MS pc lv st σ (z_cmp .eq x 0 (k tg lv r σ) (k (pc + 3) lv r σ)) := by
  intro t H locs ls cells slots h hP hS hl hn hc hs
  subst he
  dsimp only [z_cmp] at h
  exact lv_if_eq hx hb hd ht (fun q => hk _ _ _ _ _ _ _ _ _ _ (by rw [if_pos q] at h; exact h) hP hS hl hn hc hs) (fun q => hk _ _ _ _ _ _ _ _ _ _ (by rw [if_neg q] at h; exact h) hP hS hl hn hc hs)
theorem zw_if_ne (hx : p.tables.exec = Jvm.exec) (hb : c.code = cc) {off : Int} {tg : Nat} (hd : decode cc pc = .ok (.ifCond .ne off, 3)) (ht : (pc : Int) + off = (tg : Int)) (hk : z_K p l e R s mi args below meth c Q D kc ad nL o τ MC MS k) (r : List Value) (x : Int32) (he : st = .int x :: r) : z_Wg p l e R s mi args below meth c Q D kc ad nL o τ MC MS pc lv st σ (z_cmp .ne x 0 (k tg lv r σ) (k (pc + 3) lv r σ)) := by
  intro t H locs ls cells slots h hP hS hl hn hc hs
  subst he
  dsimp only [z_cmp] at h
  exact lv_if_ne hx hb hd ht (fun q => hk _ _ _ _ _ _ _ _ _ _ (by rw [if_neg q] at h; exact h) hP hS hl hn hc hs) (fun q => hk _ _ _ _ _ _ _ _ _ _ (by rw [if_pos q] at h; exact h) hP hS hl hn hc hs)
theorem zw_if_lt (hx : p.tables.exec = Jvm.exec) (hb : c.code = cc) {off : Int} {tg : Nat} (hd : decode cc pc = .ok (.ifCond .lt off, 3)) (ht : (pc : Int) + off = (tg : Int)) (hk : z_K p l e R s mi args below meth c Q D kc ad nL o τ MC MS k) (r : List Value) (x : Int32) (he : st = .int x :: r) : z_Wg p l e R s mi args below meth c Q D kc ad nL o τ MC MS pc lv st σ (z_cmp .lt x 0 (k tg lv r σ) (k (pc + 3) lv r σ)) := by
  intro t H locs ls cells slots h hP hS hl hn hc hs
  subst he
  dsimp only [z_cmp] at h
  exact lv_if_lt hx hb hd ht (fun q => hk _ _ _ _ _ _ _ _ _ _ (by rw [if_pos q] at h; exact h) hP hS hl hn hc hs) (fun q => hk _ _ _ _ _ _ _ _ _ _ (by rw [if_neg q] at h; exact h) hP hS hl hn hc hs)
theorem zw_if_ge (hx : p.tables.exec = Jvm.exec) (hb : c.code = cc) {off : Int} {tg : Nat} (hd : decode cc pc = .ok (.ifCond .ge off, 3)) (ht : (pc : Int) + off = (tg : Int)) (hk : z_K p l e R s mi args below meth c Q D kc ad nL o τ MC MS k) (r : List Value) (x : Int32) (he : st = .int x :: r) : z_Wg p l e R s mi args below meth c Q D kc ad nL o τ MC MS pc lv st σ (z_cmp .ge x 0 (k tg lv r σ) (k (pc + 3) lv r σ)) := by
  intro t H locs ls cells slots h hP hS hl hn hc hs
  subst he
  dsimp only [z_cmp] at h
  exact lv_if_ge hx hb hd ht (fun q => hk _ _ _ _ _ _ _ _ _ _ (by rw [if_neg (Int32.not_lt.mpr q)] at h; exact h) hP hS hl hn hc hs) (fun q => hk _ _ _ _ _ _ _ _ _ _ (by rw [if_pos (Int32.not_le.mp q)] at h; exact h) hP hS hl hn hc hs)
theorem zw_if_gt (hx : p.tables.exec = Jvm.exec) (hb : c.code = cc) {off : Int} {tg : Nat} (hd : decode cc pc = .ok (.ifCond .gt off, 3)) (ht : (pc : Int) + off = (tg : Int)) (hk : z_K p l e R s mi args below meth c Q D kc ad nL o τ MC MS k) (r : List Value) (x : Int32) (he : st = .int x :: r) : z_Wg p l e R s mi args below meth c Q D kc ad nL o τ MC MS pc lv st σ (z_cmp .gt x 0 (k tg lv r σ) (k (pc + 3) lv r σ)) := by
  intro t H locs ls cells slots h hP hS hl hn hc hs
  subst he
  dsimp only [z_cmp] at h
  exact lv_if_gt hx hb hd ht (fun q => hk _ _ _ _ _ _ _ _ _ _ (by rw [if_pos q] at h; exact h) hP hS hl hn hc hs) (fun q => hk _ _ _ _ _ _ _ _ _ _ (by rw [if_neg q] at h; exact h) hP hS hl hn hc hs)
theorem zw_if_le (hx : p.tables.exec = Jvm.exec) (hb : c.code = cc) {off : Int} {tg : Nat} (hd : decode cc pc = .ok (.ifCond .le off, 3)) (ht : (pc : Int) + off = (tg : Int)) (hk : z_K p l e R s mi args below meth c Q D kc ad nL o τ MC MS k) (r : List Value) (x : Int32) (he : st = .int x :: r) : z_Wg p l e R s mi args below meth c Q D kc ad nL o τ MC MS pc lv st σ (z_cmp .le x 0 (k tg lv r σ) (k (pc + 3) lv r σ)) := by
  intro t H locs ls cells slots h hP hS hl hn hc hs
  subst he
  dsimp only [z_cmp] at h
  exact lv_if_le hx hb hd ht (fun q => hk _ _ _ _ _ _ _ _ _ _ (by rw [if_neg (Int32.not_lt.mpr q)] at h; exact h) hP hS hl hn hc hs) (fun q => hk _ _ _ _ _ _ _ _ _ _ (by rw [if_pos (Int32.not_le.mp q)] at h; exact h) hP hS hl hn hc hs)
theorem zw_icmp_eq (hx : p.tables.exec = Jvm.exec) (hb : c.code = cc) {off : Int} {tg : Nat} (hd : decode cc pc = .ok (.if_icmp .eq off, 3)) (ht : (pc : Int) + off = (tg : Int)) (hk : z_K p l e R s mi args below meth c Q D kc ad nL o τ MC MS k) (r : List Value) (x y : Int32) (he : st = .int y :: .int x :: r) : z_Wg p l e R s mi args below meth c Q D kc ad nL o τ MC MS pc lv st σ (z_cmp .eq x y (k tg lv r σ) (k (pc + 3) lv r σ)) := by
  intro t H locs ls cells slots h hP hS hl hn hc hs
  subst he
  dsimp only [z_cmp] at h
  exact lv_icmp_eq hx hb hd ht (fun q => hk _ _ _ _ _ _ _ _ _ _ (by rw [if_pos q] at h; exact h) hP hS hl hn hc hs) (fun q => hk _ _ _ _ _ _ _ _ _ _ (by rw [if_neg q] at h; exact h) hP hS hl hn hc hs)
theorem zw_icmp_ne (hx : p.tables.exec = Jvm.exec) (hb : c.code = cc) {off : Int} {tg : Nat} (hd : decode cc pc = .ok (.if_icmp .ne off, 3)) (ht : (pc : Int) + off = (tg : Int)) (hk : z_K p l e R s mi args below meth c Q D kc ad nL o τ MC MS k) (r : List Value) (x y : Int32) (he : st = .int y :: .int x :: r) : z_Wg p l e R s mi args below meth c Q D kc ad nL o τ MC MS pc lv st σ (z_cmp .ne x y (k tg lv r σ) (k (pc + 3) lv r σ)) := by
  intro t H locs ls cells slots h hP hS hl hn hc hs
  subst he
  dsimp only [z_cmp] at h
  exact lv_icmp_ne hx hb hd ht (fun q => hk _ _ _ _ _ _ _ _ _ _ (by rw [if_neg q] at h; exact h) hP hS hl hn hc hs) (fun q => hk _ _ _ _ _ _ _ _ _ _ (by rw [if_pos q] at h; exact h) hP hS hl hn hc hs)
theorem zw_icmp_lt (hx : p.tables.exec = Jvm.exec) (hb : c.code = cc) {off : Int} {tg : Nat} (hd : decode cc pc = .ok (.if_icmp .lt off, 3)) (ht : (pc : Int) + off = (tg : Int)) (hk : z_K p l e R s mi args below meth c Q D kc ad nL o τ MC MS k) (r : List Value) (x y : Int32) (he : st = .int y :: .int x :: r) : z_Wg p l e R s mi args below meth c Q D kc ad nL o τ MC MS pc lv st σ (z_cmp .lt x y (k tg lv r σ) (k (pc + 3) lv r σ)) := by
  intro t H locs ls cells slots h hP hS hl hn hc hs
  subst he
  dsimp only [z_cmp] at h
  exact lv_icmp_lt hx hb hd ht (fun q => hk _ _ _ _ _ _ _ _ _ _ (by rw [if_pos q] at h; exact h) hP hS hl hn hc hs) (fun q => hk _ _ _ _ _ _ _ _ _ _ (by rw [if_neg q] at h; exact h) hP hS hl hn hc hs)
theorem zw_icmp_ge (hx : p.tables.exec = Jvm.exec) (hb : c.code = cc) {off : Int} {tg : Nat} (hd : decode cc pc = .ok (.if_icmp .ge off, 3)) (ht : (pc : Int) + off = (tg : Int)) (hk : z_K p l e R s mi args below meth c Q D kc ad nL o τ MC MS k) (r : List Value) (x y : Int32) (he : st = .int y :: .int x :: r) : z_Wg p l e R s mi args below meth c Q D kc ad nL o τ MC MS pc lv st σ (z_cmp .ge x y (k tg lv r σ) (k (pc + 3) lv r σ)) := by
  intro t H locs ls cells slots h hP hS hl hn hc hs
  subst he
  dsimp only [z_cmp] at h
  exact lv_icmp_ge hx hb hd ht (fun q => hk _ _ _ _ _ _ _ _ _ _ (by rw [if_neg (Int32.not_lt.mpr q)] at h; exact h) hP hS hl hn hc hs) (fun q => hk _ _ _ _ _ _ _ _ _ _ (by rw [if_pos (Int32.not_le.mp q)] at h; exact h) hP hS hl hn hc hs)
theorem zw_icmp_gt (hx : p.tables.exec = Jvm.exec) (hb : c.code = cc) {off : Int} {tg : Nat} (hd : decode cc pc = .ok (.if_icmp .gt off, 3)) (ht : (pc : Int) + off = (tg : Int)) (hk : z_K p l e R s mi args below meth c Q D kc ad nL o τ MC MS k) (r : List Value) (x y : Int32) (he : st = .int y :: .int x :: r) : z_Wg p l e R s mi args below meth c Q D kc ad nL o τ MC MS pc lv st σ (z_cmp .gt x y (k tg lv r σ) (k (pc + 3) lv r σ)) := by
  intro t H locs ls cells slots h hP hS hl hn hc hs
  subst he
  dsimp only [z_cmp] at h
  exact lv_icmp_gt hx hb hd ht (fun q => hk _ _ _ _ _ _ _ _ _ _ (by rw [if_pos q] at h; exact h) hP hS hl hn hc hs) (fun q => hk _ _ _ _ _ _ _ _ _ _ (by rw [if_neg q] at h; exact h) hP hS hl hn hc hs)
theorem zw_icmp_le (hx : p.tables.exec = Jvm.exec) (hb : c.code = cc) {off : Int} {tg : Nat} (hd : decode cc pc = .ok (.if_icmp .le off, 3)) (ht : (pc : Int) + off = (tg : Int)) (hk : z_K p l e R s mi args below meth c Q D kc ad nL o τ MC MS k) (r : List Value) (x y : Int32) (he : st = .int y :: .int x :: r) : z_Wg p l e R s mi args below meth c Q D kc ad nL o τ MC MS pc lv st σ (z_cmp .le x y (k tg lv r σ) (k (pc + 3) lv r σ)) := by
  intro t H locs ls cells slots h hP hS hl hn hc hs
  subst he
  dsimp only [z_cmp] at h
  exact lv_icmp_le hx hb hd ht (fun q => hk _ _ _ _ _ _ _ _ _ _ (by rw [if_neg (Int32.not_lt.mpr q)] at h; exact h) hP hS hl hn hc hs) (fun q => hk _ _ _ _ _ _ _ _ _ _ (by rw [if_pos (Int32.not_le.mp q)] at h; exact h) hP hS hl hn hc hs)
end ZW
