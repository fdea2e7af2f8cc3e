theorem z_ent_len (n : Nat) (vals : List Value) (h : (vals.map fun v => v.category).sum ≤ n) : (z_ent n vals).length = n := by
  unfold z_ent
  rw [List.length_append, z_flat_len, List.length_replicate]
  omega
section
variable {l : Launch} {D : va_G} {kc : Nat → ClassId} {ad adV : Nat → Nat} {L : Nat} {xs : Nat → Int32}
/-- what is shown of a fuel -/
def z_P (l : Launch) (D : va_G) (kc : Nat → ClassId) (ad adV : Nat → Nat) (L : Nat) (xs : Nat → Int32) (n : Nat) : Prop :=
  ∀ (m : Nat) (p : Program) (e : Env) (R : Room) (s : State) (mi : MethodId) (args : Array Value) (below : List Frame) (meth : Method) (c : Code) (Q : State → Prop) (nL : Nat) (o : Option Value ⊕ Nat) (τ : zSt) (MC MS : Nat), z_Cx D kc ad adV L xs m p R s mi args meth c → nL = z_maxL m → MC ≤ R.cells → MS ≤ R.slots → z_End p l e R s mi args below meth c Q D kc ad m o τ MC MS → z_K p l e R s mi args below meth c Q D kc ad nL o τ MC MS (z_run L xs n m)
theorem z_metOf {n : Nat} (hP : z_P l D kc ad adV L xs n) {c0 : Nat} {vals : List Value} {σ1 : zSt} {r : Option Value ⊕ Nat} {σ2 : zSt} {u sz : Nat} (h : z_run L xs n c0 0 (z_ent (z_maxL c0) vals) [] σ1 = some (r, σ2, u)) (hcat : (vals.map fun v => v.category).sum ≤ z_maxL c0) (hpl : plainName (z_y c0).cls = true) : z_Met l D kc ad adV L xs c0 sz vals σ1 r σ2 u := by
  have body : ∀ (p : Program) (e : Env) (s : State) (mi : MethodId) (args : Array Value) (below : List Frame) (meth : Method) (c : Code) (s₁ : State), BodyLoose p l (z_y c0) (headSpec (z_head c0 :: z_wl) ({ frames := z_dep c0, cells := u, slots := 6 * u, locals := z_loc c0 } : Room)) (z_bytes c0) (z_maxL c0) (z_retT c0) e s mi args below meth c s₁ → c.maxLocals = z_maxL c0 → c.exceptionTable.toList = tableOf (z_hh c0) → z_Pc D kc ad adV L xs sz vals σ1 args s →
      W p l e ({ frames := z_dep c0, cells := u, slots := 6 * u, locals := z_loc c0 } : Room) s mi args below meth c s.heap [] 0 0 (vx_MQ below (z_Qc D kc ad sz r σ2) (z_Xc D kc ad sz r σ2) args s u (6 * u) (z_A ad sz)) (entryFrame mi args (z_maxL c0)) := by
    intro p e s mi args below meth c s₁ B hml htb hv
    obtain ⟨rfl, hsz, hE, hPw⟩ := hv
    subst hsz
    have hts := atoms_spec (ws := z_head c0 :: z_wl) B.pre
    have C : z_Cx D kc ad adV L xs c0 p ({ frames := z_dep c0, cells := u, slots := 6 * u, locals := z_loc c0 } : Room) s mi (vals.map (z_tv ad)).toArray meth c := ⟨B.exec, B.bytes, hml, findClass_of_methodNamed B.named, fun w hw => hts w (List.mem_cons_of_mem _ hw), B.notSynchronized, hE, Nat.le_refl _, Nat.le_refl _, htb⟩
    rw [lg_entry_eq]
    have hEnd : z_End p l e ({ frames := z_dep c0, cells := u, slots := 6 * u, locals := z_loc c0 } : Room) s mi (vals.map (z_tv ad)).toArray below meth c (vx_MQ below (z_Qc D kc ad s.heap.size r σ2) (z_Xc D kc ad s.heap.size r σ2) (vals.map (z_tv ad)).toArray s u (6 * u) (z_A ad s.heap.size)) D kc ad c0 r σ2 u (6 * u) := by
      refine ⟨fun rv pc' ls' H' locs' ho hP' hS' hrt => ?_, fun e9 _ => ⟨_, rfl⟩⟩
      have hq : ∀ t : State, t.heap = H' → s.WarmedH t.vm → z_Qc D kc ad s.heap.size r σ2 (vals.map (z_tv ad)).toArray s (.returned (rv.map (z_tv ad))) t := fun t ht _ => ⟨⟨rv, ho, rfl, by rw [ht]; exact hP'⟩, hS'.F ht⟩
      refine vx_ret ?_
      match rv, hq, hrt with
      | none, hq, hrt => exact W.vret B.exec B.bytes (by rw [B.returns]; exact hrt.1) hq hS'.2.2 hrt.2 B.notSynchronized
      | some (.int x), hq, hrt =>
        obtain ⟨⟨ty, h1, h2⟩, h3⟩ := hrt
        exact W.zret B.exec B.bytes (by rw [B.returns]; exact h1) h2 hq hS'.2.2 h3 B.notSynchronized
      | some (.ref x), hq, hrt =>
        obtain ⟨⟨ty, h1, h2⟩, h3⟩ := hrt
        exact W.aret B.exec B.bytes (by rw [B.returns]; exact h1) h2 (Or.inr ⟨_, rfl⟩) hq hS'.2.2 h3 B.notSynchronized
      | some (.double x), hq, hrt => exact W.dret B.exec B.bytes (by rw [B.returns]; exact hrt.1) hq hS'.2.2 hrt.2 B.notSynchronized
      | some (.long x), hq, hrt => exact W.lret B.exec B.bytes (by rw [B.returns]; exact hrt.1) hq hS'.2.2 hrt.2 B.notSynchronized
    exact hP c0 p e _ s mi _ below meth c _ (z_maxL c0) r σ2 u (6 * u) C rfl (Nat.le_refl _) (Nat.le_refl _) hEnd 0 (z_ent (z_maxL c0) vals) [] σ1 u s.heap [] _ 0 0 h hPw va_S.rf (z_entry ad vals (z_maxL c0) hcat) (z_ent_len _ _ hcat) (by omega) (by omega)
  unfold z_Met
  cases hh : z_hh c0 with
  | nil =>
    have hd0 : z_head c0 = .code (z_y c0) (z_bytes c0) (z_maxL c0) (z_retT c0) := by unfold z_head; rw [hh]
    refine vx_ofW (cc := z_bytes c0) (maxL := z_maxL c0) (ret := z_retT c0) (ws' := z_wl) hpl (by rw [hd0]) ?_
    intro p e s m args below meth c s₁ B hml hno hv
    exact body p e s m args below meth c s₁ B hml (by
      rw [hh]
      exact List.eq_nil_iff_forall_not_mem.mpr (fun a ha => hno a ha)) hv
  | cons q r' =>
    have hd0 : z_head c0 = .codeWith (z_y c0) (z_bytes c0) (z_maxL c0) (z_retT c0) (z_hh c0) := by unfold z_head; rw [hh]
    refine vx_ofWH (cc := z_bytes c0) (maxL := z_maxL c0) (ret := z_retT c0) (hh := z_hh c0) (ws' := z_wl) hpl (by rw [hd0]) ?_
    intro p e s m args below meth c s₁ B hml hv
    have hts := atoms_spec (ws := z_head c0 :: z_wl) B.pre
    exact body p e s m args below meth c s₁ B hml (vx_table (x := z_y c0) B (by rw [← hd0]; exact hts _ List.mem_cons_self)) hv
/-- SOUND: what the interpreter tells, the machine does -/
theorem z_sound (hLK : z_LK) (hUI : z_UI) (hXS : z_XS) (hsT : l.stackTraces = false) (hinj : ∀ i j, i < 125 → j < 125 → ad i = ad j → i = j) (hJ : z_JS l D kc ad adV L xs) : ∀ n, z_P l D kc ad adV L xs n := by
  intro n
  induction n with
  | zero =>
    intro m p e R s mi args below meth c Q nL o τ MC MS _ _ _ _ _ pc lv st σ t H locs ls cells slots h
    cases h
  | succ n ih =>
    intro m p e R s mi args below meth c Q nL o τ MC MS C hnl hMC hMS hEnd pc lv st σ
    have hk := ih m p e R s mi args below meth c Q nL o τ MC MS C hnl hMC hMS hEnd
    show z_Wg p l e R s mi args below meth c Q D kc ad nL o τ MC MS pc lv st σ (match z_at m pc with
      | none => none
      | some e => z_stp L xs e.2.1 e.2.2.1 e.2.2.2.1 e.2.2.2.2 pc lv st σ (z_run L xs n m) (fun c args τ => z_run L xs n c 0 args [] τ) e.1)
    cases hat : z_at m pc with
    | none =>
      intro t H locs ls cells slots h
      cases h
    | some q =>
      obtain ⟨i, len, a, v, sw⟩ := q
      obtain ⟨h1, h2⟩ := hLK m pc _ hat
      exact z_step C hinj hsT hXS hUI hJ hnl hMC hMS hEnd hk _ (fun c0 vals σ1 r σ2 u sz g1 g2 g3 => z_metOf ih g1 g2 g3) h1 h2
end
