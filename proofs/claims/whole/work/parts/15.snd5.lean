/-! calls, throws, returns -/
/-- a return of rv stands at pc -/
def z_rt (m pc : Nat) (rv : Option Value) : Prop := match rv with
  | none => z_retT m = none ∧ decode (z_bytes m) pc = .ok (.return_, 1)
  | some (.int x) => (∃ ty, z_retT m = some ty ∧ narrow ty (.int x) = .int x) ∧ decode (z_bytes m) pc = .ok (.ireturn, 1)
  | some (.ref _) => (∃ ty, z_retT m = some ty ∧ ((∃ n, ty = .object n) ∨ ∃ t, ty = .array t)) ∧ decode (z_bytes m) pc = .ok (.areturn, 1)
  | some (.double _) => z_retT m = some .double ∧ decode (z_bytes m) pc = .ok (.dreturn, 1)
  | some (.long _) => z_retT m = some .long ∧ decode (z_bytes m) pc = .ok (.lreturn, 1)
  | _ => False
theorem z_dcs_ok {m pc : Nat} {q : Instr × Nat} (h : z_dcs m pc = some q) : decode (z_bytes m) pc = .ok q := by
  unfold z_dcs at h
  split at h
  · rename_i q' hq
    cases h
    exact hq
  · cases h
theorem z_back_inv {sw : List (Int32 × Nat)} {x : Option zOut} {k2 : Option Value → zSt → Option zOut} {o : Option Value ⊕ Nat} {τ : zSt} {t : Nat} (h : z_back sw x k2 = some (o, τ, t)) :
    (∃ rv σ2 u t2, x = some (.inl rv, σ2, u) ∧ k2 rv σ2 = some (o, τ, t2) ∧ t = u + t2) ∨ (∃ e9, x = some (.inr e9, τ, t) ∧ ((sw = [] ∧ o = .inr e9) ∨ (sw ≠ [] ∧ ∃ cst, z_hnd e9 sw = some cst ∧ o = .inl (some (.int cst))))) := by
  unfold z_back at h
  split at h
  · cases h
  · rename_i rv σ2 u
    unfold z_add at h
    split at h
    · cases h
    · rename_i r' σ' u' hk
      cases h
      exact Or.inl ⟨rv, σ2, u, u', rfl, hk, rfl⟩
  · rename_i e9 σ2 u
    split at h
    · cases h
      exact Or.inr ⟨e9, rfl, Or.inl ⟨rfl, rfl⟩⟩
    · split at h
      · cases h
      · rename_i cst hc
        cases h
        exact Or.inr ⟨e9, rfl, Or.inr ⟨by simp, cst, hc, rfl⟩⟩
theorem z_hnd_spec {e9 : Nat} {cst : Int32} : ∀ {sw : List (Int32 × Nat)}, z_hnd e9 sw = some cst → ∃ (i : Nat) (q : Int32 × Nat), sw[i]? = some q ∧ q.1 = Int32.ofNat e9 ∧ cst = Int32.ofNat q.2 ∧ ∀ (j : Nat) (q' : Int32 × Nat), j < i → sw[j]? = some q' → q'.1 ≠ Int32.ofNat e9
  | [], h => by cases h
  | q :: r, h => by
    unfold z_hnd at h
    split at h
    · rename_i hq
      cases h
      exact ⟨0, q, rfl, hq, rfl, fun j _ hj => absurd hj (Nat.not_lt_zero j)⟩
    · rename_i hq
      obtain ⟨i, q', h1, h2, h3, h4⟩ := z_hnd_spec h
      refine ⟨i + 1, q', by simpa using h1, h2, h3, fun j q2 hj hq2 => ?_⟩
      match j, hj, hq2 with
      | 0, _, hq2 => cases hq2; exact hq
      | j + 1, hj, hq2 => exact h4 j q2 (by omega) (by simpa using hq2)
section ZW
variable {p : Program} {l : Launch} {e : Env} {R : Room} {s : State} {mi : MethodId} {args : Array Value} {below : List Frame} {meth : Method} {c : Code} {Q : State → Prop} {D : va_G} {kc : Nat → ClassId} {ad adV : Nat → Nat} {nL : Nat} {o : Option Value ⊕ Nat} {τ : zSt} {MC MS : Nat} {k : Nat → zL → List Value → zSt → Option zOut} {pc : Nat} {lv : zL} {st : List Value} {σ : zSt} {L : Nat} {xs : Nat → Int32} {m : Nat}
/-- where a walk ends: the frame at its return, or a throw that leaves the method -/
def z_End (p : Program) (l : Launch) (e : Env) (R : Room) (s : State) (mi : MethodId) (args : Array Value) (below : List Frame) (meth : Method) (c : Code) (Q : State → Prop) (D : va_G) (kc : Nat → ClassId) (ad : Nat → Nat) (m : Nat) (o : Option Value ⊕ Nat) (τ : zSt) (MC MS : Nat) : Prop :=
  (∀ (rv : Option Value) (pc' : Nat) (ls' : Array Slot) (H' : Heap) (locs' : List Loc), o = .inl rv → va_P D vwCl (z_ws kc ad τ) H' → va_S (z_A ad s.heap.size) s.heap H' locs' → z_rt m pc' rv → W p l e R s mi args below meth c H' locs' MC MS Q (F0 mi pc' ls' (rv.map (z_tv ad)).toList)) ∧
  (∀ e9, o = .inr e9 → ∃ Qc, Q = vx_MQ below Qc (z_Xc D kc ad s.heap.size o τ) args s MC MS (z_A ad s.heap.size))
theorem zw_back (hb : c.code = z_bytes m) (hx : p.tables.exec = Jvm.exec) (hown : s.vm.findClass (z_own m) = some mi.cls) (hE : z_E D kc ad adV L xs s.heap.size s s.heap) (hlk : meth.locks = false) (htb : c.exceptionTable.toList = tableOf (z_hh m)) (hnl : nL = z_maxL m) (hEnd : z_End p l e R s mi args below meth c Q D kc ad m o τ MC MS) (hk : z_K p l e R s mi args below meth c Q D kc ad nL o τ MC MS k)
    {x : Option zOut} {n t : Nat} {sw : List (Int32 × Nat)} {H : Heap} {locs : List Loc} {ls : Array Slot} {cells slots : Nat}
    (hsw : sw = [] → z_hh m = []) (hsw2 : sw ≠ [] → sw.length = (z_hh m).length ∧ z_retT m = some .int ∧ (sw.zip (z_hh m)).all (fun q => z_hcB m q pc) = true ∧ ∀ w ∈ (sw.zip (z_hh m)).map (fun q => Jvm.Cond.classLink (z_own m) q.2.2.2.2 (z_EX q.1.1.toNatClampNeg)), w.before args s = true)
    (h : z_back sw x (fun r σ' => k (pc + 3) lv (r.toList ++ st.drop n) σ') = some (o, τ, t)) (hS : va_S (z_A ad s.heap.size) s.heap H locs) (hl : z_lc ad lv ls) (hn : lv.length = nL) (hc : cells + t = MC) (hs : slots + 6 * t = MS)
    (hr : ∀ r σ2 u, x = some (r, σ2, u) → cells + u ≤ MC → slots + 6 * u ≤ MS → vx_Run p l e R s mi args below meth c H locs cells slots u (6 * u) (F0 mi pc ls (st.map (z_tv ad))) ((st.drop n).map (z_tv ad)) (z_Qc D kc ad H.size r σ2 #[]) (z_Xc D kc ad H.size r σ2) (z_A ad H.size)) :
    W p l e R s mi args below meth c H locs cells slots Q (F0 mi pc ls (st.map (z_tv ad))) := by
  rcases z_back_inv h with ⟨rv, σ2, u, t2, h1, h2, h3⟩ | ⟨e9, h1, h2⟩
  · refine z_after (hr _ _ _ h1 (by omega) (by omega)) hS (fun rv' H1 locs1 hrv hP1 hS1 => ?_) (fun e9 ce q9 H1 locs1 he4 hr1 => by cases hr1)
    cases hrv
    have := hk _ _ _ _ _ _ _ _ (cells + u) (slots + 6 * u) h2 hP1 hS1 hl hn (by omega) (by omega)
    rw [List.map_append] at this
    have e : (rv.map (z_tv ad)).toList = rv.toList.map (z_tv ad) := by cases rv <;> rfl
    rw [e]
    exact this
  · refine z_after (hr _ _ _ h1 (by omega) (by omega)) hS (fun rv' H1 locs1 hrv => by cases hrv) (fun e9' ce q9 H1 locs1 he4 hr1 hP1 hS1 hcell hvm hcl => ?_)
    cases hr1
    rcases h2 with ⟨h3, h4⟩ | ⟨h3, cst, h4, h5⟩
    · obtain ⟨Qc, hQ⟩ := hEnd.2 _ h4
      rw [hQ]
      refine vx_out (by rw [htb, hsw h3]; intro z hz; cases hz) hlk hcell hvm hcl (fun T hT _ => ⟨⟨e9, he4, h4, rfl, by rw [hT]; exact hP1⟩, hS1.F hT⟩) hS1.2.2 (by omega) (by omega)
    · obtain ⟨g1, g2, g3, g4⟩ := hsw2 h3
      obtain ⟨i, q, f1, f2, f3, f4⟩ := z_hnd_spec h4
      have hi : i < sw.length := (List.getElem?_eq_some_iff.mp f1).1
      have hget : ∀ j, j < sw.length → ∃ q' z', sw[j]? = some q' ∧ (z_hh m)[j]? = some z' ∧ (sw.zip (z_hh m))[j]? = some (q', z') := by
        intro j hj
        refine ⟨sw[j], (z_hh m)[j]'(by omega), List.getElem?_eq_getElem hj, List.getElem?_eq_getElem (by omega), ?_⟩
        rw [List.getElem?_eq_getElem (by rw [List.length_zip]; omega), List.getElem_zip]
      have hB : ∀ j q' z', (sw.zip (z_hh m))[j]? = some (q', z') → z_hcB m (q', z') pc = true ∧ (Jvm.Cond.classLink (z_own m) z'.2.2.2 (z_EX q'.1.toNatClampNeg)).before args s = true := fun j q' z' hj => ⟨List.all_eq_true.mp g3 _ (List.mem_of_getElem? hj), g4 _ (List.mem_map.mpr ⟨_, List.mem_of_getElem? hj, rfl⟩)⟩
      obtain ⟨q1, z1, a1, a2, a3⟩ := hget i hi
      have hq1 : q1 = q := Option.some.inj (a1.symm.trans f1)
      subst hq1
      obtain ⟨b1, b2⟩ := hB _ _ _ a3
      have hsp : c.exceptionTable.toList = (tableOf ((z_hh m).take i)) ++ ⟨z1.1, z1.2.1, z1.2.2.1, z1.2.2.2⟩ :: tableOf ((z_hh m).drop (i + 1)) := by
        rw [htb]
        unfold tableOf
        rw [← List.map_cons (f := fun q : Nat × Nat × Nat × Nat => (⟨q.1, q.2.1, q.2.2.1, q.2.2.2⟩ : ExceptionTableEntry)), ← List.map_append]
        congr 1
        have hlt : i < (z_hh m).length := by omega
        have hz : (z_hh m)[i]'hlt = z1 := by
          have := List.getElem?_eq_getElem hlt
          rw [a2] at this
          exact (Option.some.inj this).symm
        rw [← hz, List.getElem_cons_drop hlt, List.take_append_drop]
      unfold z_hcB at b1
      simp only [Bool.and_eq_true, decide_eq_true_eq] at b1
      obtain ⟨⟨⟨⟨⟨c1, c2⟩, c3⟩, c4⟩, c5⟩, c6⟩ := b1
      have hce : q1.1.toNatClampNeg = e9 := by
        rw [f2]
        have h31 : e9 < 2 ^ 31 := Nat.lt_of_lt_of_le he4 (by decide)
        exact nI_clamp h31
      refine vx_catch (name := z_EX e9) hown _ _ _ hsp ?_ (by simp [covers, c1, c2]) c3 (by rw [← hce]; exact b2) (z_facemv (Vm.Alike.refl _) (z_xw_f _ (z_xw_c e9 he4)).1 (z_xw_f _ (z_xw_c e9 he4)).2 (hE.2.2.2.2.2.2.1 _ (z_xw_c e9 he4))) hcell hvm hcl ?_
      · intro z hz
        obtain ⟨j, hj⟩ := List.getElem?_of_mem hz
        have hjlt : j < i := by
          have := (List.getElem?_eq_some_iff.mp hj).1
          simp [tableOf] at this
          omega
        obtain ⟨q2, z2, d1, d2, d3⟩ := hget j (by omega)
        have hzz : z = ⟨z2.1, z2.2.1, z2.2.2.1, z2.2.2.2⟩ := by
          unfold tableOf at hj
          rw [List.getElem?_map, List.getElem?_take_of_lt hjlt, d2] at hj
          exact (Option.some.inj hj).symm
        obtain ⟨w1, w2⟩ := hB _ _ _ d3
        unfold z_hcB at w1
        simp only [Bool.and_eq_true, decide_eq_true_eq] at w1
        obtain ⟨⟨⟨⟨⟨_, _⟩, u3⟩, u4⟩, u5⟩, _⟩ := w1
        have hne : q2.1.toNatClampNeg ≠ e9 := fun hh => f4 j q2 hjlt d1 (by rw [u5, hh])
        exact Or.inr ⟨by rw [hzz]; exact u3, z_EX q2.1.toNatClampNeg, by rw [hzz]; exact w2, hE.2.2.2.2.2.2.2.1 e9 _ he4 u4 (Ne.symm hne)⟩
      · have hfin : ∀ (pc' : Nat) (ls' : Array Slot), decode (z_bytes m) pc' = .ok (.ireturn, 1) → W p l e R s mi args below meth c H1 locs1 (cells + t) (slots + 6 * t) Q (F0 mi pc' ls' [.int cst]) := by
          intro pc' ls' hd
          have := hEnd.1 (some (.int cst)) pc' ls' H1 locs1 h5 hP1 hS1 ⟨⟨.int, g2, rfl⟩, hd⟩
          rw [hc, hs]
          exact this
        have hlen : ls.size = z_maxL m := by rw [hl.1, hn, hnl]
        split at c6
        · rename_i kk hk1
          simp only [Bool.and_eq_true, decide_eq_true_eq] at c6
          obtain ⟨c7, c8⟩ := c6
          split at c8
          · rename_i cc' hk2
            simp only [Bool.and_eq_true, decide_eq_true_eq] at c8
            refine lv_astore (lv' := _) hx hb (z_dcs_ok hk1) (lv := []) ⟨hlen, hl.2.1, fun q h => absurd h List.not_mem_nil⟩ c7 rfl (fun ls' hl' => ?_)
            refine lv_iconst (v := cst) hx hb (z_dcs_ok hk2) (by rw [c8.1, f3]) ?_
            exact hfin _ _ (z_dcs_ok c8.2)
          · cases c8
        · rename_i kk hk1
          simp only [Bool.and_eq_true, decide_eq_true_eq] at c6
          obtain ⟨c7, c8⟩ := c6
          split at c8
          · rename_i cc' hk2
            simp only [Bool.and_eq_true, decide_eq_true_eq] at c8
            refine lv_astore_n (lv' := _) hx hb (z_dcs_ok hk1) rfl (lv := []) ⟨hlen, hl.2.1, fun q h => absurd h List.not_mem_nil⟩ c7 rfl (fun ls' hl' => ?_)
            refine lv_iconst (v := cst) hx hb (z_dcs_ok hk2) (by rw [c8.1, f3]) ?_
            exact hfin _ _ (z_dcs_ok c8.2)
          · cases c8
        · cases c6
end ZW
