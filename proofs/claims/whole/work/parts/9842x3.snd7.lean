section ZW
variable {p : Program} {l : Launch} {e : Env} {R : Room} {s : State} {mi : MethodId} {args : Array Value} {below : List Frame} {meth : Method} {c : Code} {Q : State → Prop} {D : va_G} {kc : Nat → ClassId} {ad adV : Nat → Nat} {nL : Nat} {o : Option Value ⊕ Nat} {τ : zSt} {MC MS : Nat} {k : Nat → zL → List Value → zSt → Option zOut} {pc : Nat} {lv : zL} {st : List Value} {σ : zSt} {L : Nat} {xs : Nat → Int32} {m : Nat}
theorem z_stepy (C : z_Cx D kc ad adV L xs m p R s mi args meth c) (hinj : ∀ i j, i < 125 → j < 125 → ad i = ad j → i = j) (hsT : l.stackTraces = false) (hXS : z_XSy) (hUI : z_UI) (hJ : z_JS l D kc ad adV L xs) (hnl : nL = z_maxL m) (hMC : MC ≤ R.cells) (hMS : MS ≤ R.slots) (hEnd : z_End p l e R s mi args below meth c Q D kc ad m o τ MC MS) (hk : z_K p l e R s mi args below meth c Q D kc ad nL o τ MC MS k)
    (cl : Nat → zL → zSt → Option zOut) (hcl : ∀ c0 vals σ1 r σ2 u sz, cl c0 (z_ent (z_maxL c0) vals) σ1 = some (r, σ2, u) → (vals.map fun v => v.category).sum ≤ z_maxL c0 → plainName (z_y c0).cls = true → z_Met l D kc ad adV L xs c0 sz vals σ1 r σ2 u)
    {i : Instr} {len : Nat} {a : Nat × Nat × Nat} {v : Value} {sw : List (Int32 × Nat)} (hB : z_eB m pc (i, len, a, v, sw) = true) (hw : ∀ w ∈ z_need m (i, len, a, v, sw), w ∈ z_wl) : z_Wg p l e R s mi args below meth c Q D kc ad nL o τ MC MS pc lv st σ (z_stp L xs len a v sw pc lv st σ k cl i) := by
  have C' := C
  obtain ⟨hx, hb, hml, hown, hts, hlk, hE, hfr, hlo, htb⟩ := C'
  have hB' := hB
  unfold z_eB at hB'
  simp only [Bool.and_eq_true, decide_eq_true_eq] at hB'
  obtain ⟨hd0, hst⟩ := hB'
  have hd := z_dcs_ok hd0
  unfold z_stB at hst
  simp only [Bool.and_eq_true, Bool.or_eq_true, decide_eq_true_eq] at hst
  obtain ⟨hln, hst⟩ := hst
  cases i
  case iload_n n =>
    have hl1 : 1 = len := by simpa [z_ln] using hln
    subst hl1
    try dsimp only at hst
    exact zw_iload_n hx hb hd hk
  case iload n =>
    have hl1 : 2 = len := by simpa [z_ln] using hln
    subst hl1
    try dsimp only at hst
    exact zw_iload hx hb hd hk
  case istore_n n =>
    have hl1 : 1 = len := by simpa [z_ln] using hln
    subst hl1
    try dsimp only at hst
    exact zw_istore_n hx hb hd hk
  case istore n =>
    have hl1 : 2 = len := by simpa [z_ln] using hln
    subst hl1
    try dsimp only at hst
    exact zw_istore hx hb hd hk
  case aload_n n =>
    have hl1 : 1 = len := by simpa [z_ln] using hln
    subst hl1
    try dsimp only at hst
    exact zw_aload_n hx hb hd hk
  case aload n =>
    have hl1 : 2 = len := by simpa [z_ln] using hln
    subst hl1
    try dsimp only at hst
    exact zw_aload hx hb hd hk
  case astore_n n =>
    have hl1 : 1 = len := by simpa [z_ln] using hln
    subst hl1
    try dsimp only at hst
    exact zw_astore_n hx hb hd hk
  case astore n =>
    have hl1 : 2 = len := by simpa [z_ln] using hln
    subst hl1
    try dsimp only at hst
    exact zw_astore hx hb hd hk
  case lload_n n =>
    have hl1 : 1 = len := by simpa [z_ln] using hln
    subst hl1
    try dsimp only at hst
    exact zw_lload_n hx hb hd hk
  case lload n =>
    have hl1 : 2 = len := by simpa [z_ln] using hln
    subst hl1
    try dsimp only at hst
    exact zw_lload hx hb hd hk
  case lstore_n n =>
    have hl1 : 1 = len := by simpa [z_ln] using hln
    subst hl1
    try dsimp only at hst
    exact zw_lstore_n hx hb hd hk
  case lstore n =>
    have hl1 : 2 = len := by simpa [z_ln] using hln
    subst hl1
    try dsimp only at hst
    exact zw_lstore hx hb hd hk
  case dload_n n =>
    have hl1 : 1 = len := by simpa [z_ln] using hln
    subst hl1
    try dsimp only at hst
    exact zw_dload_n hx hb hd hk
  case dload n =>
    have hl1 : 2 = len := by simpa [z_ln] using hln
    subst hl1
    try dsimp only at hst
    exact zw_dload hx hb hd hk
  case dstore_n n =>
    have hl1 : 1 = len := by simpa [z_ln] using hln
    subst hl1
    try dsimp only at hst
    exact zw_dstore_n hx hb hd hk
  case dstore n =>
    have hl1 : 2 = len := by simpa [z_ln] using hln
    subst hl1
    try dsimp only at hst
    exact zw_dstore hx hb hd hk
  case iconst n =>
    have hl1 : 1 = len := by simpa [z_ln] using hln
    subst hl1
    try dsimp only at hst
    exact zw_iconst hx hb hd hk
  case bipush n =>
    have hl1 : 2 = len := by simpa [z_ln] using hln
    subst hl1
    try dsimp only at hst
    exact zw_bipush hx hb hd (by simpa using hst) hk
  case sipush n =>
    have hl1 : 3 = len := by simpa [z_ln] using hln
    subst hl1
    try dsimp only at hst
    exact zw_sipush hx hb hd (by simpa using hst) hk
  case lconst n =>
    have hl1 : 1 = len := by simpa [z_ln] using hln
    subst hl1
    try dsimp only at hst
    exact zw_lconst hx hb hd hk
  case dconst n =>
    have hl1 : 1 = len := by simpa [z_ln] using hln
    subst hl1
    try dsimp only at hst
    have h0 : n = 0 := by simpa using hst
    subst h0
    exact zw_dconst hx hb hd hk
  case ldc n =>
    have hl1 : 2 = len := by simpa [z_ln] using hln
    subst hl1
    try dsimp only at hst
    cases v with
    | int x => exact zw_ldc hx hb hown (hts _ (hw _ (by simp [z_need]))) hd hk
    | ref q =>
      dsimp only at hst
      simp only [Bool.and_eq_true, decide_eq_true_eq] at hst
      obtain ⟨⟨⟨h1, h2⟩, h3⟩, h4⟩ := hst
      have q0 : ∃ n : Nat, n = q := ⟨q, rfl⟩
      obtain ⟨n', hn'⟩ := q0
      have e1 : @LE.le Nat _ 200 n' := by rw [hn']; exact h1
      have e2 : @LT.lt Nat _ n' 205 := by rw [hn']; exact h2
      have hh := hE.2.2.2.2.2.1 (n' - 200) (by omega)
      rw [show 200 + (n' - 200) = n' by omega, hn', h4, ← h3] at hh
      exact zw_ldcS hx hb hown hh hd hk
    | _ => simp at hst
  case ldc_w n =>
    have hl1 : 3 = len := by simpa [z_ln] using hln
    subst hl1
    try dsimp only at hst
    cases v with
    | int x => exact zw_ldc_w hx hb hown (hts _ (hw _ (by simp [z_need]))) hd hk
    | _ => simp at hst
  case ldc2_w n =>
    have hl1 : 3 = len := by simpa [z_ln] using hln
    subst hl1
    try dsimp only at hst
    cases v with
    | long x => exact zw_ldc2 hx hb hown (hts _ (hw _ (by simp [z_need]))) hd hk
    | double x => exact zw_ldc2d hx hb hown (hts _ (hw _ (by simp [z_need]))) hd hk
    | _ => simp at hst
  case iadd =>
    have hl1 : 1 = len := by simpa [z_ln] using hln
    subst hl1
    try dsimp only at hst
    exact zw_iadd hx hb hd hk
  case isub =>
    have hl1 : 1 = len := by simpa [z_ln] using hln
    subst hl1
    try dsimp only at hst
    exact zw_isub hx hb hd hk
  case imul =>
    have hl1 : 1 = len := by simpa [z_ln] using hln
    subst hl1
    try dsimp only at hst
    exact zw_imul hx hb hd hk
  case idiv =>
    have hl1 : 1 = len := by simpa [z_ln] using hln
    subst hl1
    try dsimp only at hst
    exact zw_idiv hx hb hd hk
  case irem =>
    have hl1 : 1 = len := by simpa [z_ln] using hln
    subst hl1
    try dsimp only at hst
    exact zw_irem hx hb hd hk
  case iand =>
    have hl1 : 1 = len := by simpa [z_ln] using hln
    subst hl1
    try dsimp only at hst
    exact zw_iand hx hb hd hk
  case ior =>
    have hl1 : 1 = len := by simpa [z_ln] using hln
    subst hl1
    try dsimp only at hst
    exact zw_ior hx hb hd hk
  case ishr =>
    have hl1 : 1 = len := by simpa [z_ln] using hln
    subst hl1
    try dsimp only at hst
    exact zw_ishr hx hb hd hk
  case iushr =>
    have hl1 : 1 = len := by simpa [z_ln] using hln
    subst hl1
    try dsimp only at hst
    exact zw_iushr hx hb hd hk
  case ladd =>
    have hl1 : 1 = len := by simpa [z_ln] using hln
    subst hl1
    try dsimp only at hst
    exact zw_ladd hx hb hd hk L xs a v sw cl
  case lsub =>
    have hl1 : 1 = len := by simpa [z_ln] using hln
    subst hl1
    try dsimp only at hst
    exact zw_lsub hx hb hd hk L xs a v sw cl
  case lmul =>
    have hl1 : 1 = len := by simpa [z_ln] using hln
    subst hl1
    try dsimp only at hst
    exact zw_lmul hx hb hd hk L xs a v sw cl
  case i2l =>
    have hl1 : 1 = len := by simpa [z_ln] using hln
    subst hl1
    try dsimp only at hst
    exact zw_i2l hx hb hd hk L xs a v sw cl
  case l2i =>
    have hl1 : 1 = len := by simpa [z_ln] using hln
    subst hl1
    try dsimp only at hst
    exact zw_l2i hx hb hd hk L xs a v sw cl
  case i2d =>
    have hl1 : 1 = len := by simpa [z_ln] using hln
    subst hl1
    try dsimp only at hst
    exact zw_i2d hx hb hd hk L xs a v sw cl
  case lcmp =>
    have hl1 : 1 = len := by simpa [z_ln] using hln
    subst hl1
    try dsimp only at hst
    exact zw_lcmp hx hb hd hk L xs a v sw cl
  case ddiv =>
    have hl1 : 1 = len := by simpa [z_ln] using hln
    subst hl1
    try dsimp only at hst
    exact zw_ddiv hx hb hd hk L xs a v sw cl
  case dmul =>
    have hl1 : 1 = len := by simpa [z_ln] using hln
    subst hl1
    try dsimp only at hst
    exact zw_dmul hx hb hd hk L xs a v sw cl
  case dup =>
    have hl1 : 1 = len := by simpa [z_ln] using hln
    subst hl1
    try dsimp only at hst
    exact zw_dup hx hb hd hk L xs a v sw cl
  case dup2 =>
    have hl1 : 1 = len := by simpa [z_ln] using hln
    subst hl1
    try dsimp only at hst
    exact zw_dup2 hx hb hd hk L xs a v sw cl
  case dcmp q =>
    have hl1 : 1 = len := by simpa [z_ln] using hln
    subst hl1
    try dsimp only at hst
    exact zw_dcmp hx hb hd hk L xs a v sw cl
  case iinc i d =>
    have hl1 : 3 = len := by simpa [z_ln] using hln
    subst hl1
    try dsimp only at hst
    exact zw_iinc hx hb hd hk L xs a v sw cl
  case goto off =>
    have hl1 : 3 = len := by simpa [z_ln] using hln
    subst hl1
    try dsimp only at hst
    exact zw_goto hx hb hd (by simpa using hst) hk
  case ifCond cd off =>
    have hl1 : 3 = len := by simpa [z_ln] using hln
    subst hl1
    try dsimp only at hst
    have ht : (pc : Int) + off = (a.1 : Int) := by simpa using hst
    intro t H locs ls cells slots h hP hS hl hn hc hs
    dsimp only [z_stp] at h
    split at h
    · rename_i x r
      cases cd with
      | eq => exact zw_if_eq hx hb hd ht hk r x rfl t H locs ls cells slots h hP hS hl hn hc hs
      | ne => exact zw_if_ne hx hb hd ht hk r x rfl t H locs ls cells slots h hP hS hl hn hc hs
      | lt => exact zw_if_lt hx hb hd ht hk r x rfl t H locs ls cells slots h hP hS hl hn hc hs
      | ge => exact zw_if_ge hx hb hd ht hk r x rfl t H locs ls cells slots h hP hS hl hn hc hs
      | gt => exact zw_if_gt hx hb hd ht hk r x rfl t H locs ls cells slots h hP hS hl hn hc hs
      | le => exact zw_if_le hx hb hd ht hk r x rfl t H locs ls cells slots h hP hS hl hn hc hs
    · cases h
  case if_icmp cd off =>
    have hl1 : 3 = len := by simpa [z_ln] using hln
    subst hl1
    try dsimp only at hst
    have ht : (pc : Int) + off = (a.1 : Int) := by simpa using hst
    intro t H locs ls cells slots h hP hS hl hn hc hs
    dsimp only [z_stp] at h
    split at h
    · rename_i y x r
      cases cd with
      | eq => exact zw_icmp_eq hx hb hd ht hk r x y rfl t H locs ls cells slots h hP hS hl hn hc hs
      | ne => exact zw_icmp_ne hx hb hd ht hk r x y rfl t H locs ls cells slots h hP hS hl hn hc hs
      | lt => exact zw_icmp_lt hx hb hd ht hk r x y rfl t H locs ls cells slots h hP hS hl hn hc hs
      | ge => exact zw_icmp_ge hx hb hd ht hk r x y rfl t H locs ls cells slots h hP hS hl hn hc hs
      | gt => exact zw_icmp_gt hx hb hd ht hk r x y rfl t H locs ls cells slots h hP hS hl hn hc hs
      | le => exact zw_icmp_le hx hb hd ht hk r x y rfl t H locs ls cells slots h hP hS hl hn hc hs
    · cases h
  case tableswitch d lo hi offs =>
    simp only [Bool.and_eq_true, decide_eq_true_eq] at hst
    obtain ⟨⟨h1, h2⟩, h3⟩ := hst
    intro t H locs ls cells slots h hP hS hl hn hc hs
    dsimp only [z_stp] at h
    split at h
    · rename_i x r
      exact zw_tsw hx hb hd h1 h2 h3 hk x r rfl t H locs ls cells slots h hP hS hl hn hc hs
    · cases h
  case lookupswitch d ps =>
    simp only [Bool.and_eq_true, decide_eq_true_eq] at hst
    obtain ⟨⟨h1, h2⟩, h3⟩ := hst
    intro t H locs ls cells slots h hP hS hl hn hc hs
    dsimp only [z_stp] at h
    split at h
    · rename_i x r
      exact zw_lsw hx hb hd h1 h2 h3 hk x r rfl t H locs ls cells slots h hP hS hl hn hc hs
    · cases h
  case getfield n =>
    have hl1 : 3 = len := by simpa [z_ln] using hln
    subst hl1
    try dsimp only at hst
    simp only [Bool.and_eq_true, decide_eq_true_eq] at hst
    obtain ⟨⟨h1, h2⟩, h3⟩ := hst
    exact zw_get hx hb hts (hUI _ h1) hown hE.1 h1 h2 h3 (hts _ (hw _ (by simp [z_need]))) hd hk
  case putfield n =>
    have hl1 : 3 = len := by simpa [z_ln] using hln
    subst hl1
    try dsimp only at hst
    simp only [Bool.and_eq_true, decide_eq_true_eq] at hst
    obtain ⟨⟨⟨⟨⟨h1, h2⟩, h0⟩, h3⟩, h4⟩, h5⟩ := hst
    refine zw_put hx hb hts (hUI _ h1) hown hE.1 hinj h1 h2 h0 h3 h4 ?_ (hts _ (hw _ (by simp [z_need]))) hd hk
    split at h5
    · rename_i h6
      exact Or.inl ⟨h6, by simpa using h5⟩
    · rename_i h6
      exact Or.inr (Or.inl ⟨h6, by simpa using h5⟩)
    · rename_i h6
      refine Or.inr (Or.inr ⟨h6, ?_⟩)
      split at h5
      · rename_i C hC
        exact Or.inl ⟨C, hC⟩
      · rename_i C hC
        exact Or.inr ⟨C, hC⟩
      · cases h5
    · cases h5
  case iaload =>
    have hl1 : 1 = len := by simpa [z_ln] using hln
    subst hl1
    try dsimp only at hst
    exact zw_iaload hx hb hE.1 hE.2.2.2.1 hd hk
  case baload =>
    have hl1 : 1 = len := by simpa [z_ln] using hln
    subst hl1
    try dsimp only at hst
    exact zw_baload hx hb hE.1 hd hk
  case iastore =>
    have hl1 : 1 = len := by simpa [z_ln] using hln
    subst hl1
    try dsimp only at hst
    exact zw_iastore hx hb hE.1 hinj hd hk
  case bastore =>
    have hl1 : 1 = len := by simpa [z_ln] using hln
    subst hl1
    try dsimp only at hst
    exact zw_bastore hx hb hE.1 hinj hd hk
  case laload =>
    have hl1 : 1 = len := by simpa [z_ln] using hln
    subst hl1
    try dsimp only at hst
    exact zw_laload hx hb hE.1 hd hk L xs a v sw cl
  case daload =>
    have hl1 : 1 = len := by simpa [z_ln] using hln
    subst hl1
    try dsimp only at hst
    exact zw_daload hx hb hE.1 hd hk L xs a v sw cl
  case lastore =>
    have hl1 : 1 = len := by simpa [z_ln] using hln
    subst hl1
    try dsimp only at hst
    exact zw_lastore hx hb hE.1 hinj z_one12 hd hk L xs a v sw cl
  case dastore =>
    have hl1 : 1 = len := by simpa [z_ln] using hln
    subst hl1
    try dsimp only at hst
    exact zw_dastore hx hb hE.1 hinj z_one13 hd hk L xs a v sw cl
  case aaload =>
    have hl1 : 1 = len := by simpa [z_ln] using hln
    subst hl1
    try dsimp only at hst
    exact zw_aaload hx hb hE.1 hd hk L xs a v sw cl
  case arraylength =>
    have hl1 : 1 = len := by simpa [z_ln] using hln
    subst hl1
    try dsimp only at hst
    exact zw_alen hx hb hE.1 hE.2.2.2.1 hd hk xs a v sw cl
  case new ik =>
    have hl1 : 3 = len := by simpa [z_ln] using hln
    subst hl1
    try dsimp only at hst
    exact zw_newy C hsT hXS hnl hMC hMS hEnd hB hw cl
  case invokestatic idx =>
    have hl1 : 3 = len := by simpa [z_ln] using hln
    subst hl1
    try dsimp only at hst
    by_cases ha : a.1 < 1000
    · rw [if_pos ha] at hst
      simp only [Bool.and_eq_true, decide_eq_true_eq] at hst
      exact zw_invS C hnl hMC hMS hEnd hk ha hd hst.1 hw hst.2 cl (fun vals σ1 r σ2 u sz h1 h2 => hcl a.1 vals σ1 r σ2 u sz h1 h2 (z_clB_spec hst.1).2.2.2.2.2.1)
    · rw [if_neg ha] at hst
      intro t H locs ls cells slots h hP hS hl hn hc hs
      dsimp only [z_stp] at h
      unfold z_call at h
      split at h
      · split at h
        · rename_i h8
          rw [if_pos (by omega)] at h
          have nd : ∀ w ∈ z_need m (.invokestatic idx, 3, a, v, sw), w.before args s = true := fun w hww => hts _ (hw w hww)
          unfold z_need at nd
          dsimp only at nd
          rw [if_neg ha] at nd
          by_cases h2 : a.1 = 1002
          · rw [if_pos h2] at hst
            simp only [Bool.and_eq_true, decide_eq_true_eq] at hst
            have h8' : ((st.drop 5).map fun v => v.category).sum ≤ 8 := by
              have hn5 : a.2.1 = 5 := hst.2
              rw [← hn5]
              exact h8
            exact zw_copy hx hb (by rw [hml, hnl]) h2 hown (by rw [h2] at nd; exact nd) hE.1 hinj (by omega) (by omega) hd hk h8' t H locs ls cells slots h hP hS hl hn hc hs
          · rw [if_neg h2] at hst
            simp only [Bool.and_eq_true, decide_eq_true_eq] at hst
            have hn2 : a.2.1 = 2 := hst.2
            have h8' : ((st.drop 2).map fun v => v.category).sum ≤ 8 := by
              rw [← hn2]
              exact h8
            rcases (show a.1 = 1000 ∨ a.1 = 1001 by omega) with h3 | h3
            · exact zw_max hx hb (by rw [hml, hnl]) h3 hown (by rw [h3] at nd; exact nd) (by omega) (by omega) hMC hMS hd hk h8' t H locs ls cells slots h hP hS hl hn hc hs
            · exact zw_min hx hb (by rw [hml, hnl]) h3 hown (by rw [h3] at nd; exact nd) (by omega) (by omega) hMC hMS hd hk h8' t H locs ls cells slots h hP hS hl hn hc hs
        · cases h
      · cases h
  case invokevirtual idx =>
    have hl1 : 3 = len := by simpa [z_ln] using hln
    subst hl1
    try dsimp only at hst
    intro t H locs ls cells slots h hP hS hl hn hc hs
    dsimp only [z_stp] at h
    split at h
    · rename_i q tl hrec
      by_cases ha : a.1 < 1000
      · rw [if_pos ha] at hst
        simp only [Bool.and_eq_true, decide_eq_true_eq] at hst
        obtain ⟨⟨⟨⟨h1, h2⟩, h3⟩, h4⟩, h5⟩ := hst
        rw [if_neg (by omega)] at h
        split at h
        · rename_i hq
          exact zw_invV C hnl hMC hMS hEnd hk ha h1 h3 h4 h5 hd h2 hw cl (fun vals σ1 r σ2 u sz g1 g2 => hcl a.1 vals σ1 r σ2 u sz g1 g2 (z_clB_spec h2).2.2.2.2.2.1) hrec hq t H locs ls cells slots h hP hS hl hn hc hs
        · cases h
      · rw [if_neg ha] at hst
        rw [if_pos (by omega)] at h
        simp only [Bool.and_eq_true, Bool.or_eq_true, decide_eq_true_eq] at hst
        obtain ⟨hO, hst⟩ := hst
        unfold z_call at h
        split at h
        · split at h
          · rename_i h8
            rw [if_pos (by omega)] at h
            unfold z_nat at h
            rcases hst with ⟨⟨⟨⟨g1, g2⟩, g3⟩, g4⟩, g5⟩ | ⟨⟨⟨⟨g1, g2⟩, g3⟩, g4⟩, g5⟩
            · rw [g1] at h
              match st, h with
              | .ref q :: r, h =>
                replace h : (if 200 ≤ q then if q < 205 then k (pc + 3) lv (.int (Int32.ofNat ((z_txt q).length)) :: r) σ else none else none) = some (o, τ, t) := h
                split at h
                · rename_i hq1
                  split at h
                  · rename_i hq2
                    rw [g5] at h8
                    have h8' := z_cats8 (ad := ad) 1 h8
                    rw [g2] at hd
                    exact (hJ C hO hS (by rw [hl.1, hn, hnl]) (by omega) (by omega) (by simpa using h8') hq1 hq2).1 (by omega) (by omega) hd (hk _ _ _ _ _ _ _ _ _ _ h hP hS hl hn hc hs)
                  · cases h
                · cases h
            · rw [g1] at h
              match st, h with
              | .int i :: .ref q :: r, h =>
                replace h : (if 200 ≤ q then if q < 205 then if z_in i (z_txt q).length then k (pc + 3) lv (.int ((z_txt q).getD i.toNatClampNeg 0) :: r) σ else none else none else none) = some (o, τ, t) := h
                split at h
                · rename_i hq1
                  split at h
                  · rename_i hq2
                    split at h
                    · rename_i hin
                      rw [g5] at h8
                      have h8' := z_cats8 (ad := ad) 2 h8
                      rw [g2] at hd
                      exact (hJ C hO hS (by rw [hl.1, hn, hnl]) (by omega) (by omega) (by simpa using h8') hq1 hq2).2 (by omega) (by omega) hd i hin (hk _ _ _ _ _ _ _ _ _ _ h hP hS hl hn hc hs)
                    · cases h
                  · cases h
                · cases h
          · cases h
        · cases h
    · cases h
  case ireturn =>
    have hl1 : 1 = len := by simpa [z_ln] using hln
    subst hl1
    try dsimp only at hst
    refine zw_ret C hEnd (fun rv => ⟨(fun h => absurd h (by decide)), fun x _ h1 h2 => ?_, (fun _ h => absurd h (by decide)), (fun _ h => absurd h (by decide)), (fun _ h => absurd h (by decide))⟩)
    subst h2
    have hr : z_retT m = if a.1 = 0 then some .int else some .boolean := by simpa using hst
    refine ⟨?_, hd⟩
    by_cases h0 : a.1 = 0
    · rw [if_pos h0] at hr
      exact ⟨_, hr, rfl⟩
    · rw [if_neg h0] at hr
      refine ⟨_, hr, ?_⟩
      rcases h1 with h1 | h1 | h1
      · exact absurd h1 h0
      · subst h1; rfl
      · subst h1; rfl
  case return_ =>
    have hl1 : 1 = len := by simpa [z_ln] using hln
    subst hl1
    try dsimp only at hst
    refine zw_ret C hEnd (fun rv => ⟨fun _ h => ?_, (fun _ h => absurd h (by decide)), (fun _ h => absurd h (by decide)), (fun _ h => absurd h (by decide)), (fun _ h => absurd h (by decide))⟩)
    subst h
    exact ⟨by simpa using hst, hd⟩
  case areturn =>
    have hl1 : 1 = len := by simpa [z_ln] using hln
    subst hl1
    try dsimp only at hst
    refine zw_ret C hEnd (fun rv => ⟨(fun h => absurd h (by decide)), (fun _ h => absurd h (by decide)), fun x _ h => ?_, (fun _ h => absurd h (by decide)), (fun _ h => absurd h (by decide))⟩)
    subst h
    refine ⟨?_, hd⟩
    split at hst
    · rename_i C hC
      exact ⟨_, hC, Or.inl ⟨C, rfl⟩⟩
    · rename_i C hC
      exact ⟨_, hC, Or.inr ⟨C, rfl⟩⟩
    · cases hst
  case dreturn =>
    have hl1 : 1 = len := by simpa [z_ln] using hln
    subst hl1
    try dsimp only at hst
    refine zw_ret C hEnd (fun rv => ⟨(fun h => absurd h (by decide)), (fun _ h => absurd h (by decide)), (fun _ h => absurd h (by decide)), fun x _ h => ?_, (fun _ h => absurd h (by decide))⟩)
    subst h
    exact ⟨by simpa using hst, hd⟩
  case lreturn =>
    have hl1 : 1 = len := by simpa [z_ln] using hln
    subst hl1
    try dsimp only at hst
    refine zw_ret C hEnd (fun rv => ⟨(fun h => absurd h (by decide)), (fun _ h => absurd h (by decide)), (fun _ h => absurd h (by decide)), (fun _ h => absurd h (by decide)), fun x _ h => ?_⟩)
    subst h
    exact ⟨by simpa using hst, hd⟩
  all_goals (intro t H locs ls cells slots h; cases h)
end ZW
