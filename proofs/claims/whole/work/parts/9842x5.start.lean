set_option maxRecDepth 100000 in
set_option maxHeartbeats 4000000 in
theorem z_starty {p : Program} {e : Env} {s : State} {m : MethodId} {below : List Frame} {meth : Method} {c : Code} (l : Launch) (hflags : l.flags = flags0) {b L : Nat} {xs : Nat → Int32} (C0 : lw_At p s m meth c b L xs) (hPure : zW L xs 248 28 z_lv0 [] z_σ0 (fun o _ t => o = .inl (some (.int 1)) ∧ t ≤ 512)) (hkLK : zk_LK) (hLK : z_LK) (hXS : z_XSy) (hUI : z_UI) : W p l e room_1 s m #[Value.ref b] below meth c s.heap [] 0 0 (lw_Z below #[Value.ref b] s) (entryFrame m ([Value.ref b] : List Value).toArray 9) := by
  obtain ⟨D, kc, aS, aV, hE0, hEnv⟩ := z_env C0 hUI
  obtain ⟨hx, hb, hr, hml, hown, hts, hX, hbl, hlk, hgv, htab⟩ := id C0
  have hwl : ∀ w ∈ z_wl, w.before #[Value.ref b] s = true := fun w hw => hts w (z_wl_tbl _ hw)
  have hK := hE0.1
  have hA : ∀ q : Nat, s.heap.size ≤ q → (fun q : Nat => s.heap.size ≤ q) q := fun _ h => h
  obtain ⟨⟨c1, c2⟩, ⟨c3, c4⟩, ⟨c5, c6⟩, ⟨c7, c8⟩, ⟨c9, c10⟩, c11, c12⟩ := zst_law
  obtain ⟨m1, m2⟩ := zk_mc
  have hS : va_S (fun q : Nat => s.heap.size ≤ q) s.heap s.heap [] := va_S.rf
  have hP : va_P D vwCl [] s.heap := fun k q h => by simp at h
  have hD : va_D (fun q : Nat => s.heap.size ≤ q) [] := ⟨fun i j p q h => by simp at h, fun k q h => by simp at h⟩
  have hl := lv_entry ([.ref b]) (n := 9) (Nat.le_of_ble_eq_true rfl)
  rw [lg_entry_eq]
  generalize (lg_sl ([.ref b]) ++ List.replicate (9 - (lg_sl ([.ref b])).length) Slot.unset).toArray = ls at hl ⊢
  have hl : lv_has ls 9 [(0, .ref b)] := hl
  have hRm : room_1.cells = 601024 ∧ room_1.slots = 7293034 ∧ room_1.frames = 14 ∧ room_1.locals = 544 := ⟨rfl, rfl, rfl, rfl⟩
  obtain ⟨rc, rs, rf, rl⟩ := hRm
  have hfs : ∀ ci, ci < 7 → ∀ j, j < z_N ci → defaultValue (z_tyf ci j) = vp_V ((List.range (z_N ci)).map (fun j => if z_isR ci j = true then Value.null else .int 0)) j := by
    intro ci hci j hj
    rw [zc_dflt ci hci j hj]
    unfold vp_V
    rw [List.getD_eq_getElem?_getD, List.getElem?_map, List.getElem?_range hj]
    rfl
  have hN5 : z_N 5 ≤ 30 ∧ z_N 6 ≤ 30 := by decide +kernel
  -- new DiskImageDiff
  refine va_new (C := z_C 5) (T := z_T 5) (N := z_N 5) (ci := 5) (index := 8) (own := RL) (fs := (List.range (z_N 5)).map (fun j => if z_isR 5 j = true then Value.null else .int 0)) hx hb hwl (hUI 5 (by decide)) (z_tyf 5) (z_tyok 5 (by decide)) hown (hts _ c1) (hts _ (zst_cls 5 (by decide))) (hts _ c3) hK hP hD hS hA (z_vwCl 5 (by decide)) (hfs 5 (by decide)) (by omega) (by omega) zd_law_0 (fun q0 H hP hD hS => ?_)
  have ew : ([] : va_W) ++ [(q0, .inr (5, (List.range (z_N 5)).map (fun j => if z_isR 5 j = true then Value.null else .int 0)))] = zc_ws kc (fun _ => q0) zk_S1 := by
    show [(q0, _)] = [(q0, zc_cell kc (fun _ => q0) zk_S1 0)]
    rw [zc_cell_obj (show z_kind 0 = 5 from rfl) (by decide)]
    rfl
  rw [ew] at hP hD
  refine lv_dup hx hb zd_law_3 rfl ?_
  have hsz0 := hS.1
  have hfree : ∀ (ad : Nat → Nat) (n : Nat) (H : Heap) (ws : va_W), s.heap.size ≤ H.size → (∀ i, i < n → s.heap.size ≤ ad i) → ∀ q, zc_A ad n H.size q → s.heap.size ≤ q := by
    intro ad n H ws h1 h2 q hq
    rcases hq with ⟨i, hi, rfl⟩ | hq
    · exact h2 i hi
    · exact Nat.le_trans h1 hq
  have hDs : ∀ (ad : Nat → Nat) (S : zcS) (H : Heap) {A : Nat → Prop}, va_D A (zc_ws kc ad S) → va_D (zc_A ad S.1 H.size) (zc_ws kc ad S) := by
    intro ad S H A hD
    refine ⟨hD.1, fun k q hq => ?_⟩
    have hk : k < S.1 := by
      have := (List.getElem?_eq_some_iff.mp hq).1
      rw [zc_ws_len] at this
      exact this
    rw [zc_ws_get hk] at hq
    cases hq
    exact Or.inl ⟨k, hk, rfl⟩
  have hok1 : zc_ok zk_S1 := fun k j x h => by cases h
  have hf0 := hfree (fun _ => q0) 1 H [] hS.1 (fun i hi => hD.2 i _ (zc_ws_get (s := zk_S1) hi))
  have hM5 : zc_Met l D kc 5 (fun _ => q0) zk_S1 zk_f5.1 0 H.size zk_f5.2.1 zk_f5.2.2 := zc_metOf (n := 600) (zc_sound hkLK hUI 600) zk_r5e (by decide) hok1 (by decide)
  refine va_callv (va_runI (As := []) (rest := [.ref q0]) (nL := 9) ⟨hx, hb, hml, hown, hts⟩ hM5 (cwI 0 hts (zk_gd c9 c11) rfl rfl rfl (hts _ c3) (hts _ c5) (hts _ c7) rfl (zk_hd 5 (by decide)) ⟨by show zk_dep 5 + 1 ≤ 14; decide, by show 8 + (zk_maxL 5 + 11) + zk_loc 5 ≤ 544; decide⟩) ⟨zc_blind, fun U hU hW => ⟨rfl, by rw [hU], zc_E.warm hW hE0, by rw [hU]; exact hP, hDs _ _ _ hD⟩⟩ rfl rfl hl.1 rfl (lv_room (Nat.le_of_ble_eq_true rfl)) zd_law_4 ⟨by omega, by omega⟩) hS (fun q _ h => hf0 q h) hf0 (fun ad1 t H1 locs1 ht hvm hag hB hz1 hk1 hS => ?_)
  obtain ⟨hP, hD, -, hok5⟩ := hB
  rw [ht] at hP
  have hD := hD.weaken (B := fun q : Nat => s.heap.size ≤ q) (fun _ q _ h => hf0 _ h)
  have hq0 : ad1 0 = q0 := hag 0 (by decide)
  show W p l e room_1 s m #[Value.ref b] below meth c H1 locs1 (0 + 1 + zk_f5.2.1) (0 + z_N 5 + zk_f5.2.2) (lw_Z below #[Value.ref b] s) (F0 m 7 ls [.ref q0])
  refine lv_astore_n (lv' := [(1, .ref q0), (0, .ref b)]) hx hb zd_law_7 rfl hl (by decide) rfl (fun ls hl => ?_)
  -- new DiskImageDiffModel
  refine va_new (C := z_C 6) (T := z_T 6) (N := z_N 6) (ci := 6) (index := 98) (own := RL) (fs := (List.range (z_N 6)).map (fun j => if z_isR 6 j = true then Value.null else .int 0)) hx hb hwl (hUI 6 (by decide)) (z_tyf 6) (z_tyok 6 (by decide)) hown (hts _ c2) (hts _ (zst_cls 6 (by decide))) (hts _ c4) hK hP hD hS hA (z_vwCl 6 (by decide)) (hfs 6 (by decide)) (by omega) (by omega) zd_law_8 (fun q1 H2 hP hD hS => ?_)
  have hn5 := zk_n5
  have ew2 : zc_ws kc ad1 zk_f5.1 ++ [(q1, .inr (6, (List.range (z_N 6)).map (fun j => if z_isR 6 j = true then Value.null else .int 0)))] = zc_ws kc (fun k => if k = 107 then q1 else ad1 k) zk_S3 := by
    refine zc_ws_push (by rw [hn5]; rfl) (if_pos hn5) ?_ (fun k hk => if_neg (by omega)) (fun k hk => zc_cell_cong (if_neg (by omega)) (if_neg (by omega)) rfl (fun j x hx => if_neg (by have := hok5 k j x hx; omega)))
    rw [hn5, zc_cell_obj (show z_kind 107 = 6 from rfl) (by decide)]
    rfl
  rw [ew2] at hP hD
  refine lv_dup hx hb zd_law_11 rfl ?_
  have hok3 : zc_ok zk_S3 := by
    intro k j x h
    show x < 108
    replace h : (if k = 107 then fun _ => none else zk_f5.1.2.2.1 k) j = some x := h
    split at h
    · cases h
    · have := hok5 k j x h
      omega
  have hf1 := hfree (fun k => if k = 107 then q1 else ad1 k) 108 H2 [] hS.1 (fun i hi => hD.2 i _ (zc_ws_get (s := zk_S3) hi))
  have hM6 : zc_Met l D kc 6 (fun k => if k = 107 then q1 else ad1 k) zk_S3 zk_f6.1 107 H2.size zk_f6.2.1 zk_f6.2.2 := zc_metOf (n := 600) (zc_sound hkLK hUI 600) zk_r6e (by decide) hok3 (by decide)
  refine va_callv (va_runI (As := []) (b := q1) (rest := [.ref q1]) (nL := 9) ⟨hx, hb, hml, hown, hts⟩ hM6 (cwI 0 hts (zk_gd c10 c12) rfl rfl rfl (hts _ c4) (hts _ c6) (hts _ c8) rfl (zk_hd 6 (by decide)) ⟨by show zk_dep 6 + 1 ≤ 14; decide, by show 8 + (zk_maxL 6 + 11) + zk_loc 6 ≤ 544; decide⟩) ⟨zc_blind, fun U hU hW => ⟨rfl, by rw [hU], zc_E.warm hW hE0, by rw [hU]; exact hP, hDs _ _ _ hD⟩⟩ rfl rfl hl.1 rfl (lv_room (Nat.le_of_ble_eq_true rfl)) zd_law_12 ⟨by omega, by omega⟩) hS (fun q _ h => hf1 q h) hf1 (fun ad2 t H3 locs3 ht hvm hag2 hB hz1 hk1 hS => ?_)
  obtain ⟨hP, hD, -, hok6⟩ := hB
  rw [ht] at hP
  have hD := hD.weaken (B := fun q : Nat => s.heap.size ≤ q) (fun _ q _ h => hf1 _ h)
  have hn6 := zk_n6
  have hq1 : ad2 107 = q1 := (hag2 107 (by decide)).trans (if_pos rfl)
  have hq02 : ad2 0 = q0 := (hag2 0 (by decide)).trans ((if_neg (by decide)).trans hq0)
  show W p l e room_1 s m #[Value.ref b] below meth c H3 locs3 _ _ (lw_Z below #[Value.ref b] s) (F0 m 15 ls [.ref q1])
  refine lv_astore_n (lv' := [(2, .ref q1), (1, .ref q0), (0, .ref b)]) hx hb zd_law_15 rfl hl (by decide) rfl (fun ls hl => ?_)
  refine lv_iconst hx hb zd_law_16 (v := 1) rfl ?_
  refine va_newa (atype := .long) (ty := .long) (N' := 1) (a0 := (1, .inr (.inl (fun _ => 0)))) hx hb (hts _ zst_arr.2.1.1) rfl hK hP hD hS hA (fun cA => rfl) (by decide) rfl (by decide) (by omega) (by omega) zd_law_17 (fun q3 cA H4 hK1 hP hD hS => ?_)
  have hcA : cA = kc 12 := by
    have g1 := (hK1.2 5 (cA, .long) rfl).2
    have g2 := (hK.2 2 (kc 12, .long) rfl).2
    exact Option.some.inj (g1.symm.trans g2)
  subst hcA
  refine lv_astore_n (lv' := [(3, .ref q3), (2, .ref q1), (1, .ref q0), (0, .ref b)]) hx hb zd_law_19 rfl hl (by decide) rfl (fun ls hl => ?_)
  refine lv_iconst hx hb zd_law_20 (v := 1) rfl ?_
  refine va_newa (atype := .double) (ty := .double) (N' := 1) (a0 := (1, .inr (.inr (.inr (.inl (fun _ => 0)))))) hx hb (hts _ zst_arr.2.1.2) rfl hK hP hD hS hA (fun cA => rfl) (by decide) rfl (by decide) (by omega) (by omega) zd_law_21 (fun q4 cA H5 hK1 hP hD hS => ?_)
  have hcA : cA = kc 13 := by
    have g1 := (hK1.2 5 (cA, .double) rfl).2
    have g2 := (hK.2 3 (kc 13, .double) rfl).2
    exact Option.some.inj (g1.symm.trans g2)
  subst hcA
  refine lv_astore (lv' := [(4, .ref q4), (3, .ref q3), (2, .ref q1), (1, .ref q0), (0, .ref b)]) hx hb zd_law_23 hl (by decide) rfl (fun ls hl => ?_)
  refine lv_iconst hx hb zd_law_25 (v := 0) rfl ?_
  refine lv_istore (lv' := [(5, .int 0), (4, .ref q4), (3, .ref q3), (2, .ref q1), (1, .ref q0), (0, .ref b)]) hx hb zd_law_26 hl (by decide) rfl (fun ls hl => ?_)
  -- the loop
  let ad : Nat → Nat := fun k => if k < 123 then ad2 k else if k = 123 then q3 else if k = 124 then q4 else if k = 300 then b else if 200 ≤ k ∧ k < 205 then aS (k - 200) else 0
  have hadlt : ∀ k, k < 123 → ad k = ad2 k := fun k hk => if_pos hk
  have had3 : ad 123 = q3 := rfl
  have had4 : ad 124 = q4 := rfl
  have had300 : ad 300 = b := rfl
  have hlen1 : (zc_ws kc ad2 zk_f6.1).length = 123 := by rw [zc_ws_len, hn6]
  have hget : ∀ k, k < 123 → ((zc_ws kc ad2 zk_f6.1 ++ [(q3, (.inl (kc 12, 1, .inr (.inl (fun _ => 0))) : va_E))]) ++ [(q4, (.inl (kc 13, 1, .inr (.inr (.inr (.inl (fun _ => 0))))) : va_E))])[k]? = some (ad2 k, zc_cell kc ad2 zk_f6.1 k) := by
    intro k hk
    rw [List.append_assoc, List.getElem?_append_left (by rw [hlen1]; exact hk), zc_ws_get (by rw [hn6]; exact hk)]
  have hget3 : ((zc_ws kc ad2 zk_f6.1 ++ [(q3, (.inl (kc 12, 1, .inr (.inl (fun _ => 0))) : va_E))]) ++ [(q4, (.inl (kc 13, 1, .inr (.inr (.inr (.inl (fun _ => 0))))) : va_E))])[123]? = some (q3, .inl (kc 12, 1, .inr (.inl (fun _ => 0)))) := by
    rw [List.append_assoc, List.getElem?_append_right (by omega), hlen1]
    rfl
  have hget4 : ((zc_ws kc ad2 zk_f6.1 ++ [(q3, (.inl (kc 12, 1, .inr (.inl (fun _ => 0))) : va_E))]) ++ [(q4, (.inl (kc 13, 1, .inr (.inr (.inr (.inl (fun _ => 0))))) : va_E))])[124]? = some (q4, .inl (kc 13, 1, .inr (.inr (.inr (.inl (fun _ => 0)))))) := by
    rw [List.append_assoc, List.getElem?_append_right (by omega), hlen1]
    rfl
  have hgetA : ∀ k, k < 125 → ∃ e, ((zc_ws kc ad2 zk_f6.1 ++ [(q3, (.inl (kc 12, 1, .inr (.inl (fun _ => 0))) : va_E))]) ++ [(q4, (.inl (kc 13, 1, .inr (.inr (.inr (.inl (fun _ => 0))))) : va_E))])[k]? = some (ad k, e) := by
    intro k hk
    by_cases h1 : k < 123
    · exact ⟨_, by rw [hget k h1, hadlt k h1]⟩
    · by_cases h2 : k = 123
      · subst h2
        exact ⟨_, hget3⟩
      · obtain rfl : k = 124 := by omega
        exact ⟨_, hget4⟩
  have hinj : ∀ i j, i < 125 → j < 125 → ad i = ad j → i = j := by
    intro i j hi hj hij
    obtain ⟨e1, h1⟩ := hgetA i hi
    obtain ⟨e2, h2⟩ := hgetA j hj
    exact hD.1 i j _ _ h1 h2 hij
  have hge : ∀ k, k < 125 → s.heap.size ≤ ad k := by
    intro k hk
    obtain ⟨e1, h1⟩ := hgetA k hk
    exact hD.2 k _ h1
  have hcell : ∀ k, k < 123 → k ≠ 75 → z_cell kc ad z_σ0 k = zc_cell kc ad2 zk_f6.1 k := by
    intro k hk h75
    rw [z_cell_fin hk h75]
    exact zc_cell_cong rfl rfl rfl (fun j x hx => hadlt x (by have := hok6 k j x hx; omega))
  have hPz : va_P D vwCl (z_ws kc ad z_σ0) H5 := by
    intro k q hq
    have hk : k < 125 := by
      have := (List.getElem?_eq_some_iff.mp hq).1
      simpa [z_ws] using this
    rw [z_ws_get hk] at hq
    cases hq
    by_cases h1 : k < 123
    · have h0 := hP k _ (hget k h1)
      by_cases h75 : k = 75
      · subst h75
        rw [hadlt 75 h1, z_cell_14 rfl]
        rw [zc_cell_14 rfl] at h0
        replace h0 : H5[ad2 75]? = some (vp_cell (kc 14) (z_len 75, .inr (.inr (.inr (.inr (fun j => (zk_f6.1.2.2.1 75 j).map ad2)))))) := h0
        show H5[ad2 75]? = some (vp_cell (kc 14) (z_len 75, .inr (.inr (.inr (.inr (fun j => some (ad (75 + (1 + j)))))))))
        rw [h0]
        refine congrArg some (arrV_cong (kc 14) (z_len 75) (f := fun j => va_rf ((zk_f6.1.2.2.1 75 j).map ad2)) (g := fun j => va_rf (some (ad (75 + (1 + j))))) (fun j hj => ?_))
        have hj25 : j < 25 := hj
        have hR := List.all_eq_true.mp zk_fin75 j (List.mem_range.mpr hj25)
        rw [decide_eq_true_eq] at hR
        rw [hR, Option.map_some, hadlt _ (by omega), show 75 + (1 + j) = 76 + j by omega]
      · rw [hadlt k h1, hcell k h1 h75]
        exact h0
    · by_cases h2 : k = 123
      · subst h2
        have h0 := hP 123 _ hget3
        rw [z_cell_12 rfl]
        have hf : (fun j : Nat => if j = 0 then z_σ0.2.2.2.1 else 0) = fun _ => (0 : Int64) := by
          funext j
          show (if j = 0 then (0 : Int64) else 0) = 0
          split <;> rfl
        rw [hf]
        exact h0
      · obtain rfl : k = 124 := by omega
        have h0 := hP 124 _ hget4
        rw [z_cell_13 rfl]
        have hf : (fun j : Nat => if j = 0 then z_σ0.2.2.2.2 else 0) = fun _ => (0 : UInt64) := by
          funext j
          show (if j = 0 then (0 : UInt64) else 0) = 0
          split <;> rfl
        rw [hf]
        exact h0
  have hE : z_E D kc ad aV L xs s.heap.size s s.heap := hEnv ad hge had300 (fun i hi => by
    show (if 200 + i < 123 then ad2 (200 + i) else if 200 + i = 123 then q3 else if 200 + i = 124 then q4 else if 200 + i = 300 then b else if 200 ≤ 200 + i ∧ 200 + i < 205 then aS (200 + i - 200) else 0) = aS i
    rw [if_neg (by omega), if_neg (by omega), if_neg (by omega), if_neg (by omega), if_pos (by omega), Nat.add_sub_cancel_left])
  obtain ⟨N, o, τ, t, hrun, rfl, ht512⟩ := hPure
  have hSz : va_S (z_A ad s.heap.size) s.heap H5 locs3 := ⟨hS.1, fun q h1 h2 => hS.2.1 q h1 (fun h => h2 (Or.inr h)), fun x hx => Or.inr (hS.2.2 x hx)⟩
  have hlc : z_lc ad z_lv0 ls := by
    refine ⟨hl.1, hl.2.1, fun i v hv => ?_⟩
    have hi : i < 9 := z_ld_lt hv
    match i, hi, hv with
    | 0, _, hv => cases hv; exact hl.2.2 (0, .ref b) (by simp)
    | 1, _, hv =>
      cases hv
      have h9 : ls[1]? = some (.val (.ref q0)) := hl.2.2 (1, .ref q0) (by simp)
      rw [h9]
      show _ = some (Slot.val (.ref (ad 0)))
      rw [hadlt 0 (by decide), hq02]
    | 2, _, hv =>
      cases hv
      have h9 : ls[2]? = some (.val (.ref q1)) := hl.2.2 (2, .ref q1) (by simp)
      rw [h9]
      show _ = some (Slot.val (.ref (ad 107)))
      rw [hadlt 107 (by decide), hq1]
    | 3, _, hv => cases hv; exact hl.2.2 (3, .ref q3) (by simp)
    | 4, _, hv => cases hv; exact hl.2.2 (4, .ref q4) (by simp)
    | 5, _, hv => cases hv; exact hl.2.2 (5, .int 0) (by simp)
    | 6, _, hv => cases hv
    | 7, _, hv => cases hv
    | 8, _, hv => cases hv
  have hsT : l.stackTraces = false := by
    unfold Launch.stackTraces
    rw [hflags]
    decide +kernel
  have C : z_Cx D kc ad aV L xs 248 p room_1 s m #[Value.ref b] meth c := ⟨hx, hb, hml, hown, hwl, hlk, hE, by decide +kernel, by decide +kernel, by rw [htab]; rfl⟩
  generalize hcl : 0 + 1 + zk_f5.2.1 + 1 + zk_f6.2.1 + 1 + 1 = cl
  generalize hsl : 0 + z_N 5 + zk_f5.2.2 + z_N 6 + zk_f6.2.2 + 1 + 1 = sl
  have hEnd : z_End p l e room_1 s m #[Value.ref b] below meth c (lw_Z below #[Value.ref b] s) D kc ad 248 (.inl (some (.int 1))) τ (cl + t) (sl + 6 * t) := by
    refine ⟨fun rv pc' ls' H' locs' ho hP' hS' hrt => ?_, fun e9 h => by cases h⟩
    cases ho
    refine va_forget (fun q hq => ?_) ?_
    · rcases hS'.2.2 q hq with ⟨k, hk, h⟩ | h
      · rw [h]
        exact hge k hk
      · exact h
    · refine W.widen (k := 601024) (n := 7293034) (by omega) (by omega) ?_
      exact lw_ret (d0 := s.drawn) (Drawn.sameBut.refl s.drawn lw_cs) hx hb hr hlk hrt.2
  exact z_soundy hLK hUI hXS hsT hinj z_js N 248 p e room_1 s m #[Value.ref b] below meth c _ 9 _ τ (cl + t) (sl + 6 * t) C rfl (by omega) (by omega) hEnd 28 z_lv0 [] z_σ0 t H5 locs3 ls cl sl (hrun N (Nat.le_refl _)) hPz hSz hlc rfl rfl rfl
