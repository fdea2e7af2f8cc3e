/-! the law's loop; the first state -/
theorem zlaw_exit {L i : Nat} (hL : L ≤ 3072) (hi : i ≤ 4000) (h : ¬ ((Int32.ofNat L) - 6 : Int32) < nI i) : i + 6 ≤ L := by
  refine Nat.le_of_not_lt (fun z => h ?_)
  by_cases q : 6 ≤ L
  · have e : ((Int32.ofNat L) - 6 : Int32) = nI (L - 6) := ze_sub (a := L) (b := 6) q
    rw [e]
    exact nI_lt (by omega) (by omega)
  · have e : ∀ L, L < 6 → (((Int32.ofNat L) - 6 : Int32)).toInt < 0 := by decide +kernel
    have := e L (by omega)
    rw [Int32.lt_iff_toInt_lt, nI_toInt (by omega)]
    omega
theorem zlaw_loop {L : Nat} {xs : Nat → Int32} (hL : L ≤ 3072) : ∀ k, k ≤ 512 → ∀ (o w sp : Nat) (s : zAb) (I : Nat → Nat → Int32) (R : Nat → Nat → Option Nat) (A : Nat → Nat → Int32) (lo : Int64) (dd : UInt64) (y6 y7 y8 : Option Value), zOK s → zS5 o w sp s I R A → zM6 s I A → zW L xs mL_law 28 [some (.ref 300), some (.ref 0), some (.ref 107), some (.ref 123), some (.ref 124), some (.int (nI (6 * k))), y6, y7, y8] [] (I, R, A, lo, dd) (fun o _ t => o = .inl (some (.int 1)) ∧ t + k ≤ 512) := by
  refine ze_up ?_ ?_
  · intro o w sp s I R A lo dd y6 y7 y8 hok hs hm
    refine vc_L_law_28 ⟨fun _ => ⟨rfl, by decide⟩, fun q => absurd (zlaw_exit hL (by decide) q) (by omega)⟩
  · intro k hk ih o w sp s I R A lo dd y6 y7 y8 hok hs hm
    refine vc_L_law_28 ⟨fun _ => ⟨rfl, by omega⟩, fun q => ?_⟩
    have h6 := zlaw_exit hL (by omega) q
    have hin : ∀ j, j < 6 → z_in (nI (6 * k) + OfNat.ofNat j) L := fun j hj => by
      rw [ze_lit, nI_add]
      exact nI_in (by omega) (by omega)
    have hn : zNX L xs (nI (6 * k)) (fun o _ t => o = .inl (some (.int 1)) ∧ t + k ≤ 512) := by
      intro u hu o w sp s I R A lo dd y6 y7 y8 hok hs hm
      have := ih o w sp s I R A lo dd y6 y7 y8 hok hs hm
      rw [show 6 * (k + 1) = 6 * k + 6 by omega] at this
      rw [show (6 : Int32) = nI 6 from rfl, nI_add]
      exact zw_mono (fun o τ t h => ⟨h.1, by have := h.2; omega⟩) this
    exact ⟨nI_in (by omega) (by omega), ⟨fun _ => ⟨hin 1 (by decide), hin 2 (by decide), hin 3 (by decide), hin 4 (by decide), hin 5 (by decide), zw_append (hin 1 (by decide)) (hin 2 (by decide)) (hin 3 (by decide)) (hin 4 (by decide)) (hin 5 (by decide)) hok hs hm hn⟩, fun _ => ⟨fun _ => ⟨hin 1 (by decide), zw_truncate (hin 1 (by decide)) hok hs hm hn⟩, fun _ => ⟨fun _ => ⟨hin 1 (by decide), zw_load (hin 1 (by decide)) hok hs hm hn⟩, fun _ => ⟨fun _ => zw_errorCode hok hs hm hn, fun _ => ⟨fun _ => zw_errorPosition hok hs hm hn, fun _ => ⟨fun _ => ⟨hin 1 (by decide), hin 2 (by decide), zw_image (hin 1 (by decide)) (hin 2 (by decide)) hok hs hm hn⟩, fun _ => ⟨fun _ => ⟨hin 1 (by decide), hin 2 (by decide), hin 3 (by decide), zw_partition (hin 1 (by decide)) (hin 2 (by decide)) (hin 3 (by decide)) hok hs hm hn⟩, fun _ => ⟨fun _ => ⟨hin 1 (by decide), hin 2 (by decide), hin 3 (by decide), zw_node (hin 1 (by decide)) (hin 2 (by decide)) (hin 3 (by decide)) hok hs hm hn⟩, fun _ => ⟨fun _ => ⟨hin 1 (by decide), hin 2 (by decide), hin 3 (by decide), zw_byInode (hin 1 (by decide)) (hin 2 (by decide)) (hin 3 (by decide)) hok hs hm hn⟩, fun _ => ⟨fun _ => ⟨hin 1 (by decide), hin 2 (by decide), zw_formatPath (hin 1 (by decide)) (hin 2 (by decide)) hok hs hm hn⟩, fun _ => ⟨fun _ => ⟨hin 1 (by decide), zw_formatted (hin 1 (by decide)) hok hs hm hn⟩, fun _ => ⟨fun _ => ⟨hin 1 (by decide), hin 2 (by decide), hin 3 (by decide), zw_rename (hin 1 (by decide)) (hin 2 (by decide)) (hin 3 (by decide)) hok hs hm hn⟩, fun _ => ⟨fun _ => ⟨hin 1 (by decide), hin 2 (by decide), hin 3 (by decide), zw_write (hin 1 (by decide)) (hin 2 (by decide)) (hin 3 (by decide)) hok hs hm hn⟩, fun _ => ⟨fun _ => ⟨hin 1 (by decide), hin 2 (by decide), hin 3 (by decide), zw_setAttributes (hin 1 (by decide)) (hin 2 (by decide)) (hin 3 (by decide)) hok hs hm hn⟩, fun _ => ⟨fun _ => ⟨hin 1 (by decide), hin 2 (by decide), zw_remove (hin 1 (by decide)) (hin 2 (by decide)) hok hs hm hn⟩, fun _ => ⟨fun _ => ⟨hin 1 (by decide), hin 2 (by decide), hin 3 (by decide), zw_move (hin 1 (by decide)) (hin 2 (by decide)) (hin 3 (by decide)) hok hs hm hn⟩, fun _ => ⟨fun _ => zw_swap hok hs hm hn, fun _ => ⟨fun _ => ⟨hin 1 (by decide), zw_matchedPartition (hin 1 (by decide)) hok hs hm hn⟩, fun _ => ⟨fun _ => ⟨hin 1 (by decide), zw_matchedNode (hin 1 (by decide)) hok hs hm hn⟩, fun _ => ⟨fun _ => ⟨hin 1 (by decide), zw_passOf (hin 1 (by decide)) hok hs hm hn⟩, fun _ => ⟨fun _ => ⟨hin 1 (by decide), zw_matches (hin 1 (by decide)) hok hs hm hn⟩, fun _ => ⟨fun _ => zw_similarity hok hs hm hn, fun _ => ⟨fun _ => ⟨hin 1 (by decide), hin 2 (by decide), zw_setCost (hin 1 (by decide)) (hin 2 (by decide)) hok hs hm hn⟩, fun _ => ⟨fun _ => zw_operations hok hs hm hn, fun _ => ⟨fun _ => ⟨hin 1 (by decide), hin 2 (by decide), zw_operation (hin 1 (by decide)) (hin 2 (by decide)) hok hs hm hn⟩, fun _ => ⟨fun _ => ⟨hin 1 (by decide), zw_operationsOf (hin 1 (by decide)) hok hs hm hn⟩, fun _ => ⟨fun _ => zw_cost hok hs hm hn, fun _ => ⟨fun _ => zw_costBack hok hs hm hn, fun _ => ⟨fun _ => ⟨hin 1 (by decide), zw_present (hin 1 (by decide)) hok hs hm hn⟩, fun _ => ⟨fun _ => ⟨hin 1 (by decide), zw_agreement (hin 1 (by decide)) hok hs hm hn⟩, fun _ => ⟨fun _ => ⟨hin 1 (by decide), zw_readyAfter (hin 1 (by decide)) hok hs hm hn⟩, fun _ => ⟨fun _ => zw_leastFileCost hok hs hm hn, fun _ => ⟨fun _ => zw_fileCost hok hs hm hn, fun _ => zw_z (hn 0 (by decide) o w sp s I R A lo dd y6 y7 y8 hok hs hm)⟩⟩⟩⟩⟩⟩⟩⟩⟩⟩⟩⟩⟩⟩⟩⟩⟩⟩⟩⟩⟩⟩⟩⟩⟩⟩⟩⟩⟩⟩⟩⟩⟩⟩
