/-! the law's helpers: wrappers, what follows a call -/
def zK5 (r : zOc) (I : Nat → Nat → Int32) (R : Nat → Nat → Option Nat) (A : Nat → Nat → Int32) (lo : Int64) (dd : UInt64) (Φ : zPo) : Prop := ∀ (o w sp : Nat) (I' : Nat → Nat → Int32) (R' : Nat → Nat → Option Nat) (A' : Nat → Nat → Int32), zS5 o w sp r.2.2 I' R' A' → zG5 I R A I' R' A' → (¬ r.1 = 0 → ¬ nI r.1 = 0) → Φ (.inl (some (.int (nI r.1)))) (I', R', A', if r.1 = 0 then Int32.toInt64 r.2.1 else lo, dd) (if r.1 = 0 then 0 else 1)
theorem z_hnd_ne {e : Nat} {c : Int32} : ∀ tab : List (Int32 × Nat), (∀ q, q ∈ tab → ¬ Int32.ofNat q.2 = 0) → z_hnd e tab = some c → ¬ c = 0 := by
  intro tab
  induction tab with
  | nil => intro _ h; cases h
  | cons q r ih =>
    intro hq h
    unfold z_hnd at h
    by_cases w : q.1 = Int32.ofNat e
    · rw [if_pos w] at h
      cases h
      exact hq q List.mem_cons_self
    · rw [if_neg w] at h
      exact ih (fun q2 h2 => hq q2 (List.mem_cons_of_mem _ h2)) h
theorem zK0_k {tab : List (Int32 × Nat)} {r : zOc} {I : Nat → Nat → Int32} {R : Nat → Nat → Option Nat} {A : Nat → Nat → Int32} {lo : Int64} {dd : UInt64} {Φ : zPo} {K : Option Value → zSt → zPo → Prop} (htab : tab ≠ [] ∧ ∀ q, q ∈ tab → ¬ Int32.ofNat q.2 = 0) (hK : ∀ (v : Int32) (I' : Nat → Nat → Int32) (R' : Nat → Nat → Option Nat) (A' : Nat → Nat → Int32), Φ (.inl (some (.int 0))) (I', R', A', Int32.toInt64 v, dd) 0 → z_kont tab K Φ (.inl (some (.int v))) (I', R', A', lo, dd) 0) (hk : zK5 r I R A lo dd Φ) : zK0 tab r I R A lo dd (z_kont tab K Φ) := by
  intro o w sp I' R' A' hs hg
  refine ⟨fun q => hK _ I' R' A' ?_, fun q e he => ?_⟩
  · have := hk o w sp I' R' A' hs hg (fun z => absurd q z)
    rw [if_pos q, if_pos q, q] at this
    exact this
  · have := hk o w sp I' R' A' hs hg (fun _ => z_hnd_ne tab htab.2 he)
    rw [if_neg q, if_neg q] at this
    match tab, htab, he with
    | [], h, _ => exact absurd rfl h.1
    | a :: b, _, he => exact ⟨nI r.1, he, this⟩
def zNX (L : Nat) (xs : Nat → Int32) (x5 : Int32) (Φ : zPo) : Prop := ∀ (u : Nat), u ≤ 1 → ∀ (o w sp : Nat) (s : zAb) (I : Nat → Nat → Int32) (R : Nat → Nat → Option Nat) (A : Nat → Nat → Int32) (lo : Int64) (dd : UInt64) (y6 y7 y8 : Option Value), zOK s → zS5 o w sp s I R A → zM6 s I A → zW L xs mL_law 28 [some (.ref 300), some (.ref 0), some (.ref 107), some (.ref 123), some (.ref 124), some (.int (x5 + 6)), y6, y7, y8] [] (I, R, A, lo, dd) (fun o τ t => Φ o τ (u + t))
theorem zw_z {L : Nat} {xs : Nat → Int32} {m pc : Nat} {lv : zL} {st : List Value} {σ : zSt} {Φ : zPo} (k : zW L xs m pc lv st σ (fun o τ t => Φ o τ (0 + t))) : zW L xs m pc lv st σ Φ := zw_mono (fun o τ t h => by rw [Nat.zero_add] at h; exact h) k
theorem zM6_g5 {s : zAb} {I I' : Nat → Nat → Int32} {R R' : Nat → Nat → Option Nat} {A A' : Nat → Nat → Int32} (h : zM6 s I A) (g : zG5 I R A I' R' A') : zM6 s I' A' := zM6_fr h (fun j _ => by rw [(g 107 (by decide)).1]) (fun c c1 _ => (g c (by omega)).2.2)
theorem zS5_g6 {o w sp : Nat} {s : zAb} {I I' : Nat → Nat → Int32} {R : Nat → Nat → Option Nat} {A A' : Nat → Nat → Int32} (h : zS5 o w sp s I R A) (g : zG6 I A I' A') : zS5 o w sp s I' R A' := zS5_fr h (fun c hc => (g c (by omega)).1) (fun _ _ => rfl) (fun c hc => (g c (by omega)).2)
theorem lg_rf (x : Int64) : lg_cmp x x = 0 := by
  unfold lg_cmp
  rw [if_neg (fun z => Int64.lt_irrefl z), if_pos rfl]
theorem zt_tail {Q Z : Prop} {rv x6 x7 : Int32} {lo : Int64} (hrv : rv = x6) (h6 : x6 = 0 → lg_cmp lo (Int32.toInt64 x7) = 0) (hQ : Q) : ((rv : Int32) = x6 → ((x6 : Int32) = 0 → (((lg_cmp lo (Int32.toInt64 x7)) : Int32) = 0 → Q) ∧ (¬ ((lg_cmp lo (Int32.toInt64 x7)) : Int32) = 0 → Z)) ∧ (¬ (x6 : Int32) = 0 → Q)) ∧ (¬ (rv : Int32) = x6 → Z) := ⟨fun _ => ⟨fun q => ⟨fun _ => hQ, fun z => absurd (h6 q) z⟩, fun _ => hQ⟩, fun z => absurd hrv z⟩
theorem zFp_ok {s : zAb} {x y : Int32} {e : Nat → Nat → zOc} (h : zOK s) (he : ∀ k n, k ≤ 1 → n < vP (sV s k) → zOK (e k n).2.2) : zOK (zFp s x y e).2.2 := by
  have hx : (∃ k, k ≤ 1 ∧ x = nI k) ∨ ∀ k, k ≤ 1 → x ≠ nI k := by
    by_cases q : ∃ k, k ≤ 1 ∧ x = nI k
    · exact Or.inl q
    · exact Or.inr (fun k hk z => q ⟨k, hk, z⟩)
  rcases hx with ⟨k, hk, rfl⟩ | hx
  · by_cases q : ∃ n, n < vP (sV s k) ∧ y = nI n
    · obtain ⟨n, hn, rfl⟩ := q
      rw [zFp_s h hk hn]
      exact he k n hk hn
    · rw [zFp_n hk (fun n hn z => q ⟨n, hn, z⟩)]
      exact h
  · rw [show zFp s x y e = (1, 0, s) from zFi_n hx]
    exact h
theorem zFi_ok {s : zAb} {x : Int32} {e : Nat → zOc} (h : zOK s) (he : ∀ k, zOK (e k).2.2) : zOK (zFi s x e).2.2 := by
  unfold zFi
  cases zix x 2 with
  | none => exact h
  | some k => exact he k
theorem zOK_image {s : zAb} {x y : Int32} (h : zOK s) : zOK (zF_image s x y).2.2 := zFi_ok h (fun k => by cases zix y 7 <;> exact h)
theorem zOK_partition {s : zAb} {x y z : Int32} (h : zOK s) : zOK (zF_partition s x y z).2.2 := zFp_ok h (fun k n _ _ => by cases zix z 4 <;> exact h)
theorem zOK_node {s : zAb} {x y z : Int32} (h : zOK s) : zOK (zF_node s x y z).2.2 := zFn_ok h (fun k n _ _ => by cases zix z 8 <;> exact h)
theorem zOK_byInode {s : zAb} {x y z : Int32} (h : zOK s) : zOK (zF_byInode s x y z).2.2 := zFp_ok h (fun k n _ _ => by split <;> exact h)
theorem zOK_formatted {s : zAb} {x : Int32} (h : zOK s) : zOK (zF_formatted s x).2.2 := by unfold zF_formatted; split <;> exact h
theorem zOK_matchedPartition {s : zAb} {x : Int32} (h : zOK s) : zOK (zF_matchedPartition s x).2.2 := by unfold zF_matchedPartition; split <;> exact h
theorem zOK_matchedNode {s : zAb} {x : Int32} (h : zOK s) : zOK (zF_matchedNode s x).2.2 := by unfold zF_matchedNode; split <;> exact h
theorem zOK_passOf {s : zAb} {x : Int32} (h : zOK s) : zOK (zF_passOf s x).2.2 := by unfold zF_passOf; split <;> exact h
theorem zOK_matches {s : zAb} {x : Int32} (h : zOK s) : zOK (zF_matches s x).2.2 := by
  unfold zF_matches
  split
  · exact h
  · split <;> exact h
theorem zOK_operation {s : zAb} {x y : Int32} (h : zOK s) : zOK (zF_operation s x y).2.2 := by
  unfold zF_operation
  split
  · exact h
  · split <;> exact h
theorem zOK_operationsOf {s : zAb} {x : Int32} (h : zOK s) : zOK (zF_operationsOf s x).2.2 := by unfold zF_operationsOf; split <;> exact h
theorem zOK_present {s : zAb} {x : Int32} (h : zOK s) : zOK (zF_present s x).2.2 := by unfold zF_present; split <;> exact h
theorem zOK_agreement {s : zAb} {x : Int32} (h : zOK s) : zOK (zF_agreement s x).2.2 := by unfold zF_agreement; split <;> exact h
theorem zOK_readyAfter {s : zAb} {x : Int32} (h : zOK s) : zOK (zF_readyAfter s x).2.2 := by unfold zF_readyAfter; split <;> exact h
section
variable {L : Nat} {xs : Nat → Int32} {I : Nat → Nat → Int32} {R : Nat → Nat → Option Nat} {A : Nat → Nat → Int32} {lo : Int64} {dd : UInt64} {Φ : zPo} {s : zAb} {o w sp : Nat} {x5 : Int32} {y6 y7 y8 : Option Value}
theorem zl_append {x y z u v : Int32} (hok : zOK s) (hs : zS5 o w sp s I R A) (hk : zK5 (zF_append s x y z u v) I R A lo dd Φ) : zC L xs mL_append [.ref 0, .int x, .int y, .int z, .int u, .int v, .ref 123] (I, R, A, lo, dd) Φ :=
  zC_en (vc_L_append_0 (z5_append hs (zK0_k (tab := [(2, 1)]) (by decide) (fun v I1 R1 A1 h => zk_r (vc_L_append_14 h)) hk)))
theorem zl_truncate {x : Int32} (hok : zOK s) (hs : zS5 o w sp s I R A) (hk : zK5 (zF_truncate s x) I R A lo dd Φ) : zC L xs mL_truncate [.ref 0, .int x, .ref 123] (I, R, A, lo, dd) Φ :=
  zC_en (vc_L_truncate_0 (z5_truncate hs (zK0_k (tab := [(0, 1)]) (by decide) (fun v I1 R1 A1 h => zk_r (vc_L_truncate_7 h)) hk)))
theorem zl_load {x : Int32} (hok : zOK s) (hs : zS5 o w sp s I R A) (hk : zK5 (zF_load s x) I R A lo dd Φ) : zC L xs mL_load [.ref 0, .int x, .ref 123] (I, R, A, lo, dd) Φ :=
  zC_en (vc_L_load_0 (z5_load hs (zK0_k (tab := [(0, 1), (1, 2)]) (by decide) (fun v I1 R1 A1 h => zk_r (vc_L_load_7 h)) hk)))
theorem zl_image {x y : Int32} (hok : zOK s) (hs : zS5 o w sp s I R A) (hk : zK5 (zF_image s x y) I R A lo dd Φ) : zC L xs mL_image [.ref 0, .int x, .int y, .ref 123] (I, R, A, lo, dd) Φ :=
  zC_en (vc_L_image_0 (z5_image hok hs (zK0_k (tab := [(0, 1), (1, 2)]) (by decide) (fun v I1 R1 A1 h => zk_r (vc_L_image_8 h)) hk)))
theorem zl_partition {x y z : Int32} (hok : zOK s) (hs : zS5 o w sp s I R A) (hk : zK5 (zF_partition s x y z) I R A lo dd Φ) : zC L xs mL_partition [.ref 0, .int x, .int y, .int z, .ref 123] (I, R, A, lo, dd) Φ :=
  zC_en (vc_L_partition_0 (z5_partition hok hs (zK0_k (tab := [(0, 1), (1, 2)]) (by decide) (fun v I1 R1 A1 h => zk_r (vc_L_partition_10 h)) hk)))
theorem zl_node {x y z : Int32} (hok : zOK s) (hs : zS5 o w sp s I R A) (hk : zK5 (zF_node s x y z) I R A lo dd Φ) : zC L xs mL_node [.ref 0, .int x, .int y, .int z, .ref 123] (I, R, A, lo, dd) Φ :=
  zC_en (vc_L_node_0 (z5_node hok hs (zK0_k (tab := [(0, 1), (1, 2)]) (by decide) (fun v I1 R1 A1 h => zk_r (vc_L_node_10 h)) hk)))
theorem zl_byInode {x y z : Int32} (hok : zOK s) (hs : zS5 o w sp s I R A) (hk : zK5 (zF_byInode s x y z) I R A lo dd Φ) : zC L xs mL_byInode [.ref 0, .int x, .int y, .int z, .ref 123] (I, R, A, lo, dd) Φ :=
  zC_en (vc_L_byInode_0 (z5_byInode hok hs (zK0_k (tab := [(0, 1), (3, 2)]) (by decide) (fun v I1 R1 A1 h => zk_r (vc_L_byInode_10 h)) hk)))
theorem zl_formatPath {x y : Int32} (hok : zOK s) (hs : zS5 o w sp s I R A) (hk : zK5 (zF_formatPath s x y) I R A lo dd Φ) : zC L xs mL_formatPath [.ref 0, .int x, .int y, .ref 123] (I, R, A, lo, dd) Φ :=
  zC_en (vc_L_formatPath_0 (z5_formatPath hok hs (zK0_k (tab := [(0, 1)]) (by decide) (fun v I1 R1 A1 h => zk_r (vc_L_formatPath_8 h)) hk)))
theorem zl_formatted {x : Int32} (hok : zOK s) (hs : zS5 o w sp s I R A) (hk : zK5 (zF_formatted s x) I R A lo dd Φ) : zC L xs mL_formatted [.ref 0, .int x, .ref 123] (I, R, A, lo, dd) Φ :=
  zC_en (vc_L_formatted_0 (z5_formatted hok hs (zK0_k (tab := [(0, 1)]) (by decide) (fun v I1 R1 A1 h => zk_r (vc_L_formatted_7 h)) hk)))
theorem zl_rename {x y z : Int32} (hok : zOK s) (hs : zS5 o w sp s I R A) (hk : zK5 (zF_rename s x y z) I R A lo dd Φ) : zC L xs mL_rename [.ref 0, .int x, .int y, .int z, .ref 123] (I, R, A, lo, dd) Φ :=
  zC_en (vc_L_rename_0 (z5_rename hok hs (zK0_k (tab := [(0, 1), (1, 2), (2, 3)]) (by decide) (fun v I1 R1 A1 h => zk_r (vc_L_rename_10 h)) hk)))
theorem zl_write {x y z : Int32} (hok : zOK s) (hs : zS5 o w sp s I R A) (hk : zK5 (zF_write s x y z) I R A lo dd Φ) : zC L xs mL_write [.ref 0, .int x, .int y, .int z, .ref 123] (I, R, A, lo, dd) Φ :=
  zC_en (vc_L_write_0 (z5_write hok hs (zK0_k (tab := [(0, 1), (1, 2), (2, 3)]) (by decide) (fun v I1 R1 A1 h => zk_r (vc_L_write_10 h)) hk)))
theorem zl_setAttributes {x y z : Int32} (hok : zOK s) (hs : zS5 o w sp s I R A) (hk : zK5 (zF_setAttributes s x y z) I R A lo dd Φ) : zC L xs mL_setAttributes [.ref 0, .int x, .int y, .int z, .ref 123] (I, R, A, lo, dd) Φ :=
  zC_en (vc_L_setAttributes_0 (z5_setAttributes hok hs (zK0_k (tab := [(0, 1), (1, 2)]) (by decide) (fun v I1 R1 A1 h => zk_r (vc_L_setAttributes_10 h)) hk)))
theorem zl_remove {x y : Int32} (hok : zOK s) (hs : zS5 o w sp s I R A) (hk : zK5 (zF_remove s x y) I R A lo dd Φ) : zC L xs mL_remove [.ref 0, .int x, .int y, .ref 123] (I, R, A, lo, dd) Φ :=
  zC_en (vc_L_remove_0 (z5_remove hok hs (zK0_k (tab := [(0, 1)]) (by decide) (fun v I1 R1 A1 h => zk_r (vc_L_remove_8 h)) hk)))
theorem zl_move {x y z : Int32} (hok : zOK s) (hs : zS5 o w sp s I R A) (hk : zK5 (zF_move s x y z) I R A lo dd Φ) : zC L xs mL_move [.ref 0, .int x, .int y, .int z, .ref 123] (I, R, A, lo, dd) Φ :=
  zC_en (vc_L_move_0 (z5_move hok hs (zK0_k (tab := [(0, 1), (1, 2), (2, 3)]) (by decide) (fun v I1 R1 A1 h => zk_r (vc_L_move_10 h)) hk)))
theorem zl_matchedPartition {x : Int32} (hok : zOK s) (hs : zS5 o w sp s I R A) (hk : zK5 (zF_matchedPartition s x) I R A lo dd Φ) : zC L xs mL_matchedPartition [.ref 0, .int x, .ref 123] (I, R, A, lo, dd) Φ :=
  zC_en (vc_L_matchedPartition_0 (z5_matchedPartition hok hs (zK0_k (tab := [(0, 1)]) (by decide) (fun v I1 R1 A1 h => zk_r (vc_L_matchedPartition_7 h)) hk)))
theorem zl_matchedNode {x : Int32} (hok : zOK s) (hs : zS5 o w sp s I R A) (hk : zK5 (zF_matchedNode s x) I R A lo dd Φ) : zC L xs mL_matchedNode [.ref 0, .int x, .ref 123] (I, R, A, lo, dd) Φ :=
  zC_en (vc_L_matchedNode_0 (z5_matchedNode hok hs (zK0_k (tab := [(0, 1)]) (by decide) (fun v I1 R1 A1 h => zk_r (vc_L_matchedNode_7 h)) hk)))
theorem zl_passOf {x : Int32} (hok : zOK s) (hs : zS5 o w sp s I R A) (hk : zK5 (zF_passOf s x) I R A lo dd Φ) : zC L xs mL_passOf [.ref 0, .int x, .ref 123] (I, R, A, lo, dd) Φ :=
  zC_en (vc_L_passOf_0 (z5_passOf hok hs (zK0_k (tab := [(0, 1)]) (by decide) (fun v I1 R1 A1 h => zk_r (vc_L_passOf_7 h)) hk)))
theorem zl_matches {x : Int32} (hok : zOK s) (hs : zS5 o w sp s I R A) (hk : zK5 (zF_matches s x) I R A lo dd Φ) : zC L xs mL_matches [.ref 0, .int x, .ref 123] (I, R, A, lo, dd) Φ :=
  zC_en (vc_L_matches_0 (z5_matches hok hs (zK0_k (tab := [(1, 1)]) (by decide) (fun v I1 R1 A1 h => zk_r (vc_L_matches_7 h)) hk)))
theorem zl_setCost {x y : Int32} (hok : zOK s) (hs : zS5 o w sp s I R A) (hk : zK5 (zF_setCost s x y) I R A lo dd Φ) : zC L xs mL_setCost [.ref 0, .int x, .int y, .ref 123] (I, R, A, lo, dd) Φ :=
  zC_en (vc_L_setCost_0 (z5_setCost hs (zK0_k (tab := [(1, 1)]) (by decide) (fun v I1 R1 A1 h => zk_r (vc_L_setCost_8 h)) hk)))
theorem zl_operation {x y : Int32} (hok : zOK s) (hs : zS5 o w sp s I R A) (hk : zK5 (zF_operation s x y) I R A lo dd Φ) : zC L xs mL_operation [.ref 0, .int x, .int y, .ref 123] (I, R, A, lo, dd) Φ :=
  zC_en (vc_L_operation_0 (z5_operation hok hs (zK0_k (tab := [(0, 1), (1, 2)]) (by decide) (fun v I1 R1 A1 h => zk_r (vc_L_operation_8 h)) hk)))
theorem zl_operationsOf {x : Int32} (hok : zOK s) (hs : zS5 o w sp s I R A) (hk : zK5 (zF_operationsOf s x) I R A lo dd Φ) : zC L xs mL_operationsOf [.ref 0, .int x, .ref 123] (I, R, A, lo, dd) Φ :=
  zC_en (vc_L_operationsOf_0 (z5_operationsOf hok hs (zK0_k (tab := [(1, 1)]) (by decide) (fun v I1 R1 A1 h => zk_r (vc_L_operationsOf_7 h)) hk)))
theorem zl_present {x : Int32} (hok : zOK s) (hs : zS5 o w sp s I R A) (hk : zK5 (zF_present s x) I R A lo dd Φ) : zC L xs mL_present [.ref 0, .int x, .ref 123] (I, R, A, lo, dd) Φ :=
  zC_en (vc_L_present_0 (z5_present hok hs (zK0_k (tab := [(0, 1)]) (by decide) (fun v I1 R1 A1 h => zk_r (vc_L_present_7 h)) hk)))
theorem zl_agreement {x : Int32} (hok : zOK s) (hs : zS5 o w sp s I R A) (hk : zK5 (zF_agreement s x) I R A lo dd Φ) : zC L xs mL_agreement [.ref 0, .int x, .ref 123] (I, R, A, lo, dd) Φ :=
  zC_en (vc_L_agreement_0 (z5_agreement hok hs (zK0_k (tab := [(0, 1)]) (by decide) (fun v I1 R1 A1 h => zk_r (vc_L_agreement_7 h)) hk)))
theorem zl_readyAfter {x : Int32} (hok : zOK s) (hs : zS5 o w sp s I R A) (hk : zK5 (zF_readyAfter s x) I R A lo dd Φ) : zC L xs mL_readyAfter [.ref 0, .int x, .ref 123] (I, R, A, lo, dd) Φ :=
  zC_en (vc_L_readyAfter_0 (z5_readyAfter hok hs (zK0_k (tab := [(0, 1)]) (by decide) (fun v I1 R1 A1 h => zk_r (vc_L_readyAfter_7 h)) hk)))
theorem zw_append (i1 : z_in (x5 + 1) L) (i2 : z_in (x5 + 2) L) (i3 : z_in (x5 + 3) L) (i4 : z_in (x5 + 4) L) (i5 : z_in (x5 + 5) L) (hok : zOK s) (hs : zS5 o w sp s I R A) (hm : zM6 s I A) (h : zNX L xs x5 Φ) : zC L xs mL_append [.ref 0, .int (xs (Int32.toNatClampNeg (x5 + 1))), .int (xs (Int32.toNatClampNeg (x5 + 2))), .int (xs (Int32.toNatClampNeg (x5 + 3))), .int (xs (Int32.toNatClampNeg (x5 + 4))), .int (xs (Int32.toNatClampNeg (x5 + 5))), .ref 123] (I, R, A, lo, dd) (z_kont [] (fun r τ Ψ => zW L xs mL_law 227 [some (.ref 300), some (.ref 0), some (.ref 107), some (.ref 123), some (.ref 124), some (.int x5), y6, y7, y8] (r.toList ++ []) τ Ψ) Φ) := by
  have hok2 : zOK (zF_append s (xs (Int32.toNatClampNeg (x5 + 1))) (xs (Int32.toNatClampNeg (x5 + 2))) (xs (Int32.toNatClampNeg (x5 + 3))) (xs (Int32.toNatClampNeg (x5 + 4))) (xs (Int32.toNatClampNeg (x5 + 5)))).2.2 := zOK_append hok
  refine zl_append hok hs (fun o1 w1 sp1 I1 R1 A1 hs1 hg1 hne => ?_)
  have hm1 := zM6_g5 hm hg1
  have hz := fun Φ (hk : zK6 (zF_append s (xs (Int32.toNatClampNeg (x5 + 1))) (xs (Int32.toNatClampNeg (x5 + 2))) (xs (Int32.toNatClampNeg (x5 + 3))) (xs (Int32.toNatClampNeg (x5 + 4))) (xs (Int32.toNatClampNeg (x5 + 5)))) I1 R1 A1 (if (zF_append s (xs (Int32.toNatClampNeg (x5 + 1))) (xs (Int32.toNatClampNeg (x5 + 2))) (xs (Int32.toNatClampNeg (x5 + 3))) (xs (Int32.toNatClampNeg (x5 + 4))) (xs (Int32.toNatClampNeg (x5 + 5)))).1 = 0 then Int32.toInt64 (zF_append s (xs (Int32.toNatClampNeg (x5 + 1))) (xs (Int32.toNatClampNeg (x5 + 2))) (xs (Int32.toNatClampNeg (x5 + 3))) (xs (Int32.toNatClampNeg (x5 + 4))) (xs (Int32.toNatClampNeg (x5 + 5)))).2.1 else lo) dd Φ) => z6_append (L := L) (xs := xs) hm1 hk
  generalize zF_append s (xs (Int32.toNatClampNeg (x5 + 1))) (xs (Int32.toNatClampNeg (x5 + 2))) (xs (Int32.toNatClampNeg (x5 + 3))) (xs (Int32.toNatClampNeg (x5 + 4))) (xs (Int32.toNatClampNeg (x5 + 5))) = r at *
  refine vc_L_law_227 ⟨i1, i2, i3, i4, i5, hz _ (fun I2 A2 y hm2 hg2 e0 hy => zk_r (vc_L_law_263 (zC_en (vc_X6_thrown_0 (zk_r (vc_L_law_269 (zt_tail e0 (fun z => ?_) (h _ (by split <;> omega) o1 w1 sp1 _ I2 R1 A2 _ _ _ _ _ hok2 (zS5_g6 hs1 hg2) hm2))))))))⟩
  by_cases q : r.1 = 0
  · rw [if_pos q, hy q]; exact lg_rf _
  · exact absurd z (hne q)
theorem zw_truncate (i1 : z_in (x5 + 1) L) (hok : zOK s) (hs : zS5 o w sp s I R A) (hm : zM6 s I A) (h : zNX L xs x5 Φ) : zC L xs mL_truncate [.ref 0, .int (xs (Int32.toNatClampNeg (x5 + 1))), .ref 123] (I, R, A, lo, dd) (z_kont [] (fun r τ Ψ => zW L xs mL_law 307 [some (.ref 300), some (.ref 0), some (.ref 107), some (.ref 123), some (.ref 124), some (.int x5), y6, y7, y8] (r.toList ++ []) τ Ψ) Φ) := by
  have hok2 : zOK (zF_truncate s (xs (Int32.toNatClampNeg (x5 + 1)))).2.2 := zOK_truncate hok
  refine zl_truncate hok hs (fun o1 w1 sp1 I1 R1 A1 hs1 hg1 hne => ?_)
  have hm1 := zM6_g5 hm hg1
  have hz := fun Φ (hk : zK6 (zF_truncate s (xs (Int32.toNatClampNeg (x5 + 1)))) I1 R1 A1 (if (zF_truncate s (xs (Int32.toNatClampNeg (x5 + 1)))).1 = 0 then Int32.toInt64 (zF_truncate s (xs (Int32.toNatClampNeg (x5 + 1)))).2.1 else lo) dd Φ) => z6_truncate (L := L) (xs := xs) hm1 hk
  generalize zF_truncate s (xs (Int32.toNatClampNeg (x5 + 1))) = r at *
  refine vc_L_law_307 ⟨i1, hz _ (fun I2 A2 y hm2 hg2 e0 hy => zk_r (vc_L_law_319 (zC_en (vc_X6_thrown_0 (zk_r (vc_L_law_325 (zt_tail e0 (fun z => ?_) (h _ (by split <;> omega) o1 w1 sp1 _ I2 R1 A2 _ _ _ _ _ hok2 (zS5_g6 hs1 hg2) hm2))))))))⟩
  by_cases q : r.1 = 0
  · rw [if_pos q, hy q]; exact lg_rf _
  · exact absurd z (hne q)
theorem zw_load (i1 : z_in (x5 + 1) L) (hok : zOK s) (hs : zS5 o w sp s I R A) (hm : zM6 s I A) (h : zNX L xs x5 Φ) : zC L xs mL_load [.ref 0, .int (xs (Int32.toNatClampNeg (x5 + 1))), .ref 123] (I, R, A, lo, dd) (z_kont [] (fun r τ Ψ => zW L xs mL_law 363 [some (.ref 300), some (.ref 0), some (.ref 107), some (.ref 123), some (.ref 124), some (.int x5), y6, y7, y8] (r.toList ++ []) τ Ψ) Φ) := by
  have hok2 : zOK (zF_load s (xs (Int32.toNatClampNeg (x5 + 1)))).2.2 := zOK_load hok
  refine zl_load hok hs (fun o1 w1 sp1 I1 R1 A1 hs1 hg1 hne => ?_)
  have hm1 := zM6_g5 hm hg1
  have hz := fun Φ (hk : zK6 (zF_load s (xs (Int32.toNatClampNeg (x5 + 1)))) I1 R1 A1 (if (zF_load s (xs (Int32.toNatClampNeg (x5 + 1)))).1 = 0 then Int32.toInt64 (zF_load s (xs (Int32.toNatClampNeg (x5 + 1)))).2.1 else lo) dd Φ) => z6_load (L := L) (xs := xs) hok hm1 hk
  generalize zF_load s (xs (Int32.toNatClampNeg (x5 + 1))) = r at *
  refine vc_L_law_363 ⟨i1, hz _ (fun I2 A2 y hm2 hg2 e0 hy => zk_r (vc_L_law_375 (zC_en (vc_X6_thrown_0 (zk_r (vc_L_law_381 (zt_tail e0 (fun z => ?_) (h _ (by split <;> omega) o1 w1 sp1 _ I2 R1 A2 _ _ _ _ _ hok2 (zS5_g6 hs1 hg2) hm2))))))))⟩
  by_cases q : r.1 = 0
  · rw [if_pos q, hy q]; exact lg_rf _
  · exact absurd z (hne q)
theorem zw_errorCode (hok : zOK s) (hs : zS5 o w sp s I R A) (hm : zM6 s I A) (h : zNX L xs x5 Φ) : zC L xs mX5_errorCode [.ref 0] (I, R, A, lo, dd) (z_kont [] (fun r τ Ψ => zW L xs mL_law 412 [some (.ref 300), some (.ref 0), some (.ref 107), some (.ref 123), some (.ref 124), some (.int x5), y6, y7, y8] (r.toList ++ []) τ Ψ) Φ) := by
  refine z5_errorCode hs (fun o1 w1 sp1 I1 R1 A1 hs1 hg1 => ⟨fun _ => zk_r (vc_L_law_412 (z6_errorCode (s := s) (zM6_g5 hm hg1) (fun I2 A2 y hm2 hg2 e0 hy => zk_r (vc_L_law_416 ⟨fun _ => ?_, fun q => absurd (hy rfl).symm q⟩)))), fun q => absurd rfl q⟩)
  exact zw_z (h 0 (by decide) o1 w1 sp1 _ I2 R1 A2 _ _ _ _ _ hok (zS5_g6 hs1 hg2) hm2)
theorem zw_errorPosition (hok : zOK s) (hs : zS5 o w sp s I R A) (hm : zM6 s I A) (h : zNX L xs x5 Φ) : zC L xs mX5_errorPosition [.ref 0] (I, R, A, lo, dd) (z_kont [] (fun r τ Ψ => zW L xs mL_law 425 [some (.ref 300), some (.ref 0), some (.ref 107), some (.ref 123), some (.ref 124), some (.int x5), y6, y7, y8] (r.toList ++ []) τ Ψ) Φ) := by
  refine z5_errorPosition hs (fun o1 w1 sp1 I1 R1 A1 hs1 hg1 => ⟨fun _ => zk_r (vc_L_law_425 (z6_errorPosition (s := s) (zM6_g5 hm hg1) (fun I2 A2 y hm2 hg2 e0 hy => zk_r (vc_L_law_429 ⟨fun _ => ?_, fun q => absurd (hy rfl).symm q⟩)))), fun q => absurd rfl q⟩)
  exact zw_z (h 0 (by decide) o1 w1 sp1 _ I2 R1 A2 _ _ _ _ _ hok (zS5_g6 hs1 hg2) hm2)
theorem zw_image (i1 : z_in (x5 + 1) L) (i2 : z_in (x5 + 2) L) (hok : zOK s) (hs : zS5 o w sp s I R A) (hm : zM6 s I A) (h : zNX L xs x5 Φ) : zC L xs mL_image [.ref 0, .int (xs (Int32.toNatClampNeg (x5 + 1))), .int (xs (Int32.toNatClampNeg (x5 + 2))), .ref 123] (I, R, A, lo, dd) (z_kont [] (fun r τ Ψ => zW L xs mL_law 451 [some (.ref 300), some (.ref 0), some (.ref 107), some (.ref 123), some (.ref 124), some (.int x5), y6, y7, y8] (r.toList ++ []) τ Ψ) Φ) := by
  have hok2 : zOK (zF_image s (xs (Int32.toNatClampNeg (x5 + 1))) (xs (Int32.toNatClampNeg (x5 + 2)))).2.2 := zOK_image hok
  refine zl_image hok hs (fun o1 w1 sp1 I1 R1 A1 hs1 hg1 hne => ?_)
  have hm1 := zM6_g5 hm hg1
  have hz := fun Φ (hk : zK6 (zF_image s (xs (Int32.toNatClampNeg (x5 + 1))) (xs (Int32.toNatClampNeg (x5 + 2)))) I1 R1 A1 (if (zF_image s (xs (Int32.toNatClampNeg (x5 + 1))) (xs (Int32.toNatClampNeg (x5 + 2)))).1 = 0 then Int32.toInt64 (zF_image s (xs (Int32.toNatClampNeg (x5 + 1))) (xs (Int32.toNatClampNeg (x5 + 2)))).2.1 else lo) dd Φ) => z6_image (L := L) (xs := xs) hok hm1 hk
  generalize zF_image s (xs (Int32.toNatClampNeg (x5 + 1))) (xs (Int32.toNatClampNeg (x5 + 2))) = r at *
  refine vc_L_law_451 ⟨i1, i2, hz _ (fun I2 A2 y hm2 hg2 e0 hy => zk_r (vc_L_law_469 (zC_en (vc_X6_thrown_0 (zk_r (vc_L_law_475 (zt_tail e0 (fun z => ?_) (h _ (by split <;> omega) o1 w1 sp1 _ I2 R1 A2 _ _ _ _ _ hok2 (zS5_g6 hs1 hg2) hm2))))))))⟩
  by_cases q : r.1 = 0
  · rw [if_pos q, hy q]; exact lg_rf _
  · exact absurd z (hne q)
theorem zw_partition (i1 : z_in (x5 + 1) L) (i2 : z_in (x5 + 2) L) (i3 : z_in (x5 + 3) L) (hok : zOK s) (hs : zS5 o w sp s I R A) (hm : zM6 s I A) (h : zNX L xs x5 Φ) : zC L xs mL_partition [.ref 0, .int (xs (Int32.toNatClampNeg (x5 + 1))), .int (xs (Int32.toNatClampNeg (x5 + 2))), .int (xs (Int32.toNatClampNeg (x5 + 3))), .ref 123] (I, R, A, lo, dd) (z_kont [] (fun r τ Ψ => zW L xs mL_law 525 [some (.ref 300), some (.ref 0), some (.ref 107), some (.ref 123), some (.ref 124), some (.int x5), y6, y7, y8] (r.toList ++ []) τ Ψ) Φ) := by
  have hok2 : zOK (zF_partition s (xs (Int32.toNatClampNeg (x5 + 1))) (xs (Int32.toNatClampNeg (x5 + 2))) (xs (Int32.toNatClampNeg (x5 + 3)))).2.2 := zOK_partition hok
  refine zl_partition hok hs (fun o1 w1 sp1 I1 R1 A1 hs1 hg1 hne => ?_)
  have hm1 := zM6_g5 hm hg1
  have hz := fun Φ (hk : zK6 (zF_partition s (xs (Int32.toNatClampNeg (x5 + 1))) (xs (Int32.toNatClampNeg (x5 + 2))) (xs (Int32.toNatClampNeg (x5 + 3)))) I1 R1 A1 (if (zF_partition s (xs (Int32.toNatClampNeg (x5 + 1))) (xs (Int32.toNatClampNeg (x5 + 2))) (xs (Int32.toNatClampNeg (x5 + 3)))).1 = 0 then Int32.toInt64 (zF_partition s (xs (Int32.toNatClampNeg (x5 + 1))) (xs (Int32.toNatClampNeg (x5 + 2))) (xs (Int32.toNatClampNeg (x5 + 3)))).2.1 else lo) dd Φ) => z6_partition (L := L) (xs := xs) hok hm1 hk
  generalize zF_partition s (xs (Int32.toNatClampNeg (x5 + 1))) (xs (Int32.toNatClampNeg (x5 + 2))) (xs (Int32.toNatClampNeg (x5 + 3))) = r at *
  refine vc_L_law_525 ⟨i1, i2, i3, hz _ (fun I2 A2 y hm2 hg2 e0 hy => zk_r (vc_L_law_549 (zC_en (vc_X6_thrown_0 (zk_r (vc_L_law_555 (zt_tail e0 (fun z => ?_) (h _ (by split <;> omega) o1 w1 sp1 _ I2 R1 A2 _ _ _ _ _ hok2 (zS5_g6 hs1 hg2) hm2))))))))⟩
  by_cases q : r.1 = 0
  · rw [if_pos q, hy q]; exact lg_rf _
  · exact absurd z (hne q)
theorem zw_node (i1 : z_in (x5 + 1) L) (i2 : z_in (x5 + 2) L) (i3 : z_in (x5 + 3) L) (hok : zOK s) (hs : zS5 o w sp s I R A) (hm : zM6 s I A) (h : zNX L xs x5 Φ) : zC L xs mL_node [.ref 0, .int (xs (Int32.toNatClampNeg (x5 + 1))), .int (xs (Int32.toNatClampNeg (x5 + 2))), .int (xs (Int32.toNatClampNeg (x5 + 3))), .ref 123] (I, R, A, lo, dd) (z_kont [] (fun r τ Ψ => zW L xs mL_law 605 [some (.ref 300), some (.ref 0), some (.ref 107), some (.ref 123), some (.ref 124), some (.int x5), y6, y7, y8] (r.toList ++ []) τ Ψ) Φ) := by
  have hok2 : zOK (zF_node s (xs (Int32.toNatClampNeg (x5 + 1))) (xs (Int32.toNatClampNeg (x5 + 2))) (xs (Int32.toNatClampNeg (x5 + 3)))).2.2 := zOK_node hok
  refine zl_node hok hs (fun o1 w1 sp1 I1 R1 A1 hs1 hg1 hne => ?_)
  have hm1 := zM6_g5 hm hg1
  have hz := fun Φ (hk : zK6 (zF_node s (xs (Int32.toNatClampNeg (x5 + 1))) (xs (Int32.toNatClampNeg (x5 + 2))) (xs (Int32.toNatClampNeg (x5 + 3)))) I1 R1 A1 (if (zF_node s (xs (Int32.toNatClampNeg (x5 + 1))) (xs (Int32.toNatClampNeg (x5 + 2))) (xs (Int32.toNatClampNeg (x5 + 3)))).1 = 0 then Int32.toInt64 (zF_node s (xs (Int32.toNatClampNeg (x5 + 1))) (xs (Int32.toNatClampNeg (x5 + 2))) (xs (Int32.toNatClampNeg (x5 + 3)))).2.1 else lo) dd Φ) => z6_node (L := L) (xs := xs) hok hm1 hk
  generalize zF_node s (xs (Int32.toNatClampNeg (x5 + 1))) (xs (Int32.toNatClampNeg (x5 + 2))) (xs (Int32.toNatClampNeg (x5 + 3))) = r at *
  refine vc_L_law_605 ⟨i1, i2, i3, hz _ (fun I2 A2 y hm2 hg2 e0 hy => zk_r (vc_L_law_629 (zC_en (vc_X6_thrown_0 (zk_r (vc_L_law_635 (zt_tail e0 (fun z => ?_) (h _ (by split <;> omega) o1 w1 sp1 _ I2 R1 A2 _ _ _ _ _ hok2 (zS5_g6 hs1 hg2) hm2))))))))⟩
  by_cases q : r.1 = 0
  · rw [if_pos q, hy q]; exact lg_rf _
  · exact absurd z (hne q)
theorem zw_byInode (i1 : z_in (x5 + 1) L) (i2 : z_in (x5 + 2) L) (i3 : z_in (x5 + 3) L) (hok : zOK s) (hs : zS5 o w sp s I R A) (hm : zM6 s I A) (h : zNX L xs x5 Φ) : zC L xs mL_byInode [.ref 0, .int (xs (Int32.toNatClampNeg (x5 + 1))), .int (xs (Int32.toNatClampNeg (x5 + 2))), .int (xs (Int32.toNatClampNeg (x5 + 3))), .ref 123] (I, R, A, lo, dd) (z_kont [] (fun r τ Ψ => zW L xs mL_law 685 [some (.ref 300), some (.ref 0), some (.ref 107), some (.ref 123), some (.ref 124), some (.int x5), y6, y7, y8] (r.toList ++ []) τ Ψ) Φ) := by
  have hok2 : zOK (zF_byInode s (xs (Int32.toNatClampNeg (x5 + 1))) (xs (Int32.toNatClampNeg (x5 + 2))) (xs (Int32.toNatClampNeg (x5 + 3)))).2.2 := zOK_byInode hok
  refine zl_byInode hok hs (fun o1 w1 sp1 I1 R1 A1 hs1 hg1 hne => ?_)
  have hm1 := zM6_g5 hm hg1
  have hz := fun Φ (hk : zK6 (zF_byInode s (xs (Int32.toNatClampNeg (x5 + 1))) (xs (Int32.toNatClampNeg (x5 + 2))) (xs (Int32.toNatClampNeg (x5 + 3)))) I1 R1 A1 (if (zF_byInode s (xs (Int32.toNatClampNeg (x5 + 1))) (xs (Int32.toNatClampNeg (x5 + 2))) (xs (Int32.toNatClampNeg (x5 + 3)))).1 = 0 then Int32.toInt64 (zF_byInode s (xs (Int32.toNatClampNeg (x5 + 1))) (xs (Int32.toNatClampNeg (x5 + 2))) (xs (Int32.toNatClampNeg (x5 + 3)))).2.1 else lo) dd Φ) => z6_byInode (L := L) (xs := xs) hok hm1 hk
  generalize zF_byInode s (xs (Int32.toNatClampNeg (x5 + 1))) (xs (Int32.toNatClampNeg (x5 + 2))) (xs (Int32.toNatClampNeg (x5 + 3))) = r at *
  refine vc_L_law_685 ⟨i1, i2, i3, hz _ (fun I2 A2 y hm2 hg2 e0 hy => zk_r (vc_L_law_709 (zC_en (vc_X6_thrown_0 (zk_r (vc_L_law_715 (zt_tail e0 (fun z => ?_) (h _ (by split <;> omega) o1 w1 sp1 _ I2 R1 A2 _ _ _ _ _ hok2 (zS5_g6 hs1 hg2) hm2))))))))⟩
  by_cases q : r.1 = 0
  · rw [if_pos q, hy q]; exact lg_rf _
  · exact absurd z (hne q)
theorem zw_formatPath (i1 : z_in (x5 + 1) L) (i2 : z_in (x5 + 2) L) (hok : zOK s) (hs : zS5 o w sp s I R A) (hm : zM6 s I A) (h : zNX L xs x5 Φ) : zC L xs mL_formatPath [.ref 0, .int (xs (Int32.toNatClampNeg (x5 + 1))), .int (xs (Int32.toNatClampNeg (x5 + 2))), .ref 123] (I, R, A, lo, dd) (z_kont [] (fun r τ Ψ => zW L xs mL_law 759 [some (.ref 300), some (.ref 0), some (.ref 107), some (.ref 123), some (.ref 124), some (.int x5), y6, y7, y8] (r.toList ++ []) τ Ψ) Φ) := by
  have hok2 : zOK (zF_formatPath s (xs (Int32.toNatClampNeg (x5 + 1))) (xs (Int32.toNatClampNeg (x5 + 2)))).2.2 := zOK_formatPath hok
  refine zl_formatPath hok hs (fun o1 w1 sp1 I1 R1 A1 hs1 hg1 hne => ?_)
  have hm1 := zM6_g5 hm hg1
  have hz := fun Φ (hk : zK6 (zF_formatPath s (xs (Int32.toNatClampNeg (x5 + 1))) (xs (Int32.toNatClampNeg (x5 + 2)))) I1 R1 A1 (if (zF_formatPath s (xs (Int32.toNatClampNeg (x5 + 1))) (xs (Int32.toNatClampNeg (x5 + 2)))).1 = 0 then Int32.toInt64 (zF_formatPath s (xs (Int32.toNatClampNeg (x5 + 1))) (xs (Int32.toNatClampNeg (x5 + 2)))).2.1 else lo) dd Φ) => z6_formatPath (L := L) (xs := xs) hok hm1 hk
  generalize zF_formatPath s (xs (Int32.toNatClampNeg (x5 + 1))) (xs (Int32.toNatClampNeg (x5 + 2))) = r at *
  refine vc_L_law_759 ⟨i1, i2, hz _ (fun I2 A2 y hm2 hg2 e0 hy => zk_r (vc_L_law_777 (zC_en (vc_X6_thrown_0 (zk_r (vc_L_law_783 (zt_tail e0 (fun z => ?_) (h _ (by split <;> omega) o1 w1 sp1 _ I2 R1 A2 _ _ _ _ _ hok2 (zS5_g6 hs1 hg2) hm2))))))))⟩
  by_cases q : r.1 = 0
  · rw [if_pos q, hy q]; exact lg_rf _
  · exact absurd z (hne q)
theorem zw_formatted (i1 : z_in (x5 + 1) L) (hok : zOK s) (hs : zS5 o w sp s I R A) (hm : zM6 s I A) (h : zNX L xs x5 Φ) : zC L xs mL_formatted [.ref 0, .int (xs (Int32.toNatClampNeg (x5 + 1))), .ref 123] (I, R, A, lo, dd) (z_kont [] (fun r τ Ψ => zW L xs mL_law 821 [some (.ref 300), some (.ref 0), some (.ref 107), some (.ref 123), some (.ref 124), some (.int x5), y6, y7, y8] (r.toList ++ []) τ Ψ) Φ) := by
  have hok2 : zOK (zF_formatted s (xs (Int32.toNatClampNeg (x5 + 1)))).2.2 := zOK_formatted hok
  refine zl_formatted hok hs (fun o1 w1 sp1 I1 R1 A1 hs1 hg1 hne => ?_)
  have hm1 := zM6_g5 hm hg1
  have hz := fun Φ (hk : zK6 (zF_formatted s (xs (Int32.toNatClampNeg (x5 + 1)))) I1 R1 A1 (if (zF_formatted s (xs (Int32.toNatClampNeg (x5 + 1)))).1 = 0 then Int32.toInt64 (zF_formatted s (xs (Int32.toNatClampNeg (x5 + 1)))).2.1 else lo) dd Φ) => z6_formatted (L := L) (xs := xs) hok hm1 hk
  generalize zF_formatted s (xs (Int32.toNatClampNeg (x5 + 1))) = r at *
  refine vc_L_law_821 ⟨i1, hz _ (fun I2 A2 y hm2 hg2 e0 hy => zk_r (vc_L_law_833 (zC_en (vc_X6_thrown_0 (zk_r (vc_L_law_839 (zt_tail e0 (fun z => ?_) (h _ (by split <;> omega) o1 w1 sp1 _ I2 R1 A2 _ _ _ _ _ hok2 (zS5_g6 hs1 hg2) hm2))))))))⟩
  by_cases q : r.1 = 0
  · rw [if_pos q, hy q]; exact lg_rf _
  · exact absurd z (hne q)
theorem zw_rename (i1 : z_in (x5 + 1) L) (i2 : z_in (x5 + 2) L) (i3 : z_in (x5 + 3) L) (hok : zOK s) (hs : zS5 o w sp s I R A) (hm : zM6 s I A) (h : zNX L xs x5 Φ) : zC L xs mL_rename [.ref 0, .int (xs (Int32.toNatClampNeg (x5 + 1))), .int (xs (Int32.toNatClampNeg (x5 + 2))), .int (xs (Int32.toNatClampNeg (x5 + 3))), .ref 123] (I, R, A, lo, dd) (z_kont [] (fun r τ Ψ => zW L xs mL_law 889 [some (.ref 300), some (.ref 0), some (.ref 107), some (.ref 123), some (.ref 124), some (.int x5), y6, y7, y8] (r.toList ++ []) τ Ψ) Φ) := by
  have hok2 : zOK (zF_rename s (xs (Int32.toNatClampNeg (x5 + 1))) (xs (Int32.toNatClampNeg (x5 + 2))) (xs (Int32.toNatClampNeg (x5 + 3)))).2.2 := zOK_rename hok
  refine zl_rename hok hs (fun o1 w1 sp1 I1 R1 A1 hs1 hg1 hne => ?_)
  have hm1 := zM6_g5 hm hg1
  have hz := fun Φ (hk : zK6 (zF_rename s (xs (Int32.toNatClampNeg (x5 + 1))) (xs (Int32.toNatClampNeg (x5 + 2))) (xs (Int32.toNatClampNeg (x5 + 3)))) I1 R1 A1 (if (zF_rename s (xs (Int32.toNatClampNeg (x5 + 1))) (xs (Int32.toNatClampNeg (x5 + 2))) (xs (Int32.toNatClampNeg (x5 + 3)))).1 = 0 then Int32.toInt64 (zF_rename s (xs (Int32.toNatClampNeg (x5 + 1))) (xs (Int32.toNatClampNeg (x5 + 2))) (xs (Int32.toNatClampNeg (x5 + 3)))).2.1 else lo) dd Φ) => z6_rename (L := L) (xs := xs) hok hm1 hk
  generalize zF_rename s (xs (Int32.toNatClampNeg (x5 + 1))) (xs (Int32.toNatClampNeg (x5 + 2))) (xs (Int32.toNatClampNeg (x5 + 3))) = r at *
  refine vc_L_law_889 ⟨i1, i2, i3, hz _ (fun I2 A2 y hm2 hg2 e0 hy => zk_r (vc_L_law_913 (zC_en (vc_X6_thrown_0 (zk_r (vc_L_law_919 (zt_tail e0 (fun z => ?_) (h _ (by split <;> omega) o1 w1 sp1 _ I2 R1 A2 _ _ _ _ _ hok2 (zS5_g6 hs1 hg2) hm2))))))))⟩
  by_cases q : r.1 = 0
  · rw [if_pos q, hy q]; exact lg_rf _
  · exact absurd z (hne q)
theorem zw_write (i1 : z_in (x5 + 1) L) (i2 : z_in (x5 + 2) L) (i3 : z_in (x5 + 3) L) (hok : zOK s) (hs : zS5 o w sp s I R A) (hm : zM6 s I A) (h : zNX L xs x5 Φ) : zC L xs mL_write [.ref 0, .int (xs (Int32.toNatClampNeg (x5 + 1))), .int (xs (Int32.toNatClampNeg (x5 + 2))), .int (xs (Int32.toNatClampNeg (x5 + 3))), .ref 123] (I, R, A, lo, dd) (z_kont [] (fun r τ Ψ => zW L xs mL_law 969 [some (.ref 300), some (.ref 0), some (.ref 107), some (.ref 123), some (.ref 124), some (.int x5), y6, y7, y8] (r.toList ++ []) τ Ψ) Φ) := by
  have hok2 : zOK (zF_write s (xs (Int32.toNatClampNeg (x5 + 1))) (xs (Int32.toNatClampNeg (x5 + 2))) (xs (Int32.toNatClampNeg (x5 + 3)))).2.2 := zOK_write hok
  refine zl_write hok hs (fun o1 w1 sp1 I1 R1 A1 hs1 hg1 hne => ?_)
  have hm1 := zM6_g5 hm hg1
  have hz := fun Φ (hk : zK6 (zF_write s (xs (Int32.toNatClampNeg (x5 + 1))) (xs (Int32.toNatClampNeg (x5 + 2))) (xs (Int32.toNatClampNeg (x5 + 3)))) I1 R1 A1 (if (zF_write s (xs (Int32.toNatClampNeg (x5 + 1))) (xs (Int32.toNatClampNeg (x5 + 2))) (xs (Int32.toNatClampNeg (x5 + 3)))).1 = 0 then Int32.toInt64 (zF_write s (xs (Int32.toNatClampNeg (x5 + 1))) (xs (Int32.toNatClampNeg (x5 + 2))) (xs (Int32.toNatClampNeg (x5 + 3)))).2.1 else lo) dd Φ) => z6_write (L := L) (xs := xs) hok hm1 hk
  generalize zF_write s (xs (Int32.toNatClampNeg (x5 + 1))) (xs (Int32.toNatClampNeg (x5 + 2))) (xs (Int32.toNatClampNeg (x5 + 3))) = r at *
  refine vc_L_law_969 ⟨i1, i2, i3, hz _ (fun I2 A2 y hm2 hg2 e0 hy => zk_r (vc_L_law_993 (zC_en (vc_X6_thrown_0 (zk_r (vc_L_law_999 (zt_tail e0 (fun z => ?_) (h _ (by split <;> omega) o1 w1 sp1 _ I2 R1 A2 _ _ _ _ _ hok2 (zS5_g6 hs1 hg2) hm2))))))))⟩
  by_cases q : r.1 = 0
  · rw [if_pos q, hy q]; exact lg_rf _
  · exact absurd z (hne q)
theorem zw_setAttributes (i1 : z_in (x5 + 1) L) (i2 : z_in (x5 + 2) L) (i3 : z_in (x5 + 3) L) (hok : zOK s) (hs : zS5 o w sp s I R A) (hm : zM6 s I A) (h : zNX L xs x5 Φ) : zC L xs mL_setAttributes [.ref 0, .int (xs (Int32.toNatClampNeg (x5 + 1))), .int (xs (Int32.toNatClampNeg (x5 + 2))), .int (xs (Int32.toNatClampNeg (x5 + 3))), .ref 123] (I, R, A, lo, dd) (z_kont [] (fun r τ Ψ => zW L xs mL_law 1049 [some (.ref 300), some (.ref 0), some (.ref 107), some (.ref 123), some (.ref 124), some (.int x5), y6, y7, y8] (r.toList ++ []) τ Ψ) Φ) := by
  have hok2 : zOK (zF_setAttributes s (xs (Int32.toNatClampNeg (x5 + 1))) (xs (Int32.toNatClampNeg (x5 + 2))) (xs (Int32.toNatClampNeg (x5 + 3)))).2.2 := zOK_setAttributes hok
  refine zl_setAttributes hok hs (fun o1 w1 sp1 I1 R1 A1 hs1 hg1 hne => ?_)
  have hm1 := zM6_g5 hm hg1
  have hz := fun Φ (hk : zK6 (zF_setAttributes s (xs (Int32.toNatClampNeg (x5 + 1))) (xs (Int32.toNatClampNeg (x5 + 2))) (xs (Int32.toNatClampNeg (x5 + 3)))) I1 R1 A1 (if (zF_setAttributes s (xs (Int32.toNatClampNeg (x5 + 1))) (xs (Int32.toNatClampNeg (x5 + 2))) (xs (Int32.toNatClampNeg (x5 + 3)))).1 = 0 then Int32.toInt64 (zF_setAttributes s (xs (Int32.toNatClampNeg (x5 + 1))) (xs (Int32.toNatClampNeg (x5 + 2))) (xs (Int32.toNatClampNeg (x5 + 3)))).2.1 else lo) dd Φ) => z6_setAttributes (L := L) (xs := xs) hok hm1 hk
  generalize zF_setAttributes s (xs (Int32.toNatClampNeg (x5 + 1))) (xs (Int32.toNatClampNeg (x5 + 2))) (xs (Int32.toNatClampNeg (x5 + 3))) = r at *
  refine vc_L_law_1049 ⟨i1, i2, i3, hz _ (fun I2 A2 y hm2 hg2 e0 hy => zk_r (vc_L_law_1073 (zC_en (vc_X6_thrown_0 (zk_r (vc_L_law_1079 (zt_tail e0 (fun z => ?_) (h _ (by split <;> omega) o1 w1 sp1 _ I2 R1 A2 _ _ _ _ _ hok2 (zS5_g6 hs1 hg2) hm2))))))))⟩
  by_cases q : r.1 = 0
  · rw [if_pos q, hy q]; exact lg_rf _
  · exact absurd z (hne q)
theorem zw_remove (i1 : z_in (x5 + 1) L) (i2 : z_in (x5 + 2) L) (hok : zOK s) (hs : zS5 o w sp s I R A) (hm : zM6 s I A) (h : zNX L xs x5 Φ) : zC L xs mL_remove [.ref 0, .int (xs (Int32.toNatClampNeg (x5 + 1))), .int (xs (Int32.toNatClampNeg (x5 + 2))), .ref 123] (I, R, A, lo, dd) (z_kont [] (fun r τ Ψ => zW L xs mL_law 1123 [some (.ref 300), some (.ref 0), some (.ref 107), some (.ref 123), some (.ref 124), some (.int x5), y6, y7, y8] (r.toList ++ []) τ Ψ) Φ) := by
  have hok2 : zOK (zF_remove s (xs (Int32.toNatClampNeg (x5 + 1))) (xs (Int32.toNatClampNeg (x5 + 2)))).2.2 := zOK_remove hok
  refine zl_remove hok hs (fun o1 w1 sp1 I1 R1 A1 hs1 hg1 hne => ?_)
  have hm1 := zM6_g5 hm hg1
  have hz := fun Φ (hk : zK6 (zF_remove s (xs (Int32.toNatClampNeg (x5 + 1))) (xs (Int32.toNatClampNeg (x5 + 2)))) I1 R1 A1 (if (zF_remove s (xs (Int32.toNatClampNeg (x5 + 1))) (xs (Int32.toNatClampNeg (x5 + 2)))).1 = 0 then Int32.toInt64 (zF_remove s (xs (Int32.toNatClampNeg (x5 + 1))) (xs (Int32.toNatClampNeg (x5 + 2)))).2.1 else lo) dd Φ) => z6_remove (L := L) (xs := xs) hok hm1 hk
  generalize zF_remove s (xs (Int32.toNatClampNeg (x5 + 1))) (xs (Int32.toNatClampNeg (x5 + 2))) = r at *
  refine vc_L_law_1123 ⟨i1, i2, hz _ (fun I2 A2 y hm2 hg2 e0 hy => zk_r (vc_L_law_1141 (zC_en (vc_X6_thrown_0 (zk_r (vc_L_law_1147 (zt_tail e0 (fun z => ?_) (h _ (by split <;> omega) o1 w1 sp1 _ I2 R1 A2 _ _ _ _ _ hok2 (zS5_g6 hs1 hg2) hm2))))))))⟩
  by_cases q : r.1 = 0
  · rw [if_pos q, hy q]; exact lg_rf _
  · exact absurd z (hne q)
theorem zw_move (i1 : z_in (x5 + 1) L) (i2 : z_in (x5 + 2) L) (i3 : z_in (x5 + 3) L) (hok : zOK s) (hs : zS5 o w sp s I R A) (hm : zM6 s I A) (h : zNX L xs x5 Φ) : zC L xs mL_move [.ref 0, .int (xs (Int32.toNatClampNeg (x5 + 1))), .int (xs (Int32.toNatClampNeg (x5 + 2))), .int (xs (Int32.toNatClampNeg (x5 + 3))), .ref 123] (I, R, A, lo, dd) (z_kont [] (fun r τ Ψ => zW L xs mL_law 1197 [some (.ref 300), some (.ref 0), some (.ref 107), some (.ref 123), some (.ref 124), some (.int x5), y6, y7, y8] (r.toList ++ []) τ Ψ) Φ) := by
  have hok2 : zOK (zF_move s (xs (Int32.toNatClampNeg (x5 + 1))) (xs (Int32.toNatClampNeg (x5 + 2))) (xs (Int32.toNatClampNeg (x5 + 3)))).2.2 := zOK_move hok
  refine zl_move hok hs (fun o1 w1 sp1 I1 R1 A1 hs1 hg1 hne => ?_)
  have hm1 := zM6_g5 hm hg1
  have hz := fun Φ (hk : zK6 (zF_move s (xs (Int32.toNatClampNeg (x5 + 1))) (xs (Int32.toNatClampNeg (x5 + 2))) (xs (Int32.toNatClampNeg (x5 + 3)))) I1 R1 A1 (if (zF_move s (xs (Int32.toNatClampNeg (x5 + 1))) (xs (Int32.toNatClampNeg (x5 + 2))) (xs (Int32.toNatClampNeg (x5 + 3)))).1 = 0 then Int32.toInt64 (zF_move s (xs (Int32.toNatClampNeg (x5 + 1))) (xs (Int32.toNatClampNeg (x5 + 2))) (xs (Int32.toNatClampNeg (x5 + 3)))).2.1 else lo) dd Φ) => z6_move (L := L) (xs := xs) hok hm1 hk
  generalize zF_move s (xs (Int32.toNatClampNeg (x5 + 1))) (xs (Int32.toNatClampNeg (x5 + 2))) (xs (Int32.toNatClampNeg (x5 + 3))) = r at *
  refine vc_L_law_1197 ⟨i1, i2, i3, hz _ (fun I2 A2 y hm2 hg2 e0 hy => zk_r (vc_L_law_1221 (zC_en (vc_X6_thrown_0 (zk_r (vc_L_law_1227 (zt_tail e0 (fun z => ?_) (h _ (by split <;> omega) o1 w1 sp1 _ I2 R1 A2 _ _ _ _ _ hok2 (zS5_g6 hs1 hg2) hm2))))))))⟩
  by_cases q : r.1 = 0
  · rw [if_pos q, hy q]; exact lg_rf _
  · exact absurd z (hne q)
theorem zw_matchedPartition (i1 : z_in (x5 + 1) L) (hok : zOK s) (hs : zS5 o w sp s I R A) (hm : zM6 s I A) (h : zNX L xs x5 Φ) : zC L xs mL_matchedPartition [.ref 0, .int (xs (Int32.toNatClampNeg (x5 + 1))), .ref 123] (I, R, A, lo, dd) (z_kont [] (fun r τ Ψ => zW L xs mL_law 1276 [some (.ref 300), some (.ref 0), some (.ref 107), some (.ref 123), some (.ref 124), some (.int x5), y6, y7, y8] (r.toList ++ []) τ Ψ) Φ) := by
  have hok2 : zOK (zF_matchedPartition s (xs (Int32.toNatClampNeg (x5 + 1)))).2.2 := zOK_matchedPartition hok
  refine zl_matchedPartition hok hs (fun o1 w1 sp1 I1 R1 A1 hs1 hg1 hne => ?_)
  have hm1 := zM6_g5 hm hg1
  have hz := fun Φ (hk : zK6 (zF_matchedPartition s (xs (Int32.toNatClampNeg (x5 + 1)))) I1 R1 A1 (if (zF_matchedPartition s (xs (Int32.toNatClampNeg (x5 + 1)))).1 = 0 then Int32.toInt64 (zF_matchedPartition s (xs (Int32.toNatClampNeg (x5 + 1)))).2.1 else lo) dd Φ) => z6_matchedPartition (L := L) (xs := xs) hok hm1 hk
  generalize zF_matchedPartition s (xs (Int32.toNatClampNeg (x5 + 1))) = r at *
  refine vc_L_law_1276 ⟨i1, hz _ (fun I2 A2 y hm2 hg2 e0 hy => zk_r (vc_L_law_1288 (zC_en (vc_X6_thrown_0 (zk_r (vc_L_law_1294 (zt_tail e0 (fun z => ?_) (h _ (by split <;> omega) o1 w1 sp1 _ I2 R1 A2 _ _ _ _ _ hok2 (zS5_g6 hs1 hg2) hm2))))))))⟩
  by_cases q : r.1 = 0
  · rw [if_pos q, hy q]; exact lg_rf _
  · exact absurd z (hne q)
theorem zw_matchedNode (i1 : z_in (x5 + 1) L) (hok : zOK s) (hs : zS5 o w sp s I R A) (hm : zM6 s I A) (h : zNX L xs x5 Φ) : zC L xs mL_matchedNode [.ref 0, .int (xs (Int32.toNatClampNeg (x5 + 1))), .ref 123] (I, R, A, lo, dd) (z_kont [] (fun r τ Ψ => zW L xs mL_law 1332 [some (.ref 300), some (.ref 0), some (.ref 107), some (.ref 123), some (.ref 124), some (.int x5), y6, y7, y8] (r.toList ++ []) τ Ψ) Φ) := by
  have hok2 : zOK (zF_matchedNode s (xs (Int32.toNatClampNeg (x5 + 1)))).2.2 := zOK_matchedNode hok
  refine zl_matchedNode hok hs (fun o1 w1 sp1 I1 R1 A1 hs1 hg1 hne => ?_)
  have hm1 := zM6_g5 hm hg1
  have hz := fun Φ (hk : zK6 (zF_matchedNode s (xs (Int32.toNatClampNeg (x5 + 1)))) I1 R1 A1 (if (zF_matchedNode s (xs (Int32.toNatClampNeg (x5 + 1)))).1 = 0 then Int32.toInt64 (zF_matchedNode s (xs (Int32.toNatClampNeg (x5 + 1)))).2.1 else lo) dd Φ) => z6_matchedNode (L := L) (xs := xs) hok hm1 hk
  generalize zF_matchedNode s (xs (Int32.toNatClampNeg (x5 + 1))) = r at *
  refine vc_L_law_1332 ⟨i1, hz _ (fun I2 A2 y hm2 hg2 e0 hy => zk_r (vc_L_law_1344 (zC_en (vc_X6_thrown_0 (zk_r (vc_L_law_1350 (zt_tail e0 (fun z => ?_) (h _ (by split <;> omega) o1 w1 sp1 _ I2 R1 A2 _ _ _ _ _ hok2 (zS5_g6 hs1 hg2) hm2))))))))⟩
  by_cases q : r.1 = 0
  · rw [if_pos q, hy q]; exact lg_rf _
  · exact absurd z (hne q)
theorem zw_passOf (i1 : z_in (x5 + 1) L) (hok : zOK s) (hs : zS5 o w sp s I R A) (hm : zM6 s I A) (h : zNX L xs x5 Φ) : zC L xs mL_passOf [.ref 0, .int (xs (Int32.toNatClampNeg (x5 + 1))), .ref 123] (I, R, A, lo, dd) (z_kont [] (fun r τ Ψ => zW L xs mL_law 1388 [some (.ref 300), some (.ref 0), some (.ref 107), some (.ref 123), some (.ref 124), some (.int x5), y6, y7, y8] (r.toList ++ []) τ Ψ) Φ) := by
  have hok2 : zOK (zF_passOf s (xs (Int32.toNatClampNeg (x5 + 1)))).2.2 := zOK_passOf hok
  refine zl_passOf hok hs (fun o1 w1 sp1 I1 R1 A1 hs1 hg1 hne => ?_)
  have hm1 := zM6_g5 hm hg1
  have hz := fun Φ (hk : zK6 (zF_passOf s (xs (Int32.toNatClampNeg (x5 + 1)))) I1 R1 A1 (if (zF_passOf s (xs (Int32.toNatClampNeg (x5 + 1)))).1 = 0 then Int32.toInt64 (zF_passOf s (xs (Int32.toNatClampNeg (x5 + 1)))).2.1 else lo) dd Φ) => z6_passOf (L := L) (xs := xs) hok hm1 hk
  generalize zF_passOf s (xs (Int32.toNatClampNeg (x5 + 1))) = r at *
  refine vc_L_law_1388 ⟨i1, hz _ (fun I2 A2 y hm2 hg2 e0 hy => zk_r (vc_L_law_1400 (zC_en (vc_X6_thrown_0 (zk_r (vc_L_law_1406 (zt_tail e0 (fun z => ?_) (h _ (by split <;> omega) o1 w1 sp1 _ I2 R1 A2 _ _ _ _ _ hok2 (zS5_g6 hs1 hg2) hm2))))))))⟩
  by_cases q : r.1 = 0
  · rw [if_pos q, hy q]; exact lg_rf _
  · exact absurd z (hne q)
theorem zw_matches (i1 : z_in (x5 + 1) L) (hok : zOK s) (hs : zS5 o w sp s I R A) (hm : zM6 s I A) (h : zNX L xs x5 Φ) : zC L xs mL_matches [.ref 0, .int (xs (Int32.toNatClampNeg (x5 + 1))), .ref 123] (I, R, A, lo, dd) (z_kont [] (fun r τ Ψ => zW L xs mL_law 1444 [some (.ref 300), some (.ref 0), some (.ref 107), some (.ref 123), some (.ref 124), some (.int x5), y6, y7, y8] (r.toList ++ []) τ Ψ) Φ) := by
  have hok2 : zOK (zF_matches s (xs (Int32.toNatClampNeg (x5 + 1)))).2.2 := zOK_matches hok
  refine zl_matches hok hs (fun o1 w1 sp1 I1 R1 A1 hs1 hg1 hne => ?_)
  have hm1 := zM6_g5 hm hg1
  have hz := fun Φ (hk : zK6 (zF_matches s (xs (Int32.toNatClampNeg (x5 + 1)))) I1 R1 A1 (if (zF_matches s (xs (Int32.toNatClampNeg (x5 + 1)))).1 = 0 then Int32.toInt64 (zF_matches s (xs (Int32.toNatClampNeg (x5 + 1)))).2.1 else lo) dd Φ) => z6_matches (L := L) (xs := xs) hok hm1 hk
  generalize zF_matches s (xs (Int32.toNatClampNeg (x5 + 1))) = r at *
  refine vc_L_law_1444 ⟨i1, hz _ (fun I2 A2 y hm2 hg2 e0 hy => zk_r (vc_L_law_1456 (zC_en (vc_X6_thrown_0 (zk_r (vc_L_law_1462 (zt_tail e0 (fun z => ?_) (h _ (by split <;> omega) o1 w1 sp1 _ I2 R1 A2 _ _ _ _ _ hok2 (zS5_g6 hs1 hg2) hm2))))))))⟩
  by_cases q : r.1 = 0
  · rw [if_pos q, hy q]; exact lg_rf _
  · exact absurd z (hne q)
theorem zw_setCost (i1 : z_in (x5 + 1) L) (i2 : z_in (x5 + 2) L) (hok : zOK s) (hs : zS5 o w sp s I R A) (hm : zM6 s I A) (h : zNX L xs x5 Φ) : zC L xs mL_setCost [.ref 0, .int (xs (Int32.toNatClampNeg (x5 + 1))), .int (xs (Int32.toNatClampNeg (x5 + 2))), .ref 123] (I, R, A, lo, dd) (z_kont [] (fun r τ Ψ => zW L xs mL_law 1571 [some (.ref 300), some (.ref 0), some (.ref 107), some (.ref 123), some (.ref 124), some (.int x5), y6, y7, y8] (r.toList ++ []) τ Ψ) Φ) := by
  have hok2 : zOK (zF_setCost s (xs (Int32.toNatClampNeg (x5 + 1))) (xs (Int32.toNatClampNeg (x5 + 2)))).2.2 := zOK_setCost hok
  refine zl_setCost hok hs (fun o1 w1 sp1 I1 R1 A1 hs1 hg1 hne => ?_)
  have hm1 := zM6_g5 hm hg1
  have hz := fun Φ (hk : zK6 (zF_setCost s (xs (Int32.toNatClampNeg (x5 + 1))) (xs (Int32.toNatClampNeg (x5 + 2)))) I1 R1 A1 (if (zF_setCost s (xs (Int32.toNatClampNeg (x5 + 1))) (xs (Int32.toNatClampNeg (x5 + 2)))).1 = 0 then Int32.toInt64 (zF_setCost s (xs (Int32.toNatClampNeg (x5 + 1))) (xs (Int32.toNatClampNeg (x5 + 2)))).2.1 else lo) dd Φ) => z6_setCost (L := L) (xs := xs) hm1 hk
  generalize zF_setCost s (xs (Int32.toNatClampNeg (x5 + 1))) (xs (Int32.toNatClampNeg (x5 + 2))) = r at *
  refine vc_L_law_1571 ⟨i1, i2, hz _ (fun I2 A2 y hm2 hg2 e0 hy => zk_r (vc_L_law_1589 (zC_en (vc_X6_thrown_0 (zk_r (vc_L_law_1595 (zt_tail e0 (fun z => ?_) (h _ (by split <;> omega) o1 w1 sp1 _ I2 R1 A2 _ _ _ _ _ hok2 (zS5_g6 hs1 hg2) hm2))))))))⟩
  by_cases q : r.1 = 0
  · rw [if_pos q, hy q]; exact lg_rf _
  · exact absurd z (hne q)
theorem zw_operations (hok : zOK s) (hs : zS5 o w sp s I R A) (hm : zM6 s I A) (h : zNX L xs x5 Φ) : zC L xs mX5_operations [.ref 0] (I, R, A, lo, dd) (z_kont [] (fun r τ Ψ => zW L xs mL_law 1626 [some (.ref 300), some (.ref 0), some (.ref 107), some (.ref 123), some (.ref 124), some (.int x5), y6, y7, y8] (r.toList ++ []) τ Ψ) Φ) := by
  refine z5_operations hok hs (fun o1 w1 sp1 I1 R1 A1 hs1 hg1 => ⟨fun _ => zk_r (vc_L_law_1626 (z6_operations hok (s := s) (zM6_g5 hm hg1) (fun I2 A2 y hm2 hg2 e0 hy => zk_r (vc_L_law_1630 ⟨fun _ => ?_, fun q => absurd (hy rfl).symm q⟩)))), fun q => absurd rfl q⟩)
  exact zw_z (h 0 (by decide) o1 w1 sp1 _ I2 R1 A2 _ _ _ _ _ hok (zS5_g6 hs1 hg2) hm2)
theorem zw_operation (i1 : z_in (x5 + 1) L) (i2 : z_in (x5 + 2) L) (hok : zOK s) (hs : zS5 o w sp s I R A) (hm : zM6 s I A) (h : zNX L xs x5 Φ) : zC L xs mL_operation [.ref 0, .int (xs (Int32.toNatClampNeg (x5 + 1))), .int (xs (Int32.toNatClampNeg (x5 + 2))), .ref 123] (I, R, A, lo, dd) (z_kont [] (fun r τ Ψ => zW L xs mL_law 1652 [some (.ref 300), some (.ref 0), some (.ref 107), some (.ref 123), some (.ref 124), some (.int x5), y6, y7, y8] (r.toList ++ []) τ Ψ) Φ) := by
  have hok2 : zOK (zF_operation s (xs (Int32.toNatClampNeg (x5 + 1))) (xs (Int32.toNatClampNeg (x5 + 2)))).2.2 := zOK_operation hok
  refine zl_operation hok hs (fun o1 w1 sp1 I1 R1 A1 hs1 hg1 hne => ?_)
  have hm1 := zM6_g5 hm hg1
  have hz := fun Φ (hk : zK6 (zF_operation s (xs (Int32.toNatClampNeg (x5 + 1))) (xs (Int32.toNatClampNeg (x5 + 2)))) I1 R1 A1 (if (zF_operation s (xs (Int32.toNatClampNeg (x5 + 1))) (xs (Int32.toNatClampNeg (x5 + 2)))).1 = 0 then Int32.toInt64 (zF_operation s (xs (Int32.toNatClampNeg (x5 + 1))) (xs (Int32.toNatClampNeg (x5 + 2)))).2.1 else lo) dd Φ) => z6_operation (L := L) (xs := xs) hok hm1 hk
  generalize zF_operation s (xs (Int32.toNatClampNeg (x5 + 1))) (xs (Int32.toNatClampNeg (x5 + 2))) = r at *
  refine vc_L_law_1652 ⟨i1, i2, hz _ (fun I2 A2 y hm2 hg2 e0 hy => zk_r (vc_L_law_1670 (zC_en (vc_X6_thrown_0 (zk_r (vc_L_law_1676 (zt_tail e0 (fun z => ?_) (h _ (by split <;> omega) o1 w1 sp1 _ I2 R1 A2 _ _ _ _ _ hok2 (zS5_g6 hs1 hg2) hm2))))))))⟩
  by_cases q : r.1 = 0
  · rw [if_pos q, hy q]; exact lg_rf _
  · exact absurd z (hne q)
theorem zw_operationsOf (i1 : z_in (x5 + 1) L) (hok : zOK s) (hs : zS5 o w sp s I R A) (hm : zM6 s I A) (h : zNX L xs x5 Φ) : zC L xs mL_operationsOf [.ref 0, .int (xs (Int32.toNatClampNeg (x5 + 1))), .ref 123] (I, R, A, lo, dd) (z_kont [] (fun r τ Ψ => zW L xs mL_law 1714 [some (.ref 300), some (.ref 0), some (.ref 107), some (.ref 123), some (.ref 124), some (.int x5), y6, y7, y8] (r.toList ++ []) τ Ψ) Φ) := by
  have hok2 : zOK (zF_operationsOf s (xs (Int32.toNatClampNeg (x5 + 1)))).2.2 := zOK_operationsOf hok
  refine zl_operationsOf hok hs (fun o1 w1 sp1 I1 R1 A1 hs1 hg1 hne => ?_)
  have hm1 := zM6_g5 hm hg1
  have hz := fun Φ (hk : zK6 (zF_operationsOf s (xs (Int32.toNatClampNeg (x5 + 1)))) I1 R1 A1 (if (zF_operationsOf s (xs (Int32.toNatClampNeg (x5 + 1)))).1 = 0 then Int32.toInt64 (zF_operationsOf s (xs (Int32.toNatClampNeg (x5 + 1)))).2.1 else lo) dd Φ) => z6_operationsOf (L := L) (xs := xs) hok hm1 hk
  generalize zF_operationsOf s (xs (Int32.toNatClampNeg (x5 + 1))) = r at *
  refine vc_L_law_1714 ⟨i1, hz _ (fun I2 A2 y hm2 hg2 e0 hy => zk_r (vc_L_law_1726 (zC_en (vc_X6_thrown_0 (zk_r (vc_L_law_1732 (zt_tail e0 (fun z => ?_) (h _ (by split <;> omega) o1 w1 sp1 _ I2 R1 A2 _ _ _ _ _ hok2 (zS5_g6 hs1 hg2) hm2))))))))⟩
  by_cases q : r.1 = 0
  · rw [if_pos q, hy q]; exact lg_rf _
  · exact absurd z (hne q)
theorem zw_cost (hok : zOK s) (hs : zS5 o w sp s I R A) (hm : zM6 s I A) (h : zNX L xs x5 Φ) : zC L xs mX5_cost [.ref 0] (I, R, A, lo, dd) (z_kont [] (fun r τ Ψ => zW L xs mL_law 1763 [some (.ref 300), some (.ref 0), some (.ref 107), some (.ref 123), some (.ref 124), some (.int x5), y6, y7, y8] (r.toList ++ []) τ Ψ) Φ) := by
  refine z5_cost hok hs (fun o1 w1 sp1 I1 R1 A1 hs1 hg1 => ⟨fun _ => zk_r (vc_L_law_1763 (z6_cost hok (s := s) (zM6_g5 hm hg1) (fun I2 A2 y hm2 hg2 e0 hy => zk_r (vc_L_law_1767 ⟨fun _ => ?_, fun q => absurd (hy rfl).symm q⟩)))), fun q => absurd rfl q⟩)
  exact zw_z (h 0 (by decide) o1 w1 sp1 _ I2 R1 A2 _ _ _ _ _ hok (zS5_g6 hs1 hg2) hm2)
theorem zw_costBack (hok : zOK s) (hs : zS5 o w sp s I R A) (hm : zM6 s I A) (h : zNX L xs x5 Φ) : zC L xs mX5_costBack [.ref 0] (I, R, A, lo, dd) (z_kont [] (fun r τ Ψ => zW L xs mL_law 1776 [some (.ref 300), some (.ref 0), some (.ref 107), some (.ref 123), some (.ref 124), some (.int x5), y6, y7, y8] (r.toList ++ []) τ Ψ) Φ) := by
  refine z5_costBack hok hs (fun o1 w1 sp1 I1 R1 A1 hs1 hg1 => ⟨fun _ => zk_r (vc_L_law_1776 (z6_costBack hok (s := s) (zM6_g5 hm hg1) (fun I2 A2 y hm2 hg2 e0 hy => zk_r (vc_L_law_1780 ⟨fun _ => ?_, fun q => absurd (hy rfl).symm q⟩)))), fun q => absurd rfl q⟩)
  exact zw_z (h 0 (by decide) o1 w1 sp1 _ I2 R1 A2 _ _ _ _ _ hok (zS5_g6 hs1 hg2) hm2)
theorem zw_present (i1 : z_in (x5 + 1) L) (hok : zOK s) (hs : zS5 o w sp s I R A) (hm : zM6 s I A) (h : zNX L xs x5 Φ) : zC L xs mL_present [.ref 0, .int (xs (Int32.toNatClampNeg (x5 + 1))), .ref 123] (I, R, A, lo, dd) (z_kont [] (fun r τ Ψ => zW L xs mL_law 1796 [some (.ref 300), some (.ref 0), some (.ref 107), some (.ref 123), some (.ref 124), some (.int x5), y6, y7, y8] (r.toList ++ []) τ Ψ) Φ) := by
  have hok2 : zOK (zF_present s (xs (Int32.toNatClampNeg (x5 + 1)))).2.2 := zOK_present hok
  refine zl_present hok hs (fun o1 w1 sp1 I1 R1 A1 hs1 hg1 hne => ?_)
  have hm1 := zM6_g5 hm hg1
  have hz := fun Φ (hk : zK6 (zF_present s (xs (Int32.toNatClampNeg (x5 + 1)))) I1 R1 A1 (if (zF_present s (xs (Int32.toNatClampNeg (x5 + 1)))).1 = 0 then Int32.toInt64 (zF_present s (xs (Int32.toNatClampNeg (x5 + 1)))).2.1 else lo) dd Φ) => z6_present (L := L) (xs := xs) hok hm1 hk
  generalize zF_present s (xs (Int32.toNatClampNeg (x5 + 1))) = r at *
  refine vc_L_law_1796 ⟨i1, hz _ (fun I2 A2 y hm2 hg2 e0 hy => zk_r (vc_L_law_1808 (zC_en (vc_X6_thrown_0 (zk_r (vc_L_law_1814 (zt_tail e0 (fun z => ?_) (h _ (by split <;> omega) o1 w1 sp1 _ I2 R1 A2 _ _ _ _ _ hok2 (zS5_g6 hs1 hg2) hm2))))))))⟩
  by_cases q : r.1 = 0
  · rw [if_pos q, hy q]; exact lg_rf _
  · exact absurd z (hne q)
theorem zw_agreement (i1 : z_in (x5 + 1) L) (hok : zOK s) (hs : zS5 o w sp s I R A) (hm : zM6 s I A) (h : zNX L xs x5 Φ) : zC L xs mL_agreement [.ref 0, .int (xs (Int32.toNatClampNeg (x5 + 1))), .ref 123] (I, R, A, lo, dd) (z_kont [] (fun r τ Ψ => zW L xs mL_law 1852 [some (.ref 300), some (.ref 0), some (.ref 107), some (.ref 123), some (.ref 124), some (.int x5), y6, y7, y8] (r.toList ++ []) τ Ψ) Φ) := by
  have hok2 : zOK (zF_agreement s (xs (Int32.toNatClampNeg (x5 + 1)))).2.2 := zOK_agreement hok
  refine zl_agreement hok hs (fun o1 w1 sp1 I1 R1 A1 hs1 hg1 hne => ?_)
  have hm1 := zM6_g5 hm hg1
  have hz := fun Φ (hk : zK6 (zF_agreement s (xs (Int32.toNatClampNeg (x5 + 1)))) I1 R1 A1 (if (zF_agreement s (xs (Int32.toNatClampNeg (x5 + 1)))).1 = 0 then Int32.toInt64 (zF_agreement s (xs (Int32.toNatClampNeg (x5 + 1)))).2.1 else lo) dd Φ) => z6_agreement (L := L) (xs := xs) hok hm1 hk
  generalize zF_agreement s (xs (Int32.toNatClampNeg (x5 + 1))) = r at *
  refine vc_L_law_1852 ⟨i1, hz _ (fun I2 A2 y hm2 hg2 e0 hy => zk_r (vc_L_law_1864 (zC_en (vc_X6_thrown_0 (zk_r (vc_L_law_1870 (zt_tail e0 (fun z => ?_) (h _ (by split <;> omega) o1 w1 sp1 _ I2 R1 A2 _ _ _ _ _ hok2 (zS5_g6 hs1 hg2) hm2))))))))⟩
  by_cases q : r.1 = 0
  · rw [if_pos q, hy q]; exact lg_rf _
  · exact absurd z (hne q)
theorem zw_readyAfter (i1 : z_in (x5 + 1) L) (hok : zOK s) (hs : zS5 o w sp s I R A) (hm : zM6 s I A) (h : zNX L xs x5 Φ) : zC L xs mL_readyAfter [.ref 0, .int (xs (Int32.toNatClampNeg (x5 + 1))), .ref 123] (I, R, A, lo, dd) (z_kont [] (fun r τ Ψ => zW L xs mL_law 1908 [some (.ref 300), some (.ref 0), some (.ref 107), some (.ref 123), some (.ref 124), some (.int x5), y6, y7, y8] (r.toList ++ []) τ Ψ) Φ) := by
  have hok2 : zOK (zF_readyAfter s (xs (Int32.toNatClampNeg (x5 + 1)))).2.2 := zOK_readyAfter hok
  refine zl_readyAfter hok hs (fun o1 w1 sp1 I1 R1 A1 hs1 hg1 hne => ?_)
  have hm1 := zM6_g5 hm hg1
  have hz := fun Φ (hk : zK6 (zF_readyAfter s (xs (Int32.toNatClampNeg (x5 + 1)))) I1 R1 A1 (if (zF_readyAfter s (xs (Int32.toNatClampNeg (x5 + 1)))).1 = 0 then Int32.toInt64 (zF_readyAfter s (xs (Int32.toNatClampNeg (x5 + 1)))).2.1 else lo) dd Φ) => z6_readyAfter (L := L) (xs := xs) hok hm1 hk
  generalize zF_readyAfter s (xs (Int32.toNatClampNeg (x5 + 1))) = r at *
  refine vc_L_law_1908 ⟨i1, hz _ (fun I2 A2 y hm2 hg2 e0 hy => zk_r (vc_L_law_1920 (zC_en (vc_X6_thrown_0 (zk_r (vc_L_law_1926 (zt_tail e0 (fun z => ?_) (h _ (by split <;> omega) o1 w1 sp1 _ I2 R1 A2 _ _ _ _ _ hok2 (zS5_g6 hs1 hg2) hm2))))))))⟩
  by_cases q : r.1 = 0
  · rw [if_pos q, hy q]; exact lg_rf _
  · exact absurd z (hne q)
theorem zw_fileCost (hok : zOK s) (hs : zS5 o w sp s I R A) (hm : zM6 s I A) (h : zNX L xs x5 Φ) : zC L xs mX5_fileCost [.ref 0] (I, R, A, lo, dd) (z_kont [] (fun r τ Ψ => zW L xs mL_law 1970 [some (.ref 300), some (.ref 0), some (.ref 107), some (.ref 123), some (.ref 124), some (.int x5), y6, y7, y8] (r.toList ++ []) τ Ψ) Φ) := by
  refine z5_fileCost hok hs (fun o1 w1 sp1 I1 R1 A1 hs1 hg1 => ⟨fun _ => zk_r (vc_L_law_1970 (z6_fileCost hok (s := s) (zM6_g5 hm hg1) (fun I2 A2 y hm2 hg2 e0 hy => zk_r (vc_L_law_1974 ⟨fun _ => ?_, fun q => absurd (hy rfl).symm q⟩)))), fun q => absurd rfl q⟩)
  exact zw_z (h 0 (by decide) o1 w1 sp1 _ I2 R1 A2 _ _ _ _ _ hok (zS5_g6 hs1 hg2) hm2)
theorem zw_swap (hok : zOK s) (hs : zS5 o w sp s I R A) (hm : zM6 s I A) (h : zNX L xs x5 Φ) : zC L xs mX5_swap [.ref 0] (I, R, A, lo, dd) (z_kont [] (fun r τ Ψ => zW L xs mL_law 1258 [some (.ref 300), some (.ref 0), some (.ref 107), some (.ref 123), some (.ref 124), some (.int x5), y6, y7, y8] (r.toList ++ []) τ Ψ) Φ) := by
  refine z5_swap hs (fun I1 R1 hs1 hg1 => zk_r (vc_L_law_1258 (z6_swap hok (zM6_g5 hm hg1) (fun I2 A2 hm2 hg2 => zk_r (vc_L_law_1262 ?_)))))
  exact zw_z (h 0 (by decide) w o sp _ I2 R1 A2 _ _ _ _ _ (zOK_swap hok) (zS5_g6 hs1 hg2) hm2)
theorem zw_similarity (hok : zOK s) (hs : zS5 o w sp s I R A) (hm : zM6 s I A) (h : zNX L xs x5 Φ) : zC L xs mL_similarity [.ref 0, .ref 124] (I, R, A, lo, dd) (z_kont [] (fun r τ Ψ => zW L xs mL_law 1495 [some (.ref 300), some (.ref 0), some (.ref 107), some (.ref 123), some (.ref 124), some (.int x5), y6, y7, y8] (r.toList ++ []) τ Ψ) Φ) := by
  refine zC_en (vc_L_similarity_0 (z5_similarity hok hs (fun hN I1 R1 A1 hs1 hg1 => zk_r (vc_L_similarity_6 (zk_r (vc_L_law_1495 ?_)))) (fun hN => zk_h rfl ?_)))
  · refine z6_similarity hok (zM6_g5 hm hg1) (fun _ I2 A2 hm2 hg2 e0 => ?_) (fun z => absurd hN z)
    refine zk_r (vc_L_law_1501 (zC_en (vc_X6_thrown_0 (zk_r (vc_L_law_1507 ⟨fun _ => ⟨fun _ => ⟨fun _ => ?_, fun q => absurd (zsv_ok hok hN).2.2.2 q⟩, fun q => absurd rfl q⟩, fun q => absurd e0 q⟩)))))
    exact zw_z (h 0 (by decide) o w sp _ I2 R1 A2 _ _ _ _ _ hok (zS5_g6 hs1 hg2) hm2)
  · show zW L xs mL_law 1495 [some (.ref 300), some (.ref 0), some (.ref 107), some (.ref 123), some (.ref 124), some (.int x5), y6, y7, y8] [.int 1] (I, R, A, lo, dd) (fun o τ t => Φ o τ (1 + t))
    refine vc_L_law_1495 (z6_similarity hok hm (fun z => absurd z hN) (fun _ I2 A2 hm2 hg2 e0 => ?_))
    exact zk_r (vc_L_law_1501 (zC_en (vc_X6_thrown_0 (zk_r (vc_L_law_1507 ⟨fun _ => ⟨fun q => absurd q (by decide), fun _ => h 1 (by decide) o w sp _ I2 R A2 _ _ _ _ _ hok (zS5_g6 hs hg2) hm2⟩, fun q => absurd e0 q⟩)))))
theorem zw_leastFileCost (hok : zOK s) (hs : zS5 o w sp s I R A) (hm : zM6 s I A) (h : zNX L xs x5 Φ) : zC L xs mX5_leastFileCost [.ref 0] (I, R, A, lo, dd) (z_kont [] (fun r τ Ψ => zW L xs mL_law 1957 [some (.ref 300), some (.ref 0), some (.ref 107), some (.ref 123), some (.ref 124), some (.int x5), y6, y7, y8] (r.toList ++ []) τ Ψ) Φ) := by
  refine z5_leastFileCost hok hs (fun I1 R1 A1 K U V hs1 hg1 hq => zk_r (vc_L_law_1957 (z6_leastFileCost hok (zM6_g5 hm hg1) (fun I2 A2 T p q hm2 hg2 t1 t2 t3 => zk_r (vc_L_law_1961 ⟨fun _ => ?_, fun z => absurd ?_ z⟩)))))
  · exact zw_z (h 0 (by decide) o w sp _ I2 R1 A2 _ _ _ _ _ hok (zS5_g6 hs1 hg2) hm2)
  · rw [zfc_eq hq t1 t2 t3]
end
