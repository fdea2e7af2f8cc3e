/-! the class's Script: explain, and what is asked of it -/
theorem zops_kind {v u : zV} {sp sn : zM} {e : zOp} (h : e ∈ zops v u sp sn) : e.1 ≤ 10 := by
  unfold zops at h
  simp only [List.mem_append] at h
  rcases h with (((((h | h) | h) | h) | h) | h) | h
  · obtain ⟨i, _, h⟩ := zfm_mem h; rw [(zm0 h).1]; simp
  · obtain ⟨i, _, h⟩ := zfm_mem h; obtain ⟨j, k, _, _, h2, rfl⟩ := zm12 h; show k ≤ 10; omega
  · obtain ⟨i, _, h⟩ := zfm_mem h; rw [(zm3 h).1]; simp
  · obtain ⟨i, _, h⟩ := zfm_mem h; rw [(zm4 h).1]; simp
  · obtain ⟨i, _, h⟩ := zfm_mem h; obtain ⟨j, k, _, h2, rfl⟩ := zm58 h; show 5 + k ≤ 10; omega
  · obtain ⟨i, _, h⟩ := zfm_mem h; rw [(zm9 h).1]; simp
  · rw [zm10 h]; decide
def cSr (f : Nat) (v u : zV) (sp sn : zM) (I A : Nat → Nat → Int32) : Prop := cSc f (zops v u sp sn) I A ∧ (∀ j, j < vP u → A (f + 4) j = nI (zl (zq13 j) (zops v u sp sn))) ∧ (∀ j, j < vN u → A (f + 5) j = nI (zl (zq48 j) (zops v u sp sn)))
theorem zlf_le (p : Nat → Bool) (n : Nat) : zlf p n ≤ n := by
  induction n with
  | zero => exact Nat.le_refl _
  | succ n ih => unfold zlf; split <;> omega
theorem zl_le (p : zOp → Bool) (l : List zOp) : zl p l ≤ l.length := zlf_le _ _
def zcs (co : Nat → Int32) (l : List zOp) : Nat → Int32
  | 0 => 0
  | n + 1 => zcs co l n + co (zat l n).1
def zps (v : zV) (l : List zOp) : Nat → Int32
  | 0 => nI (vN v)
  | n + 1 => if (zat l n).1 = 0 then zps v l n - nI (zcnt (fun m => decide (some (vhom v m) = (zat l n).2.1)) (vN v)) else if (zat l n).1 = 4 then zps v l n + 1 else if (zat l n).1 = 9 then zps v l n + (-1) else zps v l n
def zun (v u : zV) (sp sn : zM) (i : Nat) : Bool := match sn.1 i with
  | none => false
  | some j => !(zneed v u sp.1 sn.1 5 i j) && !(zneed v u sp.1 sn.1 6 i j) && !(zneed v u sp.1 sn.1 7 i j) && !(zneed v u sp.1 sn.1 8 i j)
section
variable {L : Nat} {xs : Nat → Int32} {I : Nat → Nat → Int32} {R : Nat → Nat → Option Nat} {A : Nat → Nat → Int32} {lo : Int64} {dd : UInt64} {Φ : zPo} {b a d f : Nat} {v u : zV} {sp : zM} {sn : zMn}
theorem s4_explain (hf : z_fb f) (hd : z_db d) (hb : z_ib b) (ha : z_ib a) (hRb : R d 0 = some b) (hRa : R d 1 = some a) (hE : zEn b a d v u sp sn I A) (hwf : zwf v) (hwu : zwf u) (hmp : zmo (vP v) (vP u) sp) (hm : zmo (vN v) (vN u) sn.1) (h : ∀ I' A' : Nat → Nat → Int32, (∀ c, c ≠ f → I' c = I c) → (∀ c, ¬ (f + 1 ≤ c ∧ c ≤ f + 5) → A' c = A c) → cSr f v u sp sn.1 I' A' → Φ (.inl none) (I', R, A', lo, dd) 0) : zC L xs mX4_explain [.ref f, .ref d] (I, R, A, lo, dd) Φ := by
  have h54 := z_fb_54 hf
  have h45 := z_ib_45 hb
  have h45a := z_ib_45 ha
  have h48 := z_db_48 hd
  have hT := zops_le v u sp sn.1 hmp hm hwf.1 hwu.1 hwf.2.1 hwu.2.1
  have hTl : (zops v u sp sn.1).length = (zs1 v sp).length + (zs2 v u sp).length + (zs3 u sp).length + (zs4 u sn.1).length + (zs5 v u sp sn.1).length + (zs6 v sp sn.1).length + (zo10 v u).length := by unfold zops; simp only [List.length_append]
  refine zC_en (vc_X4_explain_0 hf hd ?_)
  have F0 : zFr f 1 I A (z_up I f 0 0) A := ⟨fun c hc => by funext j; rw [zup_n (fun q => hc q.1)], fun _ _ _ _ _ => rfl⟩
  have hE0 := zEn_fr hb ha hd hf (by decide) hE F0
  refine s4_removePartitions hf hd hb ha hRb hE0 hwf.1 hwu.1 hmp zup_s (fun I1 A1 f1 g1 => zk_r (vc_X4_explain_10 hf hd ?_))
  have hE1 := zEn_fr hb ha hd hf (by decide) hE0 f1
  refine s4_changePartitions hf hd hb ha hRb hRa hE1 hwf.1 hwu.1 hmp (by rw [List.length_append]; omega) g1 (fun I2 A2 f2 g2 r2 => zk_r (vc_X4_explain_15 hf hd ?_))
  have hE2 := zEn_fr hb ha hd hf (by decide) hE1 f2
  refine s4_addPartitions hf hd hb ha hRa hE2 hwu.1 hwf.1 hmp (by rw [List.length_append, List.length_append, show ((List.range (vP u)).flatMap (zo3 sp.2)) = zs3 u sp from rfl]; omega) g2 r2 (fun I3 A3 f3 g3 r3 => zk_r (vc_X4_explain_20 hf hd ?_))
  have hE3 := zEn_fr hb ha hd hf (by decide) hE2 f3
  refine s4_createNodes hf hd hb ha hRa hE3 hwu.2.1 hwf.2.1 hm (by rw [List.length_append, List.length_append, List.length_append, show ((List.range (vN u)).flatMap (zo4 sn.1.2)) = zs4 u sn.1 from rfl]; omega) g3 (fun I4 A4 f4 g4 r4 => zk_r (vc_X4_explain_25 hf hd ?_))
  have hE4 := zEn_fr hb ha hd hf (by decide) hE3 f4
  refine s4_changeNodes hf hd hb ha hRb hRa hE4 hwf hwu hmp hm (by rw [List.length_append, List.length_append, List.length_append, List.length_append]; omega) g4 ?_ r4 (fun I5 A5 f5 g5 r5 => zk_r (vc_X4_explain_30 hf hd ?_))
  · intro e he j hj
    simp only [List.mem_append] at he
    rcases he with ((he | he) | he) | he
    · obtain ⟨i, _, he⟩ := zfm_mem he; rw [(zm0 he).1]; rfl
    · obtain ⟨i, _, he⟩ := zfm_mem he; obtain ⟨j', k, _, _, h2, rfl⟩ := zm12 he; simp [zq48]; omega
    · obtain ⟨i, _, he⟩ := zfm_mem he; rw [(zm3 he).1]; rfl
    · obtain ⟨i, _, he⟩ := zfm_mem he
      obtain ⟨h1, h2⟩ := zm4 he
      rw [h1]
      have : i ≠ j := fun z => hj (by rw [← z]; exact h2)
      simp [zq48, this]
  have hE5 := zEn_fr hb ha hd hf (by decide) hE4 f5
  refine s4_deleteNodes hf hd hb ha hRb hE5 hwf hwu hmp hm (by rw [List.length_append, List.length_append, List.length_append, List.length_append, List.length_append]; omega) g5 (fun I6 A6 f6 g6 => zk_r (vc_X4_explain_35 hf hd hb ha hRb hRa ?_))
  obtain ⟨⟨hS, -⟩, ⟨hS', -⟩, -, -⟩ := zEn_fr hb ha hd hf (by decide) hE5 f6
  have FI : ∀ c, c ≠ f → I6 c = I c := fun c hc => by rw [f6.1 c hc, f5.1 c hc, f4.1 c hc, f3.1 c hc, f2.1 c hc, f1.1 c hc, F0.1 c hc]
  have FA : ∀ c, ¬ (f + 1 ≤ c ∧ c ≤ f + 5) → A6 c = A c := fun c hc => by rw [f6.2 c (by omega) (by omega) (by omega) (by omega), f5.2 c (by omega) (by omega) (by omega) (by omega), f4.2 c (by omega) (by omega) (by omega) (by omega), f3.2 c (by omega) (by omega) (by omega) (by omega), f2.2 c (by omega) (by omega) (by omega) (by omega), f1.2 c (by omega) (by omega) (by omega) (by omega)]
  have R4 : A6 (f + 4) = A3 (f + 4) := by rw [f6.2 _ (by omega) (by omega) (by omega) (by omega), f5.2 _ (by omega) (by omega) (by omega) (by omega), f4.2 _ (by omega) (by omega) (by omega) (by omega)]
  have R5 : A6 (f + 5) = A5 (f + 5) := f6.2 _ (by omega) (by omega) (by omega) (by omega)
  have q13 : ∀ j, zl (zq13 j) (zops v u sp sn.1) = zl (zq13 j) (zs1 v sp ++ zs2 v u sp ++ zs3 u sp) := by
    intro j
    unfold zops
    rw [show zs1 v sp ++ zs2 v u sp ++ zs3 u sp ++ zs4 u sn.1 ++ zs5 v u sp sn.1 ++ zs6 v sp sn.1 ++ zo10 v u = (zs1 v sp ++ zs2 v u sp ++ zs3 u sp) ++ (zs4 u sn.1 ++ zs5 v u sp sn.1 ++ zs6 v sp sn.1 ++ zo10 v u) by simp only [List.append_assoc]]
    refine zl_no (fun e he => ?_)
    simp only [List.mem_append] at he
    rcases he with ((he | he) | he) | he
    · obtain ⟨i, _, he⟩ := zfm_mem he; rw [(zm4 he).1]; rfl
    · obtain ⟨i, _, he⟩ := zfm_mem he; obtain ⟨j', k, _, h2, rfl⟩ := zm58 he; simp [zq13]; omega
    · obtain ⟨i, _, he⟩ := zfm_mem he; rw [(zm9 he).1]; rfl
    · rw [zm10 he]; rfl
  have q48 : ∀ j, zl (zq48 j) (zops v u sp sn.1) = zl (zq48 j) (zs1 v sp ++ zs2 v u sp ++ zs3 u sp ++ zs4 u sn.1 ++ zs5 v u sp sn.1) := by
    intro j
    unfold zops
    rw [List.append_assoc (zs1 v sp ++ zs2 v u sp ++ zs3 u sp ++ zs4 u sn.1 ++ zs5 v u sp sn.1)]
    refine zl_no (fun e he => ?_)
    simp only [List.mem_append] at he
    rcases he with he | he
    · obtain ⟨i, _, he⟩ := zfm_mem he; rw [(zm9 he).1]; rfl
    · rw [zm10 he]; rfl
  have hgo : ∀ I' A' : Nat → Nat → Int32, (∀ c, c ≠ f → I' c = I6 c) → (∀ c, c ≠ f + 1 → c ≠ f + 2 → c ≠ f + 3 → A' c = A6 c) → cSc f (zops v u sp sn.1) I' A' → Φ (.inl none) (I', R, A', lo, dd) 0 := by
    intro I' A' hi ha' hs
    refine h I' A' (fun c hc => by rw [hi c hc, FI c hc]) (fun c hc => by rw [ha' c (by omega) (by omega) (by omega), FA c hc]) ⟨hs, fun j hj => ?_, fun j hj => ?_⟩
    · rw [ha' _ (by omega) (by omega) (by omega), R4, q13]
      exact r3 j hj
    · rw [ha' _ (by omega) (by omega) (by omega), R5, q48]
      exact r5 j hj
  have hc' := g6.1
  have hll : (zs1 v sp ++ zs2 v u sp ++ zs3 u sp ++ zs4 u sn.1 ++ zs5 v u sp sn.1 ++ zs6 v sp sn.1).length = (zs1 v sp).length + (zs2 v u sp).length + (zs3 u sp).length + (zs4 u sn.1).length + (zs5 v u sp sn.1).length + (zs6 v sp sn.1).length := by simp only [List.length_append]
  have hzz : zops v u sp sn.1 = (zs1 v sp ++ zs2 v u sp ++ zs3 u sp ++ zs4 u sn.1 ++ zs5 v u sp sn.1 ++ zs6 v sp sn.1) ++ zo10 v u := rfl
  generalize (zs1 v sp ++ zs2 v u sp ++ zs3 u sp ++ zs4 u sn.1 ++ zs5 v u sp sn.1 ++ zs6 v sp sn.1) = dn at g6 hc' hll hzz
  rw [hS, hS']
  simp (disch := omega) only [ze_lit, pk_mul, nI_add, nI_clamp, ze_inI, nI_ltI, nI_eq, hc']
  refine ⟨fun q => hgo _ _ (fun _ _ => rfl) (fun _ _ _ _ => rfl) (by rw [hzz, zo10, if_pos q, List.append_nil]; exact g6), fun q => ?_⟩
  have hz : zo10 v u = [(10, none, none)] := if_neg q
  rw [hz, show [((10, none, none) : zOp)].length = 1 from rfl] at hTl
  refine ⟨fun _ => ⟨by omega, by omega, by omega, hgo _ _ (fun c hc => ?_) (fun c c1 c2 c3 => ?_) ?_⟩, fun z => absurd (by omega) z⟩
  · funext j
    rw [zup_n (fun q => hc q.1)]
  · funext j
    rw [zup_n (fun q => c3 q.1), zup_n (fun q => c2 q.1), zup_n (fun q => c1 q.1)]
  · rw [hzz, hz]
    exact cSc_put g6 rfl rfl rfl
theorem s4_countOf (hf : z_fb f) {l : List zOp} (hc : cSc f l I A) (hl : l.length ≤ 105) (hk : ∀ e, e ∈ l → e.1 ≤ 10) {k : Nat} (hk10 : k ≤ 10) (h : Φ (.inl (some (.int (nI (zcnt (fun i => decide ((zat l i).1 = k)) l.length))))) (I, R, A, lo, dd) 0) : zC L xs mX4_countOf [.ref f, .int (nI k)] (I, R, A, lo, dd) Φ := by
  refine zC_en (vc_X4_countOf_0 hf ?_)
  refine ze_up (P := fun i => zW L xs mX4_countOf 4 [some (.ref f), some (.int (nI k)), some (.int (nI (zcnt (fun i => decide ((zat l i).1 = k)) i))), some (.int (nI i))] [] (I, R, A, lo, dd) Φ) (n := l.length) ?_ ?_ 0 (Nat.zero_le _)
  · refine vc_X4_countOf_4 hf ?_
    rw [hc.1]
    simp (disch := omega) only [ze_lit, pk_mul, nI_add, nI_clamp, ze_inI, nI_ltI, nI_eq]
    exact ⟨fun q => absurd q (Nat.lt_irrefl _), fun _ => h⟩
  · intro i hi ih
    have hz := hk _ (zat_mem hi)
    have hv := (hc.2 i hi).1
    refine vc_X4_countOf_4 hf ?_
    rw [hc.1]
    simp (disch := omega) only [ze_lit, pk_mul, nI_add, nI_clamp, ze_inI, nI_ltI, nI_eq, hv]
    unfold zcnt at ih
    exact ⟨fun _ => ⟨by omega, fun q => by rw [if_pos (decide_eq_true q)] at ih; exact ih, fun q => by rw [if_neg (by simpa using q)] at ih; exact ih⟩, fun q => absurd hi q⟩
theorem s4_costWith (hf : z_fb f) {l : List zOp} (hc : cSc f l I A) (hl : l.length ≤ 105) (hk : ∀ e, e ∈ l → e.1 ≤ 10) {co : Nat → Int32} (hco : ∀ k, k < 11 → A 47 k = co k) (h : Φ (.inl (some (.int (zcs co l l.length)))) (I, R, A, lo, dd) 0) : zC L xs mX4_costWith [.ref f, .ref 47] (I, R, A, lo, dd) Φ := by
  refine zC_en (vc_X4_costWith_0 hf ?_)
  refine ze_up (P := fun i => zW L xs mX4_costWith 4 [some (.ref f), some (.ref 47), some (.int (zcs co l i)), some (.int (nI i))] [] (I, R, A, lo, dd) Φ) (n := l.length) ?_ ?_ 0 (Nat.zero_le _)
  · refine vc_X4_costWith_4 hf ?_
    rw [hc.1]
    simp (disch := omega) only [ze_lit, pk_mul, nI_add, nI_clamp, ze_inI, nI_ltI, nI_eq]
    exact ⟨fun q => absurd q (Nat.lt_irrefl _), fun _ => h⟩
  · intro i hi ih
    have hz := hk _ (zat_mem hi)
    have hv := (hc.2 i hi).1
    have hw := hco (zat l i).1 (by omega)
    refine vc_X4_costWith_4 hf ?_
    rw [hc.1]
    simp (disch := omega) only [ze_lit, pk_mul, nI_add, nI_clamp, ze_inI, nI_ltI, nI_eq, hv, hw]
    exact ⟨fun _ => ⟨by omega, by omega, ih⟩, fun q => absurd hi q⟩
theorem s4_presentAfter (hf : z_fb f) (hb : z_ib b) (hv : cIm b v I A) (hwf : zwf v) {l : List zOp} (hc : cSc f l I A) (hl : l.length ≤ 105) (hk : ∀ e, e ∈ l → e.1 ≤ 10) (hk0 : ∀ e, e ∈ l → e.1 = 0 → ∃ p, e.2.1 = some p ∧ p < 4) {n : Nat} (hn : n ≤ l.length) (h : Φ (.inl (some (.int (zps v l n)))) (I, R, A, lo, dd) 0) : zC L xs mX4_presentAfter [.ref f, .int (nI n), .ref b] (I, R, A, lo, dd) Φ := by
  refine zC_en (vc_X4_presentAfter_0 hf hb ?_)
  rw [hv.2.2.1]
  refine ze_up (P := fun i => zW L xs mX4_presentAfter 8 [some (.ref f), some (.int (nI n)), some (.ref b), some (.int (zps v l i)), some (.int (nI i))] [] (I, R, A, lo, dd) Φ) (n := n) ?_ ?_ 0 (Nat.zero_le _)
  · refine vc_X4_presentAfter_8 hf hb ?_
    simp (disch := omega) only [ze_lit, pk_mul, nI_add, nI_clamp, ze_inI, nI_ltI, nI_eq]
    exact ⟨fun q => absurd q (Nat.lt_irrefl _), fun _ => h⟩
  · intro i hi ih
    have hz := hk _ (zat_mem (show i < l.length by omega))
    have hz0 := hk0 _ (zat_mem (show i < l.length by omega))
    obtain ⟨hv1, hv2, hv3⟩ := hc.2 i (by omega)
    refine vc_X4_presentAfter_8 hf hb ?_
    simp (disch := omega) only [ze_lit, pk_mul, nI_add, nI_clamp, ze_inI, nI_ltI, nI_eq, hv1, hv2]
    unfold zps at ih
    refine ⟨fun _ => ⟨by omega, fun q => ⟨by omega, ?_⟩, fun q => ⟨fun q2 => ?_, fun q2 => ⟨fun q3 => ?_, fun q3 => ?_⟩⟩⟩, fun q => absurd hi q⟩
    · obtain ⟨p, hp1, hp2⟩ := hz0 q
      rw [if_pos q, hp1] at ih
      rw [hp1]
      refine s2_nodesIn hb hv hwf.2.1 (fun n hn => Nat.lt_of_lt_of_le (hwf.2.2.1 n hn) hwf.1) hp2 (zk_r (vc_X4_presentAfter_68 hf hb ?_))
      rw [nI_1]
      rw [zcnt_cong (q := fun m => decide (vhom v m = p)) (fun i _ => by simp)] at ih
      exact ih
    · rw [if_neg q, if_pos q2] at ih
      exact ih
    · rw [if_neg q, if_neg q2, if_pos q3] at ih
      exact ih
    · rw [if_neg q, if_neg q2, if_neg q3] at ih
      exact ih
theorem s4_agreementAfter (hf : z_fb f) (ha : z_ib a) (hu : cIm a u I A) (hwu : zwf u) {l : List zOp} (hl : l.length ≤ 105) (hr1 : ∀ j, j < vP u → A (f + 4) j = nI (zl (zq13 j) l)) (hr2 : ∀ j, j < vN u → A (f + 5) j = nI (zl (zq48 j) l)) {n : Nat} (hn : n ≤ l.length) (h : Φ (.inl (some (.int (nI (zcnt (fun j => decide (zl (zq13 j) l ≤ n)) (vP u) + zcnt (fun j => decide (zl (zq48 j) l ≤ n)) (vN u)))))) (I, R, A, lo, dd) 0) : zC L xs mX4_agreementAfter [.ref f, .int (nI n), .ref a] (I, R, A, lo, dd) Φ := by
  have u1 := hwu.1
  have u2 := hwu.2.1
  obtain ⟨hS, hP, hN, -⟩ := hu
  refine zC_en (vc_X4_agreementAfter_0 hf ha ?_)
  refine ze_up (P := fun i => zW L xs mX4_agreementAfter 5 [some (.ref f), some (.int (nI n)), some (.ref a), some (.int (nI (zcnt (fun j => decide (zl (zq13 j) l ≤ n)) i))), some (.int (nI i))] [] (I, R, A, lo, dd) Φ) (n := vP u) ?_ ?_ 0 (Nat.zero_le _)
  · refine vc_X4_agreementAfter_5 hf ha ?_
    simp (disch := omega) only [ze_lit, pk_mul, nI_add, nI_clamp, ze_inI, nI_ltI, nI_eq, hP]
    refine ⟨fun q => absurd q (Nat.lt_irrefl _), fun _ => ?_⟩
    refine ze_up (P := fun i => zW L xs mX4_agreementAfter 37 [some (.ref f), some (.int (nI n)), some (.ref a), some (.int (nI (zcnt (fun j => decide (zl (zq13 j) l ≤ n)) (vP u) + zcnt (fun j => decide (zl (zq48 j) l ≤ n)) i))), some (.int (nI i))] [] (I, R, A, lo, dd) Φ) (n := vN u) ?_ ?_ 0 (Nat.zero_le _)
    · refine vc_X4_agreementAfter_37 hf ha ?_
      simp (disch := omega) only [ze_lit, pk_mul, nI_add, nI_clamp, ze_inI, nI_ltI, nI_eq, hN]
      exact ⟨fun q => absurd q (Nat.lt_irrefl _), fun _ => h⟩
    · intro i hi ih
      have hz := zl_le (zq48 i) l
      have hv := hr2 i hi
      refine vc_X4_agreementAfter_37 hf ha ?_
      simp (disch := omega) only [ze_lit, pk_mul, nI_add, nI_clamp, ze_inI, nI_ltI, nI_eq, hN, hv]
      simp only [zcnt] at ih
      exact ⟨fun _ => ⟨by omega, fun q => by rw [if_neg (by simpa using q)] at ih; exact ih, fun q => by rw [if_pos (decide_eq_true (Nat.le_of_not_lt q))] at ih; exact ih⟩, fun q => absurd hi q⟩
  · intro i hi ih
    have hz := zl_le (zq13 i) l
    have hv := hr1 i hi
    refine vc_X4_agreementAfter_5 hf ha ?_
    simp (disch := omega) only [ze_lit, pk_mul, nI_add, nI_clamp, ze_inI, nI_ltI, nI_eq, hP, hv]
    simp only [zcnt] at ih
    exact ⟨fun _ => ⟨by omega, fun q => by rw [if_neg (by simpa using q)] at ih; exact ih, fun q => by rw [if_pos (decide_eq_true (Nat.le_of_not_lt q))] at ih; exact ih⟩, fun q => absurd hi q⟩
theorem s1_matchedInPass (hd : z_db d) (hb : z_ib b) (hRb : R d 0 = some b) (hv : cIm b v I A) (hwf : zwf v) (hs : cMn d sn A) (h5 : ∀ i, sn.2 i ≤ 5) {k : Nat} (hk : k ≤ 5) (h : Φ (.inl (some (.int (nI (zcnt (fun i => decide (sn.2 i = k)) (vN v)))))) (I, R, A, lo, dd) 0) : zC L xs mX1_matchedInPass [.ref d, .int (nI k)] (I, R, A, lo, dd) Φ := by
  have w2 := hwf.2.1
  obtain ⟨hS, hP, hN, -⟩ := hv
  refine zC_en (vc_X1_matchedInPass_0 hd ?_)
  refine ze_up (P := fun i => zW L xs mX1_matchedInPass 4 [some (.ref d), some (.int (nI k)), some (.int (nI (zcnt (fun i => decide (sn.2 i = k)) i))), some (.int (nI i))] [] (I, R, A, lo, dd) Φ) (n := vN v) ?_ ?_ 0 (Nat.zero_le _)
  · refine vc_X1_matchedInPass_4 hd hb hRb ?_
    simp (disch := omega) only [ze_lit, pk_mul, nI_add, nI_clamp, ze_inI, nI_ltI, nI_eq, hN]
    exact ⟨fun q => absurd q (Nat.lt_irrefl _), fun _ => h⟩
  · intro i hi ih
    have hz := h5 i
    have hv := hs.2.2 i (by omega)
    refine vc_X1_matchedInPass_4 hd hb hRb ?_
    simp (disch := omega) only [ze_lit, pk_mul, nI_add, nI_clamp, ze_inI, nI_ltI, nI_eq, hN, hv]
    unfold zcnt at ih
    exact ⟨fun _ => ⟨by omega, fun q => by rw [if_pos (decide_eq_true q)] at ih; exact ih, fun q => by rw [if_neg (by simpa using q)] at ih; exact ih⟩, fun q => absurd hi q⟩
theorem s1_isUnchanged (hd : z_db d) (hb : z_ib b) (ha : z_ib a) (hRb : R d 0 = some b) (hRa : R d 1 = some a) (hE : zEn b a d v u sp sn I A) (hwf : zwf v) (hwu : zwf u) (hmp : zmo (vP v) (vP u) sp) (hm : zmo (vN v) (vN u) sn.1) {i j : Nat} (hi : i < vN v) (hj : j < vN u) (hij : sn.1.1 i = some j) (h1 : zun v u sp sn.1 i = true → Φ (.inl (some (.int 1))) (I, R, A, lo, dd) 0) (h0 : zun v u sp sn.1 i = false → Φ (.inl (some (.int 0))) (I, R, A, lo, dd) 0) : zC L xs mX1_isUnchanged [.ref d, .int (nI i), .int (nI j)] (I, R, A, lo, dd) Φ := by
  refine zC_en (vc_X1_isUnchanged_0 hd ?_)
  have step : ∀ k, 5 ≤ k ∧ k ≤ 8 → (zneed v u sp.1 sn.1.1 k i j = false → zW L xs mX1_isUnchanged 2 [some (.ref d), some (.int (nI i)), some (.int (nI j)), some (.int (nI (k + 1)))] [] (I, R, A, lo, dd) Φ) → (zneed v u sp.1 sn.1.1 k i j = true → zun v u sp sn.1 i = false) → zW L xs mX1_isUnchanged 2 [some (.ref d), some (.int (nI i)), some (.int (nI j)), some (.int (nI k))] [] (I, R, A, lo, dd) Φ := by
    intro k hk g1 g2
    refine vc_X1_isUnchanged_2 hd ?_
    simp (disch := omega) only [ze_lit, pk_mul, nI_add, nI_clamp, ze_inI, nI_ltI, nI_eq]
    refine ⟨fun z => absurd z (by omega), fun _ => s1_needs hd hb ha hRb hRa hE hwf hwu hmp hm hk hi hj (fun z => zk_r (vc_X1_isUnchanged_15 hd ⟨fun q => absurd q (by decide), fun _ => h0 (g2 z)⟩)) (fun z => zk_r (vc_X1_isUnchanged_15 hd ⟨fun _ => ?_, fun q => absurd rfl q⟩))⟩
    rw [nI_1]
    exact g1 z
  refine step 5 (by decide) (fun z5 => ?_) (fun z => by simp [zun, hij, z])
  refine step 6 (by decide) (fun z6 => ?_) (fun z => by simp [zun, hij, z])
  refine step 7 (by decide) (fun z7 => ?_) (fun z => by simp [zun, hij, z])
  refine step 8 (by decide) (fun z8 => ?_) (fun z => by simp [zun, hij, z])
  exact vc_X1_isUnchanged_2 hd ⟨fun _ => h1 (by simp [zun, hij, z5, z6, z7, z8]), fun z => absurd (by decide) z⟩
theorem s1_unchangedNodes (hd : z_db d) (hb : z_ib b) (ha : z_ib a) (hRb : R d 0 = some b) (hRa : R d 1 = some a) (hE : zEn b a d v u sp sn I A) (hwf : zwf v) (hwu : zwf u) (hmp : zmo (vP v) (vP u) sp) (hm : zmo (vN v) (vN u) sn.1) (h : Φ (.inl (some (.int (nI (zcnt (zun v u sp sn.1) (vN v)))))) (I, R, A, lo, dd) 0) : zC L xs mX1_unchangedNodes [.ref d] (I, R, A, lo, dd) Φ := by
  have w2 := hwf.2.1
  have u2 := hwu.2.1
  have hN := hE.1.2.2.1
  have r1 := hE.2.2.2.1
  refine zC_en (vc_X1_unchangedNodes_0 hd ?_)
  refine ze_up (P := fun i => zW L xs mX1_unchangedNodes 4 [some (.ref d), some (.int (nI (zcnt (zun v u sp sn.1) i))), some (.int (nI i))] [] (I, R, A, lo, dd) Φ) (n := vN v) ?_ ?_ 0 (Nat.zero_le _)
  · refine vc_X1_unchangedNodes_4 hd hb hRb ?_
    simp (disch := omega) only [ze_lit, pk_mul, nI_add, nI_clamp, ze_inI, nI_ltI, nI_eq, hN]
    exact ⟨fun q => absurd q (Nat.lt_irrefl _), fun _ => h⟩
  · intro i hi ih
    have r1i := r1 i (by omega)
    refine vc_X1_unchangedNodes_4 hd hb hRb ?_
    simp only [zcnt] at ih
    cases hij : sn.1.1 i with
    | none =>
      rw [hij] at r1i
      replace r1i : A (d + 3) i = -nI 1 := r1i
      have hz : zun v u sp sn.1 i = false := by simp [zun, hij]
      rw [if_neg (by rw [hz]; decide)] at ih
      simp (disch := omega) only [ze_lit, pk_mul, nI_add, nI_clamp, ze_inI, nI_ltI, nI_eq, hN, r1i]
      exact ⟨fun _ => ⟨by omega, fun _ => ih, fun z => absurd trivial z⟩, fun q => absurd hi q⟩
    | some j =>
      rw [hij] at r1i
      replace r1i : A (d + 3) i = nI j := r1i
      have hj := (hm.1 i j hij).2.1
      simp (disch := omega) only [ze_lit, pk_mul, nI_add, nI_clamp, ze_inI, nI_ltI, nI_eq, hN, r1i, ze_m1n]
      refine ⟨fun _ => ⟨by omega, fun z => z.elim, fun _ => ⟨by omega, s1_isUnchanged hd hb ha hRb hRa hE hwf hwu hmp hm hi hj hij (fun z => zk_r (vc_X1_unchangedNodes_36 hd ⟨fun q => absurd q (by decide), fun _ => ?_⟩)) (fun z => zk_r (vc_X1_unchangedNodes_36 hd ⟨fun _ => ?_, fun q => absurd rfl q⟩))⟩⟩, fun q => absurd hi q⟩
      · rw [if_pos z] at ih
        rw [nI_1, nI_1]
        exact ih
      · rw [if_neg (by rw [z]; decide)] at ih
        rw [nI_1]
        exact ih
end
