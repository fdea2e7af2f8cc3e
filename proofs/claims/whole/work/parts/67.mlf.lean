/-! the model's least file cost -/
theorem zmo_put {N M n m : Nat} {K : zM} (h : zmo N M K) (hn : n < N) (hm : m < M) (e1 : K.1 n = none) (e2 : K.2 m = none) : zmo N M (zse K.1 n (some m), zse K.2 m (some n)) := by
  refine ⟨fun i j e => ?_, fun i j e => ?_⟩
  · replace e : zse K.1 n (some m) i = some j := e
    show _ ∧ _ ∧ zse K.2 m (some n) j = some i
    by_cases q : i = n
    · rw [q, zse_s] at e
      cases e
      exact ⟨by omega, hm, by rw [zse_s, q]⟩
    · rw [zse_n q] at e
      obtain ⟨f1, f2, f3⟩ := h.1 i j e
      exact ⟨f1, f2, by rw [zse_n (fun z => by rw [z, e2] at f3; cases f3)]; exact f3⟩
  · replace e : zse K.2 m (some n) j = some i := e
    show _ ∧ _ ∧ zse K.1 n (some m) i = some j
    by_cases q : j = m
    · rw [q, zse_s] at e
      cases e
      exact ⟨hn, by omega, by rw [zse_s, q]⟩
    · rw [zse_n q] at e
      obtain ⟨f1, f2, f3⟩ := h.2 i j e
      exact ⟨f1, f2, by rw [zse_n (fun z => by rw [z, e1] at f3; cases f3)]; exact f3⟩
theorem zmo_cut {N M n m : Nat} {K : zM} (h : zmo N M K) (e1 : K.1 n = some m) : zmo N M (zse K.1 n none, zse K.2 m none) := by
  have e2 := (h.1 n m e1).2.2
  refine ⟨fun i j e => ?_, fun i j e => ?_⟩
  · replace e : zse K.1 n none i = some j := e
    show _ ∧ _ ∧ zse K.2 m none j = some i
    by_cases q : i = n
    · rw [q, zse_s] at e; cases e
    · rw [zse_n q] at e
      obtain ⟨f1, f2, f3⟩ := h.1 i j e
      exact ⟨f1, f2, by rw [zse_n (fun z => by rw [z, e2] at f3; cases f3; exact q rfl)]; exact f3⟩
  · replace e : zse K.2 m none j = some i := e
    show _ ∧ _ ∧ zse K.1 n none i = some j
    by_cases q : j = m
    · rw [q, zse_s] at e; cases e
    · rw [zse_n q] at e
      obtain ⟨f1, f2, f3⟩ := h.2 i j e
      exact ⟨f1, f2, by rw [zse_n (fun z => by rw [z, e1] at f3; cases f3; exact q rfl)]; exact f3⟩
theorem zDu_cut {N M : Nat} {E : Nat → Nat → Prop} {fl : Nat → Prop} {g : Nat → Nat → Int} {T : zM} {p q : Nat → Int} {l : Int} (hT : zmo N M T) (h : zDu N M E fl g T p q l) : zDu N M E fl g T (fun n => if n < N then p n else 0) (fun m => if m < M then q m else 0) l ∧ ((∀ n, (if n < N then p n else 0) ≤ 198) ∧ (∀ m, 0 ≤ (if m < M then q m else 0))) := by
  obtain ⟨h0, h1, h2, h3, h4, h5, h6⟩ := h
  refine ⟨⟨h0, fun n hn => ?_, fun m hm => ?_, fun n m hn hm e => ?_, fun n m e => ?_, fun n hn f e => ?_, fun m hm e => ?_⟩, fun n => ?_, fun m => ?_⟩
  · dsimp only; rw [if_pos hn]; exact h1 n hn
  · dsimp only; rw [if_pos hm]; exact h2 m hm
  · dsimp only; rw [if_pos hn, if_pos hm]; exact h3 n m hn hm e
  · obtain ⟨a1, a2, _⟩ := hT.1 n m e
    dsimp only; rw [if_pos a1, if_pos a2]; exact h4 n m e
  · dsimp only; rw [if_pos hn]; exact h5 n hn f e
  · dsimp only; rw [if_pos hm]; exact h6 m hm e
  · split
    · next q => have := h1 n q; omega
    · omega
  · split
    · next q => exact (h2 m q).1
    · omega
section
variable {L : Nat} {xs : Nat → Int32} {I : Nat → Nat → Int32} {R : Nat → Nat → Option Nat} {A : Nat → Nat → Int32} {lo : Int64} {dd : UInt64} {Φ : zPo} {v u : zV} {sp : zM} {sn : zMn} {co : Nat → Nat}
theorem s6_leastFrom16 (hE : mEn 0 1 v u sp sn I A) (hwf : zwf v) (hwu : zwf u) (hmp : zmo (vP v) (vP u) sp) (hm : zmo (vN v) (vN u) sn.1) (hc : mCo co A) (h : ∀ (A' : Nat → Nat → Int32) (T : zM) (p q : Nat → Int), (∀ c, ¬ (119 ≤ c ∧ c ≤ 122) → A' c = A c) → zmo (vN v) (vN u) T → (∀ n m, T.1 n = some m → zAl v u sp n m) → zDu (vN v) (vN u) (zAl v u sp) (zfl v) (zgain v u sp sn co) T p q 0 → Φ (.inl (some (.int (iI (zap v u sp co - zsm (fun n => zwo (zgain v u sp sn co n) (T.1 n)) (vN v)))))) (I, R, A', lo, dd) 0) : ∀ (k : Nat) (A1 : Nat → Nat → Int32) (T : zM) (p q : Nat → Int) (l : Int) (d : Nat → Int) (fr : Nat → Option Nat) (b : Option Nat) (z3 z4 : Option Value), (5000 - zsm (fun n => zwo (zgain v u sp sn co n) (T.1 n)) (vN v)).toNat ≤ k → (∀ c, ¬ (119 ≤ c ∧ c ≤ 122) → A1 c = A c) → (∀ n, n < vN v → A1 119 n = zpI (T.1 n)) → (∀ m, m < vN u → A1 120 m = zpI (T.2 m)) → zmo (vN v) (vN u) T → (∀ n m, T.1 n = some m → zAl v u sp n m) → zDu (vN v) (vN u) (zAl v u sp) (zfl v) (zgain v u sp sn co) T p q l → mBm d fr A1 → zBf (zcap p q l) (zec (zgain v u sp sn co)) (zEg (vN v) (vN u) (zAl v u sp) T) (zrt (vN v) (zfl v) T) d fr → zfx (vN v) (vN u) (zAl v u sp) (zgain v u sp sn co) T d → zbe T d (vN u) b → zW L xs mX6_leastFileCost 16 [some (.ref 107), some (.int (iI (zap v u sp co - zsm (fun n => zwo (zgain v u sp sn co n) (T.1 n)) (vN v)))), some (.int (zpI b)), z3, z4] [] (I, R, A1, lo, dd) Φ := by
  have w1 := hwf.1
  have w2 := hwf.2.1
  have w3 := hwu.2.1
  have w4 := hwu.1
  have hco : ∀ k, k < 11 → co k ≤ 99 := fun k hk => (hc k hk).2
  have hgb := fun n m => zgain_b (v := v) (u := u) (sp := sp) (sn := sn) (i := n) (j := m) hco
  have hSb : ∀ T : zM, zsm (fun n => zwo (zgain v u sp sn co n) (T.1 n)) (vN v) ≤ 198 * (vN v : Int) := fun T => zsm_ub (fun n _ => by
    show zwo (zgain v u sp sn co n) (T.1 n) ≤ 198
    cases T.1 n with
    | none => show (0 : Int) ≤ 198; omega
    | some m => exact (hgb n m).2)
  intro k
  induction k with
  | zero =>
    intro A1 T p q l d fr b z3 z4 hk
    have := hSb T
    omega
  | succ k ihk =>
    intro A1 T p q l d fr b z3 z4 hk fa h119 h120 hT hTf hD hM hB hF hb
    have hfl : ∀ n, T.1 n ≠ none ∨ T.1 n = none := fun n => by
      cases T.1 n with
      | none => exact Or.inr rfl
      | some m => exact Or.inl (fun z => by cases z)
    cases b with
    | none =>
      refine vc_X6_leastFileCost_16 ⟨fun _ => ?_, fun z => absurd rfl z⟩
      obtain ⟨u1, -⟩ := zDu_up (by omega) (by omega) hgb hT hD hTf hB hF (B := 0) (Int.le_refl _) hD.1.1 (fun m hm' e => hb m hm' e)
      exact h A1 T _ _ fa hT hTf u1
    | some mb =>
      obtain ⟨b1, b2, b3, b4⟩ := hb
      have hdl : d (24 + mb) ≤ l := by
        have h1 := (hB.1 (24 + mb) (by omega)).2
        rw [zcp_n, hD.2.2.2.2.2.2 mb b1 b2] at h1
        omega
      obtain ⟨u1, u2⟩ := zDu_up (by omega) (by omega) hgb hT hD hTf hB hF (B := d (24 + mb)) (by omega) hdl b4
      obtain ⟨s0, s1, s2, s3, s4, s5, s6⟩ := u1
      -- back along the way
      have chain : ∀ (kc m : Nat) (Tc : zM) (A2 : Nat → Nat → Int32) (z4 : Option Value), zch fr kc (24 + m) → m < vN u → -1000000 < d (24 + m) → l + q m - d (24 + m) ≤ l - d (24 + mb) → (∀ c, c ≠ 119 → c ≠ 120 → A2 c = A1 c) → (∀ n, n < vN v → A2 119 n = zpI (Tc.1 n)) → (∀ m', m' < vN u → m' ≠ m → A2 120 m' = zpI (Tc.2 m')) → zmo (vN v) (vN u) Tc → Tc.2 m = none → (∀ n m, Tc.1 n = some m → zAl v u sp n m) → (∀ n m', Tc.1 n = some m' → zgain v u sp sn co n m' = (p n + zmn2 (- p n - d n) (l - d (24 + mb))) + (q m' + (l - d (24 + mb)) - zmn2 (l + q m' - d (24 + m')) (l - d (24 + mb))) + d (24 + mb)) → (∀ n, n < vN v → zfl v n → Tc.1 n = none → T.1 n = none) → (∀ m', m' < vN u → m' ≠ m → Tc.2 m' = none → T.2 m' = none) → zsm (fun n => zwo (zgain v u sp sn co n) (Tc.1 n)) (vN v) + d (24 + m) = zsm (fun n => zwo (zgain v u sp sn co n) (T.1 n)) (vN v) + d (24 + mb) → (∀ n j, zch fr j n → j < kc → n < 24 → Tc.1 n = T.1 n) → zW L xs mX6_leastFileCost 38 [some (.ref 107), some (.int (iI (zap v u sp co - (zsm (fun n => zwo (zgain v u sp sn co n) (T.1 n)) (vN v) + d (24 + mb))))), some (.int (nI mb)), some (.int (nI (24 + m))), z4] [] (I, R, A2, lo, dd) Φ := by
        intro kc
        induction kc using Nat.strongRecOn with
        | ind kc ihc =>
          intro m Tc A2 z4 hch hm' hr hDm fa2 g119 g120 hTc hTm hTcf htt hfn hfm hsum hun
          have hx24 : zec (zgain v u sp sn co) = zec (zgain v u sp sn co) := rfl
          rcases hB.2.2.1 (24 + m) (by omega) hr with ⟨z, _⟩ | ⟨_, n, n48, n2, n3, n4, n5⟩
          · have := z.1; omega
          · rcases n3 with ⟨a1, a2, a3, a4, a5, a6⟩ | ⟨a1, a2, _⟩
            · rw [show 24 + m - 24 = m by omega] at a4 a5 a6
              obtain ⟨c1, c2, c3, c4, c5, c6⟩ := u2 n m a3 hm' n2 hr hDm
              cases kc with
              | zero => rw [show fr (24 + m) = none from hch] at n2; cases n2
              | succ k1 =>
                obtain ⟨y, y1, y2⟩ := hch
                rw [n2] at y1
                cases y1
                have hTn : Tc.1 n = T.1 n := hun n k1 y2 (by omega) a1
                have e122 : A2 122 (24 + m) = nI n := by rw [fa2 122 (by decide) (by decide), (hM (24 + m) (by omega)).2, n2]; rfl
                have e122n : A2 122 n = zpI (fr n) := by rw [fa2 122 (by decide) (by decide)]; exact (hM n n48).2
                refine vc_X6_leastFileCost_38 ⟨fun z => ((ze_m1 (by omega)).mp z).elim, fun _ => ?_⟩
                rw [nI_clamp (n := 24 + m) (by omega), e122, nI_clamp (n := n) (by omega), show nI (24 + m) - (24 : Int32) = nI m from by rw [show (24 : Int32) = nI 24 from rfl, ze_sub (by omega)]; congr 1; omega, nI_clamp (n := m) (by omega), show z_up (z_up A2 119 n (nI m)) 120 m (nI n) 122 n = zpI (fr n) by rw [zup_n (by omega), zup_n (by omega)]; exact e122n]
                have fa3 : ∀ c, c ≠ 119 → c ≠ 120 → z_up (z_up A2 119 n (nI m)) 120 m (nI n) c = A1 c := fun c c1 c2 => by
                  rw [← fa2 c c1 c2]
                  funext k
                  rw [zup_n (fun z => c2 z.1), zup_n (fun z => c1 z.1)]
                have g3 : ∀ n', z_up (z_up A2 119 n (nI m)) 120 m (nI n) 119 n' = if n' = n then nI m else A2 119 n' := fun n' => by
                  rw [zup_n (by omega)]
                  by_cases z : n' = n
                  · rw [z, zup_s, if_pos rfl]
                  · rw [zup_n (by omega), if_neg z]
                have g4 : ∀ m', z_up (z_up A2 119 n (nI m)) 120 m (nI n) 120 m' = if m' = m then nI n else A2 120 m' := fun m' => by
                  by_cases z : m' = m
                  · rw [z, zup_s, if_pos rfl]
                  · rw [zup_n (by omega), zup_n (by omega), if_neg z]
                generalize z_up (z_up A2 119 n (nI m)) 120 m (nI n) = A3 at *
                refine ⟨nI_in (by omega) (by omega), nI_in (by omega) (by omega), nI_in (by omega) (by omega), nI_in (by omega) (by omega), ?_⟩
                rcases hB.2.2.1 n n48 c3 with ⟨r1, r2, r3⟩ | ⟨r1, y, r2, r3, r4, r5, r6⟩
                · -- the way ends
                  have tn : Tc.1 n = none := by rw [hTn]; exact r1.2.2.2
                  have hT' := zmo_put hTc a3 hm' tn hTm
                  have hS' : zsm (fun i => zwo (zgain v u sp sn co i) (zse Tc.1 n (some m) i)) (vN v) = zsm (fun n => zwo (zgain v u sp sn co n) (T.1 n)) (vN v) + d (24 + mb) := by
                    rw [zsm_se (f := fun i => zwo (zgain v u sp sn co i) (Tc.1 i)) (a := n) a3 (fun i hi => by rw [zse_n hi])]
                    rw [zse_s, tn]
                    show _ - 0 + zgain v u sp sn co n m = _
                    omega
                  rw [r3]
                  have hTf' : ∀ i j, zse Tc.1 n (some m) i = some j → zAl v u sp i j := fun i j e => by
                    by_cases z : i = n
                    · rw [z, zse_s] at e; cases e; rw [z]; exact c2
                    · rw [zse_n z] at e; exact hTcf i j e
                  have hD' : zDu (vN v) (vN u) (zAl v u sp) (zfl v) (zgain v u sp sn co) (zse Tc.1 n (some m), zse Tc.2 m (some n)) (fun n => p n + zmn2 (- p n - d n) (l - d (24 + mb))) (fun m => q m + (l - d (24 + mb)) - zmn2 (l + q m - d (24 + m)) (l - d (24 + mb))) (d (24 + mb)) := by
                    refine ⟨s0, s1, s2, s3, fun i j e => ?_, fun i hi f e => ?_, fun j hj e => ?_⟩
                    · replace e : zse Tc.1 n (some m) i = some j := e
                      by_cases z : i = n
                      · rw [z, zse_s] at e; cases e; rw [z]; exact c6
                      · rw [zse_n z] at e; exact htt i j e
                    · replace e : zse Tc.1 n (some m) i = none := e
                      by_cases z : i = n
                      · rw [z, zse_s] at e; cases e
                      · rw [zse_n z] at e; exact s5 i hi f (hfn i hi f e)
                    · replace e : zse Tc.2 m (some n) j = none := e
                      by_cases z : j = m
                      · rw [z, zse_s] at e; cases e
                      · rw [zse_n z] at e; exact s6 j hj (hfm j hj z e)
                  obtain ⟨hD2, hpq⟩ := zDu_cut hT' hD'
                  have k119 : ∀ i, i < vN v → A3 119 i = zpI (zse Tc.1 n (some m) i) := fun i hi => by
                    rw [g3 i]
                    by_cases z : i = n
                    · rw [if_pos z, z, zse_s]; rfl
                    · rw [if_neg z, zse_n z]; exact g119 i hi
                  have k120 : ∀ j, j < vN u → A3 120 j = zpI (zse Tc.2 m (some n) j) := fun j hj => by
                    rw [g4 j]
                    by_cases z : j = m
                    · rw [if_pos z, z, zse_s]; rfl
                    · rw [if_neg z, zse_n z]; exact g120 j hj z
                  have fa4 : ∀ c, ¬ (119 ≤ c ∧ c ≤ 122) → A3 c = A c := fun c hc => by rw [fa3 c (by omega) (by omega)]; exact fa c hc
                  refine vc_X6_leastFileCost_38 ⟨fun _ => ?_, fun z => absurd rfl z⟩
                  refine s6_bestEnd (mEn_fq hE (fun c hc => fa4 c (by omega))) hwf hwu hmp hm (fun k hk => by rw [fa4 109 (by decide)]; exact hc k hk) hT' hTf' k119 k120 hD2 hpq (fun A4 d4 fr4 b4' f4 hM4 hB4 hF4 hb4 => zk_r (vc_X6_leastFileCost_88 ?_))
                  rw [← hS']
                  refine ihk A4 (zse Tc.1 n (some m), zse Tc.2 m (some n)) _ _ _ d4 fr4 b4' _ _ ?_ (fun c hc => by rw [f4 c (by omega) (by omega)]; exact fa4 c hc) (fun i hi => by rw [f4 119 (by decide) (by decide)]; exact k119 i hi) (fun j hj => by rw [f4 120 (by decide) (by decide)]; exact k120 j hj) hT' hTf' hD2 hM4 hB4 hF4 hb4
                  show (5000 - zsm (fun i => zwo (zgain v u sp sn co i) (zse Tc.1 n (some m) i)) (vN v)).toNat ≤ k
                  have := hSb T
                  omega
                · -- on
                  rcases r4 with ⟨t1, t2, _⟩ | ⟨t1, t2, t3, t4, t5⟩
                  · omega
                  · have hy : y = 24 + (y - 24) := by omega
                    generalize y - 24 = m2 at *
                    subst hy
                    have tn : Tc.1 n = some m2 := by rw [hTn]; exact t5
                    have hne : m2 ≠ m := fun z => c1 (by rw [t5, z])
                    have hT' : zmo (vN v) (vN u) (zse (zse Tc.1 n none) n (some m), zse (zse Tc.2 m2 none) m (some n)) := zmo_put (K := (zse Tc.1 n none, zse Tc.2 m2 none)) (zmo_cut hTc tn) a3 hm' zse_s (by show zse Tc.2 m2 none m = none; rw [zse_n (fun z => hne z.symm)]; exact hTm)
                    have q1 : ∀ i, zse (zse Tc.1 n none) n (some m) i = if i = n then some m else Tc.1 i := fun i => by
                      by_cases z : i = n
                      · rw [z, zse_s, if_pos rfl]
                      · rw [zse_n z, zse_n z, if_neg z]
                    have q2 : ∀ j, zse (zse Tc.2 m2 none) m (some n) j = if j = m then some n else if j = m2 then none else Tc.2 j := fun j => by
                      by_cases z : j = m
                      · rw [z, zse_s, if_pos rfl]
                      · rw [zse_n z, if_neg z]
                        by_cases z2 : j = m2
                        · rw [z2, zse_s, if_pos rfl]
                        · rw [zse_n z2, if_neg z2]
                    generalize zse (zse Tc.1 n none) n (some m) = T1 at *
                    generalize zse (zse Tc.2 m2 none) m (some n) = T2 at *
                    have hF2 := hF.2 n m2 a3 t4 t5 r5
                    have hd2 : d n = d (24 + m2) - zgain v u sp sn co n m2 := by
                      rw [zec_n] at r6
                      omega
                    have htg := hD.2.2.2.2.1 n m2 t5
                    cases k1 with
                    | zero => rw [show fr n = none from y2] at r3; cases r3
                    | succ k2 =>
                      obtain ⟨w, v1, v2⟩ := y2
                      rw [r3] at v1
                      cases v1
                      rw [r3]
                      refine ihc k2 (by omega) m2 (T1, T2) A3 _ v2 t4 r5 (by omega) fa3 (fun i hi => ?_) (fun j hj hjm => ?_) hT' ?_ (fun i j e => ?_) (fun i j e => ?_) (fun i hi f e => ?_) (fun j hj hjm e => ?_) ?_ (fun i j hj hjk hi => ?_)
                      · rw [g3 i]
                        show _ = zpI (T1 i)
                        rw [q1 i]
                        by_cases z : i = n
                        · rw [if_pos z, if_pos z]; rfl
                        · rw [if_neg z, if_neg z]; exact g119 i hi
                      · rw [g4 j]
                        show _ = zpI (T2 j)
                        rw [q2 j]
                        by_cases z : j = m
                        · rw [if_pos z, if_pos z]; rfl
                        · rw [if_neg z, if_neg z, if_neg hjm]; exact g120 j hj z
                      · show T2 m2 = none
                        rw [q2 m2, if_neg hne, if_pos rfl]
                      · replace e : T1 i = some j := e
                        rw [q1 i] at e
                        by_cases z : i = n
                        · rw [if_pos z] at e; cases e; rw [z]; exact c2
                        · rw [if_neg z] at e; exact hTcf i j e
                      · replace e : T1 i = some j := e
                        rw [q1 i] at e
                        by_cases z : i = n
                        · rw [if_pos z] at e; cases e; rw [z]; exact c6
                        · rw [if_neg z] at e; exact htt i j e
                      · replace e : T1 i = none := e
                        rw [q1 i] at e
                        by_cases z : i = n
                        · rw [if_pos z] at e; cases e
                        · rw [if_neg z] at e; exact hfn i hi f e
                      · replace e : T2 j = none := e
                        rw [q2 j] at e
                        by_cases z : j = m
                        · rw [if_pos z] at e; cases e
                        · rw [if_neg z, if_neg hjm] at e; exact hfm j hj z e
                      · show zsm (fun i => zwo (zgain v u sp sn co i) (T1 i)) (vN v) + d (24 + m2) = _
                        rw [zsm_se (f := fun i => zwo (zgain v u sp sn co i) (Tc.1 i)) (a := n) a3 (fun i hi => by rw [q1 i, if_neg hi])]
                        rw [q1 n, if_pos rfl, tn]
                        show _ - zgain v u sp sn co n m2 + zgain v u sp sn co n m + d (24 + m2) = _
                        omega
                      · show T1 i = T.1 i
                        have hin : i ≠ n := fun z => by
                          rw [z] at hj
                          have := zch_un _ _ _ hj (show zch fr (k2 + 1) n from ⟨24 + m2, r3, v2⟩)
                          omega
                        rw [q1 i, if_neg hin]
                        exact hun i j hj (by omega) hi
            · omega
      obtain ⟨kc, hkc⟩ := hB.2.2.2.1 (24 + mb)
      refine vc_X6_leastFileCost_16 ⟨fun z => ((ze_m1 (by omega)).mp z).elim, fun _ => ?_⟩
      rw [show (24 : Int32) + zpI (some mb) = nI (24 + mb) from nI_add 24 mb, nI_clamp (by omega), (hM (24 + mb) (by omega)).1, iI_sub]
      refine ⟨nI_in (by omega) (by omega), ?_⟩
      have e : zap v u sp co - zsm (fun n => zwo (zgain v u sp sn co n) (T.1 n)) (vN v) - d (24 + mb) = zap v u sp co - (zsm (fun n => zwo (zgain v u sp sn co n) (T.1 n)) (vN v) + d (24 + mb)) := by omega
      rw [e]
      refine chain kc mb T A1 z4 hkc b1 (by omega) ?_ (fun _ _ _ => rfl) h119 (fun m hm' _ => h120 m hm') hT b2 hTf s4 (fun n hn f e => e) (fun m hm' _ e => e) rfl (fun _ _ _ _ _ => rfl)
      rw [hD.2.2.2.2.2.2 mb b1 b2]
      omega
end
