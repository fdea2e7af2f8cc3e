/-! the model's best pairing: bestEnd -/
/-- of the first M, the best free end, if any is good -/
def zbe (T : zM) (d : Nat → Int) (M : Nat) (b : Option Nat) : Prop := match b with
  | none => ∀ m, m < M → T.2 m = none → d (24 + m) ≤ 0
  | some k => k < M ∧ T.2 k = none ∧ 0 < d (24 + k) ∧ ∀ m, m < M → T.2 m = none → d (24 + m) ≤ d (24 + k)
theorem zbe_0 {T : zM} {d : Nat → Int} {m : Nat} {b : Option Nat} (h : zbe T d m b) (hd : T.2 m = none → d (24 + m) ≤ 0) : zbe T d (m + 1) b := by
  cases b with
  | none =>
    intro m' q e
    by_cases z : m' = m
    · rw [z] at e ⊢; exact hd e
    · exact h m' (by omega) e
  | some k =>
    obtain ⟨h1, h2, h3, h4⟩ := h
    refine ⟨by omega, h2, h3, fun m' q e => ?_⟩
    by_cases z : m' = m
    · rw [z] at e ⊢
      have := hd e
      omega
    · exact h4 m' (by omega) e
theorem zBf_ub {N M : Nat} {E : Nat → Nat → Prop} {fl : Nat → Prop} {g : Nat → Nat → Int} {T : zM} {p q : Nat → Int} {l : Int} {d : Nat → Int} {fr : Nat → Option Nat} (hD : zDu N M E fl g T p q l) (hB : zBf (zcap p q l) (zec g) (zEg N M E T) (zrt N fl T) d fr) : ∀ x, x < 48 → d x ≤ 198 := by
  intro x hx
  by_cases r : -1000000 < d x
  · have h1 := (hB.1 x hx).2
    rcases hB.2.2.1 x hx r with ⟨_, z, _⟩ | ⟨_, y, _, _, ⟨a1, a2, a3, a4, _⟩ | ⟨a1, a2, a3, a4, _⟩, _, _⟩
    · omega
    · have h2 := hD.2.2.1 (x - 24) a4
      have h0 := hD.1
      unfold zcap at h1
      rw [if_neg (by omega)] at h1
      omega
    · have h2 := hD.2.1 x a3
      have h0 := hD.1
      unfold zcap at h1
      rw [if_pos (by omega)] at h1
      omega
  · omega
section
variable {L : Nat} {xs : Nat → Int32} {I : Nat → Nat → Int32} {R : Nat → Nat → Option Nat} {A : Nat → Nat → Int32} {lo : Int64} {dd : UInt64} {Φ : zPo} {v u : zV} {sp : zM} {sn : zMn} {co : Nat → Nat} {T : zM} {p q : Nat → Int} {l : Int}
theorem s6_bestEnd (hE : mEn 0 1 v u sp sn I A) (hwf : zwf v) (hwu : zwf u) (hmp : zmo (vP v) (vP u) sp) (hm : zmo (vN v) (vN u) sn.1) (hc : mCo co A) (hT : zmo (vN v) (vN u) T) (hTf : ∀ n m, T.1 n = some m → zAl v u sp n m) (h119 : ∀ n, n < vN v → A 119 n = zpI (T.1 n)) (h120 : ∀ m, m < vN u → A 120 m = zpI (T.2 m)) (hD : zDu (vN v) (vN u) (zAl v u sp) (zfl v) (zgain v u sp sn co) T p q l) (hpq : (∀ n, p n ≤ 198) ∧ (∀ m, 0 ≤ q m)) (h : ∀ (A' : Nat → Nat → Int32) (d : Nat → Int) (fr : Nat → Option Nat) (b : Option Nat), (∀ c, c ≠ 121 → c ≠ 122 → A' c = A c) → mBm d fr A' → zBf (zcap p q l) (zec (zgain v u sp sn co)) (zEg (vN v) (vN u) (zAl v u sp) T) (zrt (vN v) (zfl v) T) d fr → zfx (vN v) (vN u) (zAl v u sp) (zgain v u sp sn co) T d → zbe T d (vN u) b → Φ (.inl (some (.int (zpI b)))) (I, R, A', lo, dd) 0) : zC L xs mX6_bestEnd [.ref 107] (I, R, A, lo, dd) Φ := by
  have w1 := hwf.1
  have w2 := hwf.2.1
  have w3 := hwu.2.1
  have w4 := hwu.1
  obtain ⟨-, -, ⟨-, -, m2, -, -, -, -, -, n2, -, -, n5⟩, ⟨-, -, m2', -, -, -, -, -, n2', -, -, n5'⟩, ⟨e3, -⟩, -⟩ := id hE
  have htl : ∀ n k, T.1 n = some k → k < 2 ^ 31 := fun n k hk => by have := (hT.1 _ _ hk).2.1; omega
  have htl2 : ∀ m k, T.2 m = some k → k < 2 ^ 31 := fun m k hk => by have := (hT.2 _ _ hk).1; omega
  -- the best free end
  have scan : ∀ (A' : Nat → Nat → Int32) (d : Nat → Int) (fr : Nat → Option Nat) (x1 : Int32), (∀ c, c ≠ 121 → c ≠ 122 → A' c = A c) → mBm d fr A' → zBf (zcap p q l) (zec (zgain v u sp sn co)) (zEg (vN v) (vN u) (zAl v u sp) T) (zrt (vN v) (zfl v) T) d fr → zfx (vN v) (vN u) (zAl v u sp) (zgain v u sp sn co) T d → ∀ m, m ≤ vN u → ∀ (b : Option Nat) (zx : Option Value), zbe T d m b → zW L xs mX6_bestEnd 80 [some (.ref 107), some (.int x1), some (.int (zpI b)), some (.int (nI m)), zx] [] (I, R, A', lo, dd) Φ := by
    intro A' d fr x1 fa hM hB hF
    have hub := zBf_ub hD hB
    refine ze_up ?_ ?_
    · intro b zx hb
      refine vc_X6_bestEnd_80 ⟨by decide, fun z => absurd z ?_, fun _ => h A' d fr b fa hM hB hF hb⟩
      rw [fa 108 (by decide) (by decide), show A 108 (Int32.toNatClampNeg ((159 * 1) + 2)) = nI (vN u) from m2']
      exact nI_nlt (by omega) (by omega)
    · intro m hm' ih b zx hb
      have hbm : ∀ k, b = some k → k < m := fun k e => by rw [e] at hb; exact hb.1
      refine vc_X6_bestEnd_80 ⟨by decide, fun _ => ?_, fun z => absurd ?_ z⟩
      · have dm := hub (24 + m) (by omega)
        have dm0 := (hB.1 (24 + m) (by omega)).1
        rw [nI_clamp (by omega), show (24 : Int32) + nI m = nI (24 + m) from nI_add 24 m, nI_clamp (by omega), fa 120 (by decide) (by decide), h120 m hm', zpI_none (htl2 m), (hM (24 + m) (by omega)).1, zpI_none (fun k e => by have := hbm k e; omega), nI_1]
        have e0 : ((0 : Int32) < iI (d (24 + m))) ↔ 0 < d (24 + m) := iI_lt (a := 0) ⟨by decide, by decide⟩ ⟨by omega, by omega⟩
        rw [e0]
        refine ⟨nI_in (by omega) (by omega), fun q1 => ⟨nI_in (by omega) (by omega), fun q2 => ⟨fun q3 => ?_, fun q3 => ⟨nI_in (by omega) (by omega), ?_⟩⟩, fun q2 => ih b _ (zbe_0 hb (fun _ => by omega))⟩, fun q1 => ih b _ (zbe_0 hb (fun z => absurd z q1))⟩
        · rw [q3] at hb
          refine ih (some m) _ ⟨by omega, q1, q2, fun m' r1 r2 => ?_⟩
          by_cases z : m' = m
          · rw [z]; exact Int.le_refl _
          · have := hb m' (by omega) r2
            omega
        · cases b with
          | none => exact absurd rfl q3
          | some k =>
            have hk := hbm k rfl
            have dk := hub (24 + k) (by omega)
            have dk0 := (hB.1 (24 + k) (by omega)).1
            rw [show (24 : Int32) + zpI (some k) = nI (24 + k) from nI_add 24 k, nI_clamp (by omega), (hM (24 + k) (by omega)).1, iI_lt ⟨by omega, by omega⟩ ⟨by omega, by omega⟩]
            refine ⟨nI_in (by omega) (by omega), fun q4 => ?_, fun q4 => ?_⟩
            · refine ih (some m) _ ⟨by omega, q1, q2, fun m' r1 r2 => ?_⟩
              by_cases z : m' = m
              · rw [z]; exact Int.le_refl _
              · have := hb.2.2.2 m' (by omega) r2
                omega
            · refine ih (some k) _ ⟨by omega, hb.2.1, hb.2.2.1, fun m' r1 r2 => ?_⟩
              by_cases z : m' = m
              · rw [z]; omega
              · exact hb.2.2.2 m' (by omega) r2
      · rw [fa 108 (by decide) (by decide), show A 108 (Int32.toNatClampNeg ((159 * 1) + 2)) = nI (vN u) from m2']
        exact nI_lt hm' (by omega)
  -- on and on
  have more : ∀ (k : Nat) (A' : Nat → Nat → Int32) (d : Nat → Int) (fr : Nat → Option Nat) (z2 z3 z4 : Option Value), (20000 - zsm d 48).toNat ≤ k → (∀ c, c ≠ 121 → c ≠ 122 → A' c = A c) → mBm d fr A' → zBf (zcap p q l) (zec (zgain v u sp sn co)) (zEg (vN v) (vN u) (zAl v u sp) T) (zrt (vN v) (zfl v) T) d fr → zW L xs mX6_bestEnd 64 [some (.ref 107), some (.int 1), z2, z3, z4] [] (I, R, A', lo, dd) Φ := by
    intro k
    induction k with
    | zero =>
      intro A' d fr z2 z3 z4 hk fa hM hB
      have := zsm_ub (zBf_ub hD hB)
      omega
    | succ k ih =>
      intro A' d fr z2 z3 z4 hk fa hM hB
      refine vc_X6_bestEnd_64 ⟨fun z => absurd z (by decide), fun _ => s6_reachesMore (mEn_fq hE (fun c hc => fa c (by omega) (by omega))) hwf hwu hmp hm (fun k hk => by rw [fa 109 (by decide) (by decide)]; exact hc k hk) hT hTf (fun n hn => by rw [fa 119 (by decide) (by decide)]; exact h119 n hn) hD hM hB (fun A2 d2 fr2 f hf fa2 hM2 hB2 h0 h1 => zk_r (vc_X6_bestEnd_72 ?_))⟩
      have fa' : ∀ c, c ≠ 121 → c ≠ 122 → A2 c = A c := fun c c1 c2 => (fa2 c c1 c2).trans (fa c c1 c2)
      rcases Nat.le_one_iff_eq_zero_or_eq_one.mp hf with rfl | rfl
      · have hs := h0 rfl
        have hF : zfx (vN v) (vN u) (zAl v u sp) (zgain v u sp sn co) T d2 := ⟨fun n m hn hm e t r => (hs n m hn hm e).1 t r, fun n m hn hm t r => (hs n m hn hm (hTf n m t)).2 t r⟩
        exact vc_X6_bestEnd_64 ⟨fun _ => scan A2 d2 fr2 _ fa' hM2 hB2 hF 0 (Nat.zero_le _) none _ (fun m q => absurd q (Nat.not_lt_zero _)), fun z => absurd rfl z⟩
      · have hs := h1 rfl
        have hub := zsm_ub (zBf_ub hD hB2)
        exact ih A2 d2 fr2 _ _ _ (by omega) fa' hM2 hB2
  -- first
  have first : ∀ x, x ≤ 48 → ∀ (A' : Nat → Nat → Int32) (z2 z3 z4 : Option Value), (∀ c, c ≠ 121 → c ≠ 122 → A' c = A c) → (∀ y, y < x → A' 121 y = iI (cond (decide (y < vN v) && (T.1 y).isNone && !decide (vnd v 2 y = -1)) 0 (-1000000)) ∧ A' 122 y = -1) → zW L xs mX6_bestEnd 2 [some (.ref 107), some (.int (nI x)), z2, z3, z4] [] (I, R, A', lo, dd) Φ := by
    refine ze_up ?_ ?_
    · intro A' z2 z3 z4 fa g
      refine vc_X6_bestEnd_2 ⟨fun z => absurd z (by decide), fun _ => ?_⟩
      refine more _ A' (fun y => cond (decide (y < vN v) && (T.1 y).isNone && !decide (vnd v 2 y = -1)) 0 (-1000000)) (fun _ => none) z2 z3 z4 (Nat.le_refl _) fa g (zBf_0 (zDu_r hD) (fun x hx => ?_) (fun x hx r => ?_) (fun x hx r => ?_))
      · have h0 := hD.1
        have h1 := hpq.1 x
        have h2 := hpq.2 (x - 24)
        unfold zcap
        split <;> omega
      · obtain ⟨r1, r2, r3, r4⟩ := r
        rw [decide_eq_true r2, r4, decide_eq_false r3]
        rfl
      · by_cases y1 : x < vN v
        · by_cases y2 : vnd v 2 x = -1
          · rw [decide_eq_true y2, Bool.and_comm]; rfl
          · cases y3 : T.1 x with
            | none => exact absurd ⟨by omega, y1, y2, y3⟩ r
            | some m => rw [decide_eq_true y1]; rfl
        · rw [decide_eq_false y1]; rfl
    · intro x hx ih A' z2 z3 z4 fa g
      have nx : ∀ w : Int, w = cond (decide (x < vN v) && (T.1 x).isNone && !decide (vnd v 2 x = -1)) 0 (-1000000) → zW L xs mX6_bestEnd 2 [some (.ref 107), some (.int (nI (x + 1))), z2, z3, z4] [] (I, R, z_up (z_up A' 121 x (iI w)) 122 x (-1), lo, dd) Φ := fun w hw => ih _ z2 z3 z4 (fun c c1 c2 => by rw [← fa c c1 c2]; funext k; rw [zup_n (fun z => c2 z.1), zup_n (fun z => c1 z.1)]) (fun y hy => by
        by_cases z : y = x
        · rw [z]
          exact ⟨by rw [zup_n (by omega), zup_s, hw], zup_s⟩
        · obtain ⟨g1, g2⟩ := g y (by omega)
          exact ⟨by rw [zup_n (by omega), zup_n (by omega)]; exact g1, by rw [zup_n (by omega), zup_n (by omega)]; exact g2⟩)
      refine vc_X6_bestEnd_2 ⟨fun _ => ⟨by decide, fun q => ?_, fun q => ?_⟩, fun z => absurd (nI_lt (b := 48) hx (by decide)) z⟩
      · rw [fa 108 (by decide) (by decide), show A 108 (Int32.toNatClampNeg ((159 * 0) + 2)) = nI (vN v) from m2] at q
        have hn : x < vN v := (nI_ltI (by omega) (by omega)).mp q
        rw [nI_clamp (n := x) (by omega), zx02 (by omega), nI_clamp (n := 159 * 0 + 15 + 6 * x + 2) (by omega), fa 119 (by decide) (by decide), h119 x hn, zpI_none (htl x), fa 108 (by decide) (by decide), n2 x hn, iI_far, nI_1]
        refine ⟨nI_in (by omega) (by omega), fun q1 => ⟨nI_in (by omega) (by omega), fun q2 => ⟨nI_in (by omega) (by omega), nI_in (by omega) (by omega), nx _ ?_⟩, fun q2 => ⟨nI_in (by omega) (by omega), nI_in (by omega) (by omega), nx 0 ?_⟩⟩, fun q1 => ⟨nI_in (by omega) (by omega), nI_in (by omega) (by omega), nx _ ?_⟩⟩
        · rw [decide_eq_true q2, Bool.and_comm]; rfl
        · rw [decide_eq_true hn, q1, decide_eq_false q2]; rfl
        · cases e : T.1 x with
          | none => exact absurd e q1
          | some m => rw [decide_eq_true hn]; rfl
      · rw [fa 108 (by decide) (by decide), show A 108 (Int32.toNatClampNeg ((159 * 0) + 2)) = nI (vN v) from m2] at q
        have hn : ¬ x < vN v := fun z => q (nI_lt z (by omega))
        rw [nI_clamp (n := x) (by omega), iI_far, nI_1]
        exact ⟨nI_in (by omega) (by omega), nI_in (by omega) (by omega), nx _ (by rw [decide_eq_false hn]; rfl)⟩
  exact zC_en (vc_X6_bestEnd_0 (first 0 (Nat.zero_le _) A none none none (fun _ _ _ => rfl) (fun y hy => absurd hy (Nat.not_lt_zero _))))
end
