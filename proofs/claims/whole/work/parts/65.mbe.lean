/-! the model's best pairing: the best end -/
theorem iI_far : (-1000000 : Int32) = iI (-1000000) := by decide
def zAl (v u : zV) (sp : zM) (n m : Nat) : Prop := ¬ vnd v 2 n = -1 ∧ ¬ vnd u 2 m = -1 ∧ sp.1 (vhom v n) = some (vhom u m)
def zfl (v : zV) (n : Nat) : Prop := ¬ vnd v 2 n = -1
def mBm (d : Nat → Int) (fr : Nat → Option Nat) (A : Nat → Nat → Int32) : Prop := ∀ x, x < 48 → A 121 x = iI (d x) ∧ A 122 x = zpI (fr x)
/-- this pair leads no further -/
def zst (E : Nat → Nat → Prop) (g : Nat → Nat → Int) (T : zM) (d : Nat → Int) (n m : Nat) : Prop := E n m → (T.1 n ≠ some m → -1000000 < d n → d n + g n m ≤ d (24 + m)) ∧ (T.1 n = some m → -1000000 < d (24 + m) → d (24 + m) - g n m ≤ d n)
section
variable {L : Nat} {xs : Nat → Int32} {I : Nat → Nat → Int32} {R : Nat → Nat → Option Nat} {A : Nat → Nat → Int32} {lo : Int64} {dd : UInt64} {Φ : zPo} {v u : zV} {sp : zM} {sn : zMn} {co : Nat → Nat} {T : zM} {p q : Nat → Int} {l : Int}
theorem s6_reachesMore (hE : mEn 0 1 v u sp sn I A) (hwf : zwf v) (hwu : zwf u) (hmp : zmo (vP v) (vP u) sp) (hm : zmo (vN v) (vN u) sn.1) (hc : mCo co A) (hT : zmo (vN v) (vN u) T) (hTf : ∀ n m, T.1 n = some m → zAl v u sp n m) (h119 : ∀ n, n < vN v → A 119 n = zpI (T.1 n)) (hD : zDu (vN v) (vN u) (zAl v u sp) (zfl v) (zgain v u sp sn co) T p q l) {d : Nat → Int} {fr : Nat → Option Nat} (hM : mBm d fr A) (hB : zBf (zcap p q l) (zec (zgain v u sp sn co)) (zEg (vN v) (vN u) (zAl v u sp) T) (zrt (vN v) (zfl v) T) d fr) (h : ∀ (A' : Nat → Nat → Int32) (d' : Nat → Int) (fr' : Nat → Option Nat) (f : Nat), f ≤ 1 → (∀ c, c ≠ 121 → c ≠ 122 → A' c = A c) → mBm d' fr' A' → zBf (zcap p q l) (zec (zgain v u sp sn co)) (zEg (vN v) (vN u) (zAl v u sp) T) (zrt (vN v) (zfl v) T) d' fr' → (f = 0 → ∀ n m, n < vN v → m < vN u → zst (zAl v u sp) (zgain v u sp sn co) T d' n m) → (f = 1 → zsm d 48 < zsm d' 48) → Φ (.inl (some (.int (nI f)))) (I, R, A', lo, dd) 0) : zC L xs mX6_reachesMore [.ref 107] (I, R, A, lo, dd) Φ := by
  have w1 := hwf.1
  have w2 := hwf.2.1
  have w3 := hwu.2.1
  have w4 := hwu.1
  have hco : ∀ k, k < 11 → co k ≤ 99 := fun k hk => (hc k hk).2
  have hgb := fun n m => zgain_b (v := v) (u := u) (sp := sp) (sn := sn) (i := n) (j := m) hco
  have hcc := zDu_c hgb hD
  have hrr := zDu_r hD
  obtain ⟨-, -, ⟨-, -, m2, -, -, -, -, -, n2, -, -, n5⟩, ⟨-, -, m2', -, -, -, -, -, n2', -, -, n5'⟩, ⟨e3, -⟩, -⟩ := id hE
  have hgl : ∀ m, m < vN u → zcap p q l (24 + m) ≤ 198 := fun m hm => by
    have := hD.1
    have := hD.2.2.1 m hm
    rw [zcp_n]
    omega
  have hgo : ∀ n, n < vN v → zcap p q l n ≤ 0 := fun n hn => by
    have := hD.2.1 n hn
    rw [zcp_o (by omega)]
    omega
  have or1 : ∀ f, f ≤ 1 → ((nI f ||| 0 : Int32) = nI f ∧ (nI f ||| 1 : Int32) = nI 1) := fun f hf => by
    rcases Nat.le_one_iff_eq_zero_or_eq_one.mp hf with rfl | rfl
    · exact ⟨by decide, by decide⟩
    · exact ⟨by decide, by decide⟩
  have outer : ∀ n, n ≤ vN v → ∀ (A' : Nat → Nat → Int32) (d' : Nat → Int) (fr' : Nat → Option Nat) (f : Nat) (zx : Option Value), f ≤ 1 → (∀ c, c ≠ 121 → c ≠ 122 → A' c = A c) → mBm d' fr' A' → zBf (zcap p q l) (zec (zgain v u sp sn co)) (zEg (vN v) (vN u) (zAl v u sp) T) (zrt (vN v) (zfl v) T) d' fr' → (f = 0 → ∀ n' m, n' < n → m < vN u → zst (zAl v u sp) (zgain v u sp sn co) T d' n' m) → (f = 1 → zsm d 48 < zsm d' 48) → zsm d 48 ≤ zsm d' 48 → zW L xs mX6_reachesMore 4 [some (.ref 107), some (.int (nI f)), some (.int (nI n)), zx] [] (I, R, A', lo, dd) Φ := by
    refine ze_up ?_ ?_
    · intro A' d' fr' f zx hf fa hM hB h0 h1 _
      refine vc_X6_reachesMore_4 ⟨by decide, fun z => absurd z ?_, fun _ => ⟨?_, h A' d' fr' f hf fa hM hB (fun e n m hn hm => h0 e n m hn hm) h1⟩⟩
      · rw [fa 108 (by decide) (by decide), show A 108 (Int32.toNatClampNeg ((159 * 0) + 2)) = nI (vN v) from m2]
        exact nI_nlt (by omega) (by omega)
      · rcases Nat.le_one_iff_eq_zero_or_eq_one.mp hf with rfl | rfl
        · exact Or.inl rfl
        · exact Or.inr rfl
    · intro n hn iho A' d' fr' f zx hf fa hM hB h0 h1 hle
      have hh := hwf.2.2.1 n hn
      have inner : ∀ m, m ≤ vN u → ∀ (A' : Nat → Nat → Int32) (d' : Nat → Int) (fr' : Nat → Option Nat) (f : Nat), f ≤ 1 → (∀ c, c ≠ 121 → c ≠ 122 → A' c = A c) → mBm d' fr' A' → zBf (zcap p q l) (zec (zgain v u sp sn co)) (zEg (vN v) (vN u) (zAl v u sp) T) (zrt (vN v) (zfl v) T) d' fr' → (f = 0 → ∀ n' m', n' ≤ n → m' < vN u → (n' < n ∨ m' < m) → zst (zAl v u sp) (zgain v u sp sn co) T d' n' m') → (f = 1 → zsm d 48 < zsm d' 48) → zsm d 48 ≤ zsm d' 48 → zW L xs mX6_reachesMore 15 [some (.ref 107), some (.int (nI f)), some (.int (nI n)), some (.int (nI m))] [] (I, R, A', lo, dd) Φ := by
        refine ze_up ?_ ?_
        · intro A' d' fr' f hf fa hM hB h0 h1 hle
          refine vc_X6_reachesMore_15 ⟨by decide, fun z => absurd z ?_, fun _ => ?_⟩
          · rw [fa 108 (by decide) (by decide), show A 108 (Int32.toNatClampNeg ((159 * 1) + 2)) = nI (vN u) from m2']
            exact nI_nlt (by omega) (by omega)
          · rw [nI_1]
            exact iho A' d' fr' f _ hf fa hM hB (fun e n' m' hn' hm' => h0 e n' m' (by omega) hm' (by omega)) h1 hle
        · intro m hm' ihm A' d' fr' f hf fa hM hB h0 h1 hle
          have hhm := hwu.2.2.1 m hm'
          -- nothing new here
          have nx0 : zst (zAl v u sp) (zgain v u sp sn co) T d' n m → zW L xs mX6_reachesMore 15 [some (.ref 107), some (.int (nI f)), some (.int (nI n)), some (.int (nI (m + 1)))] [] (I, R, A', lo, dd) Φ := fun hs => ihm A' d' fr' f hf fa hM hB (fun e n' m' q1 q2 q3 => by
            by_cases z : n' = n ∧ m' = m
            · rw [z.1, z.2]; exact hs
            · exact h0 e n' m' q1 q2 (by omega)) h1 hle
          -- farther
          have nx1 : ∀ x y, x < 48 → y < 48 → zEg (vN v) (vN u) (zAl v u sp) T x y → -1000000 < d' x → d' y < d' x + zec (zgain v u sp sn co) x y → zW L xs mX6_reachesMore 15 [some (.ref 107), some (.int (nI 1)), some (.int (nI n)), some (.int (nI (m + 1)))] [] (I, R, z_up (z_up A' 121 y (iI (d' x + zec (zgain v u sp sn co) x y))) 122 y (nI x), lo, dd) Φ := fun x y hx hy he hr hlt => by
            have hup := zBf_up hcc hrr hB hx hy he hr hlt
            have hsm : zsm d' 48 < zsm (zse d' y (d' x + zec (zgain v u sp sn co) x y)) 48 := by
              rw [zsm_se (f := d') (a := y) hy (fun i hi => zse_n hi), zse_s]
              omega
            refine ihm _ _ _ 1 (Nat.le_refl _) (fun c c1 c2 => by rw [← fa c c1 c2]; funext k; rw [zup_n (fun z => c2 z.1), zup_n (fun z => c1 z.1)]) (fun z hz => ?_) hup (fun e => by omega) (fun _ => by omega) (by omega)
            by_cases e : z = y
            · rw [e]
              exact ⟨by rw [zup_n (by omega), zup_s, zse_s], by rw [zup_s, zse_s]; rfl⟩
            · obtain ⟨g1, g2⟩ := hM z hz
              exact ⟨by rw [zup_n (by omega), zup_n (by omega), zse_n e]; exact g1, by rw [zup_n (by omega), zup_n (by omega), zse_n e]; exact g2⟩
          have hpl : ∀ k, sp.1 (vhom v n) = some k → k < 2 ^ 31 := fun k hk => by have := (hmp.1 _ _ hk).2.1; omega
          have htl : ∀ k, T.1 n = some k → k < 2 ^ 31 := fun k hk => by have := (hT.1 _ _ hk).2.1; omega
          have hE' : mEn 0 1 v u sp sn I A' := mEn_fq hE (fun c hc => fa c (by omega) (by omega))
          have hc' : mCo co A' := fun k hk => by rw [fa 109 (by decide) (by decide)]; exact hc k hk
          have gb := hgb n m
          refine vc_X6_reachesMore_15 ⟨by decide, fun _ => ?_, fun z => absurd ?_ z⟩
          · rw [nI_clamp (n := n) (by omega), zx02 (by omega), zx05 (by omega), zx12 (by omega), zx15 (by omega), nI_clamp (n := 159 * 0 + 15 + 6 * n + 2) (by omega), nI_clamp (n := 159 * 0 + 15 + 6 * n + 5) (by omega), nI_clamp (n := 159 * 1 + 15 + 6 * m + 2) (by omega), nI_clamp (n := 159 * 1 + 15 + 6 * m + 5) (by omega), fa 108 (by decide) (by decide), n2 n hn, n2' m hm', n5 n hn, n5' m hm', nI_clamp (n := vhom v n) (by omega), fa 113 (by decide) (by decide), e3 _ (by omega), zpI_eqn hpl (by omega), fa 119 (by decide) (by decide), h119 n hn, zpI_eqn htl (by omega), show (24 : Int32) + nI m = nI (24 + m) from nI_add 24 m, nI_clamp (n := 24 + m) (by omega), (hM n (by omega)).1, (hM (24 + m) (by omega)).1, iI_far, (or1 f hf).1, nI_1]
            have dn := hB.1 n (by omega)
            have dm := hB.1 (24 + m) (by omega)
            have cn := hgo n hn
            have cm := hgl m hm'
            rw [iI_lt ⟨by omega, by omega⟩ ⟨by omega, by omega⟩, iI_lt ⟨by omega, by omega⟩ ⟨by omega, by omega⟩]
            refine ⟨nI_in (by omega) (by omega), fun q1 => nx0 (fun e => absurd q1 e.1), fun q1 => ⟨nI_in (by omega) (by omega), fun q2 => nx0 (fun e => absurd q2 e.2.1), fun q2 => ⟨nI_in (by omega) (by omega), nI_in (by omega) (by omega), nI_in (by omega) (by omega), fun q3 => ⟨nI_in (by omega) (by omega), fun q4 => ⟨nI_in (by omega) (by omega), fun q5 => ⟨nI_in (by omega) (by omega), ?_⟩, fun q5 => nx0 (fun _ => ⟨fun z => absurd q4 z, fun _ z => absurd z q5⟩)⟩, fun q4 => ⟨nI_in (by omega) (by omega), fun q5 => ⟨nI_in (by omega) (by omega), ?_⟩, fun q5 => nx0 (fun _ => ⟨fun _ z => absurd z q5, fun z => absurd z q4⟩)⟩⟩, fun q3 => nx0 (fun e => absurd e.2.2 q3)⟩⟩⟩
            · refine s6_gain (by decide) (by decide) hE' hwf hwu hmp hm hc' hn hm' (zk_r (vc_X6_reachesMore_79 ?_))
              have lo := zBf_lo hB (x := 24 + m) (by omega) q5
              have hec : zec (zgain v u sp sn co) (24 + m) n = - zgain v u sp sn co n m := zec_n
              rw [iI_sub, nI_clamp (by omega), (hM n (by omega)).1, iI_lt ⟨by omega, by omega⟩ ⟨by omega, by omega⟩, show (24 : Int32) + nI m = nI (24 + m) from nI_add 24 m, (or1 f hf).1, (or1 f hf).2, nI_1]
              refine ⟨nI_in (by omega) (by omega), fun q6 => ⟨nI_in (by omega) (by omega), nI_in (by omega) (by omega), ?_⟩, fun q6 => nx0 (fun _ => ⟨fun z => absurd q4 z, fun _ _ => by omega⟩)⟩
              have := nx1 (24 + m) n (by omega) (by omega) ((zEg_n (by omega)).mpr ⟨hn, hm', q4⟩) q5 (by rw [hec]; omega)
              rw [hec] at this
              exact this
            · refine s6_gain (by decide) (by decide) hE' hwf hwu hmp hm hc' hn hm' (zk_r (vc_X6_reachesMore_130 ?_))
              have lo := zBf_lo hB (x := n) (by omega) q5
              have hec : zec (zgain v u sp sn co) n (24 + m) = zgain v u sp sn co n m := zec_o (by omega)
              rw [iI_add, nI_clamp (by omega), (hM (24 + m) (by omega)).1, iI_lt ⟨by omega, by omega⟩ ⟨by omega, by omega⟩, (or1 f hf).1, (or1 f hf).2, nI_1]
              refine ⟨nI_in (by omega) (by omega), fun q6 => ⟨nI_in (by omega) (by omega), nI_in (by omega) (by omega), ?_⟩, fun q6 => nx0 (fun _ => ⟨fun _ _ => by omega, fun z => absurd z q4⟩)⟩
              have := nx1 n (24 + m) (by omega) (by omega) ((zEg_o (by omega)).mpr ⟨hn, hm', ⟨q1, q2, q3⟩, q4⟩) q5 (by rw [hec]; omega)
              rw [hec] at this
              exact this
          · rw [fa 108 (by decide) (by decide), show A 108 (Int32.toNatClampNeg ((159 * 1) + 2)) = nI (vN u) from m2']
            exact nI_lt hm' (by omega)
      refine vc_X6_reachesMore_4 ⟨by decide, fun _ => ?_, fun z => absurd ?_ z⟩
      · exact inner 0 (Nat.zero_le _) A' d' fr' f hf fa hM hB (fun e n' m' q1 q2 q3 => h0 e n' m' (by omega) q2) h1 hle
      · rw [fa 108 (by decide) (by decide), show A 108 (Int32.toNatClampNeg ((159 * 0) + 2)) = nI (vN v) from m2]
        exact nI_lt hn (by omega)
  exact zC_en (vc_X6_reachesMore_0 (outer 0 (Nat.zero_le _) A d fr 0 none (by omega) (fun _ _ _ => rfl) hM hB (fun _ n' m' q => absurd q (Nat.not_lt_zero _)) (fun z => by omega) (Int.le_refl _)))
end
