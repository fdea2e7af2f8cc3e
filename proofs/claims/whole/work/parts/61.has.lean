/-! the class's best pairing: all rows; the files -/
theorem zcnt_up {p : Nat → Bool} {n m : Nat} (h : n < m) (hp : p n = true) : zcnt p n + 1 ≤ zcnt p m := by
  induction m with
  | zero => omega
  | succ m ih =>
    show _ ≤ zcnt p m + (if p m = true then 1 else 0)
    by_cases e : n = m
    · rw [← e, if_pos hp]; exact Nat.le_refl _
    · have := ih (by omega)
      omega
/-- the i-th of those that are p (from 1) -/
def zfd (p : Nat → Bool) : Nat → Nat → Option Nat
  | 0, _ => none
  | n + 1, i => if p n = true ∧ zcnt p n + 1 = i then some n else zfd p n i
theorem zfd_iff {p : Nat → Bool} : ∀ N i n, zfd p N i = some n ↔ n < N ∧ p n = true ∧ zcnt p n + 1 = i := by
  intro N
  induction N with
  | zero => intro i n; exact ⟨fun z => (by cases z), fun z => absurd z.1 (Nat.not_lt_zero _)⟩
  | succ N ih =>
    intro i n
    unfold zfd
    by_cases q : p N = true ∧ zcnt p N + 1 = i
    · rw [if_pos q]
      constructor
      · intro e
        cases e
        exact ⟨by omega, q⟩
      · rintro ⟨e1, e2, e3⟩
        by_cases y : n = N
        · rw [y]
        · have := zcnt_up (p := p) (show n < N by omega) e2
          omega
    · rw [if_neg q, ih]
      constructor
      · rintro ⟨e1, e2⟩; exact ⟨by omega, e2⟩
      · rintro ⟨e1, e2⟩
        refine ⟨Nat.lt_of_le_of_ne (by omega) (fun y => q (by rw [← y]; exact e2)), e2⟩
def zfp (p : Nat → Bool) (N : Nat) : zM := (zfd p N, fun n => if n < N ∧ p n = true then some (zcnt p n + 1) else none)
theorem zfp_mo {p : Nat → Bool} {N s : Nat} (h : zcnt p N ≤ s) : zmo (s + 1) N (zfp p N) := by
  refine ⟨fun i n e => ?_, fun i n e => ?_⟩
  · obtain ⟨e1, e2, e3⟩ := (zfd_iff N i n).mp e
    have := zcnt_up e1 e2
    refine ⟨by omega, e1, ?_⟩
    show (if n < N ∧ p n = true then some (zcnt p n + 1) else none) = some i
    rw [if_pos ⟨e1, e2⟩, e3]
  · replace e : (if n < N ∧ p n = true then some (zcnt p n + 1) else none) = some i := e
    by_cases q : n < N ∧ p n = true
    · rw [if_pos q] at e
      have e3 : zcnt p n + 1 = i := by cases e; rfl
      have := zcnt_up q.1 q.2
      exact ⟨by omega, q.1, (zfd_iff N i n).mpr ⟨q.1, q.2, e3⟩⟩
    · rw [if_neg q] at e; cases e
theorem zfp_0 {p : Nat → Bool} {N : Nat} : (zfp p N).1 0 = none := by
  cases e : (zfp p N).1 0 with
  | none => rfl
  | some n => have := ((zfd_iff N 0 n).mp e).2.2; omega
theorem zfp_le {p : Nat → Bool} {N i : Nat} (h1 : 1 ≤ i) (h2 : i ≤ zcnt p N) : ∃ n, (zfp p N).1 i = some n ∧ n < N ∧ p n = true ∧ zcnt p n + 1 = i := by
  have key : ∀ N, i ≤ zcnt p N → ∃ n, n < N ∧ p n = true ∧ zcnt p n + 1 = i := by
    intro N
    induction N with
    | zero => intro q; have : zcnt p 0 = 0 := rfl; omega
    | succ N ih =>
      intro q
      by_cases y : i ≤ zcnt p N
      · obtain ⟨n, n1, n2⟩ := ih y
        exact ⟨n, by omega, n2⟩
      · have e : zcnt p (N + 1) = zcnt p N + (if p N = true then 1 else 0) := rfl
        by_cases w : p N = true
        · rw [if_pos w] at e
          exact ⟨N, by omega, w, by omega⟩
        · rw [if_neg w] at e
          omega
  obtain ⟨n, n1, n2, n3⟩ := key N h2
  exact ⟨n, (zfd_iff N i n).mpr ⟨n1, n2, n3⟩, n1, n2, n3⟩
theorem zfp_no {p : Nat → Bool} {N i : Nat} (h : zcnt p N < i) : (zfp p N).1 i = none := by
  cases e : (zfp p N).1 i with
  | none => rfl
  | some n =>
    obtain ⟨e1, e2, e3⟩ := (zfd_iff N i n).mp e
    have := zcnt_up e1 e2
    omega
section
variable {L : Nat} {xs : Nat → Int32} {I : Nat → Nat → Int32} {R : Nat → Nat → Option Nat} {A : Nat → Nat → Int32} {lo : Int64} {dd : UInt64} {Φ : zPo} {s : Nat} {x : Nat → Nat → Int}
theorem s0_assignAll (hs : s ≤ 24) (hI : I 72 4 = nI s) (hm1 : ∀ i j, 1 ≤ i → i ≤ s → 1 ≤ j → j ≤ s → A (75 + (1 + i)) j = iI (x i j)) (hx : ∀ i j, 1 ≤ i → i ≤ s → 1 ≤ j → j ≤ s → -198 ≤ x i j ∧ x i j ≤ 0) (h : ∀ (A' : Nat → Nat → Int32) (K : zM) (U V : Nat → Int), (∀ c, ¬ (101 ≤ c ∧ c ≤ 106) → A' c = A c) → zHq s s x K U V → (∀ j, 1 ≤ j → j ≤ s → A' 103 j = nI ((K.2 j).getD 0)) → Φ (.inl none) (I, R, A', lo, dd) 0) : zC L xs mX0_assignAll [.ref 72] (I, R, A, lo, dd) Φ := by
  have loop : ∀ i, i ≤ s → ∀ (A' : Nat → Nat → Int32) (K : zM) (U V : Nat → Int), (∀ c, ¬ (101 ≤ c ∧ c ≤ 106) → A' c = A c) → zHq s i x K U V → (∀ j, 1 ≤ j → j ≤ s → A' 103 j = nI ((K.2 j).getD 0)) → (∀ i, 1 ≤ i → i ≤ s → A' 101 i = iI (U i)) → (∀ j, 1 ≤ j → j ≤ s → A' 102 j = iI (V j)) → zW L xs mX0_assignAll 39 [some (.ref 72), some (.int (nI (i + 1)))] [] (I, R, A', lo, dd) Φ := by
    refine ze_up ?_ ?_
    · intro A' K U V fr hq h3 h1 h2
      exact vc_X0_assignAll_39 ⟨fun _ => h A' K U V fr hq h3, fun z => absurd (by rw [hI]; exact nI_lt (by omega) (by omega)) z⟩
    · intro i hi ih A' K U V fr hq h3 h1 h2
      obtain ⟨hmo, hro, hk0, hb, ht, hf, hfe⟩ := hq
      have hkn : K.1 (i + 1) = none := by
        cases e : K.1 (i + 1) with
        | none => rfl
        | some c => have := (hro (i + 1)).mp (by rw [e]; exact fun z => by cases z); omega
      have hK : zHr s (i + 1) (zse K.1 (i + 1) (some 0), zse K.2 0 (some (i + 1))) := by
        refine ⟨⟨fun a j e => ?_, fun a j e => ?_⟩, fun a => ?_, zse_s, by omega, by omega⟩
        · replace e : zse K.1 (i + 1) (some 0) a = some j := e
          show _ ∧ _ ∧ zse K.2 0 (some (i + 1)) j = some a
          by_cases q : a = i + 1
          · rw [q, zse_s] at e
            cases e
            exact ⟨by omega, by omega, by rw [zse_s, q]⟩
          · rw [zse_n q] at e
            obtain ⟨f1, f2, f3⟩ := hmo.1 a j e
            exact ⟨f1, f2, by rw [zse_n (fun z => by rw [z, hk0] at f3; cases f3)]; exact f3⟩
        · replace e : zse K.2 0 (some (i + 1)) j = some a := e
          show _ ∧ _ ∧ zse K.1 (i + 1) (some 0) a = some j
          by_cases q : j = 0
          · rw [q, zse_s] at e
            cases e
            exact ⟨by omega, by omega, by rw [zse_s, q]⟩
          · rw [zse_n q] at e
            obtain ⟨f1, f2, f3⟩ := hmo.2 a j e
            exact ⟨f1, f2, by rw [zse_n (fun z => by rw [z, hkn] at f3; cases f3)]; exact f3⟩
        · show zse K.1 (i + 1) (some 0) a ≠ none ↔ _
          by_cases q : a = i + 1
          · rw [q, zse_s]
            exact ⟨fun _ => by omega, fun _ z => by cases z⟩
          · rw [zse_n q, hro a]
            omega
      have hH : zHs s 0 x (zse K.1 (i + 1) (some 0), zse K.2 0 (some (i + 1))) U V := by
        refine ⟨hb, fun j r j1 e => ?_, fun j j1 j2 e => ?_, fun a c e hc j j1 j2 => ?_⟩
        · replace e : zse K.2 0 (some (i + 1)) j = some r := e
          rw [zse_n (by omega)] at e
          exact ht j r e
        · replace e : zse K.2 0 (some (i + 1)) j = none := e
          rw [zse_n (by omega)] at e
          exact hf j j1 j2 e
        · replace e : zse K.1 (i + 1) (some 0) a = some c := e
          by_cases q : a = i + 1
          · rw [q, zse_s] at e
            cases e
            omega
          · rw [zse_n q] at e
            have := (hro a).mp (by rw [e]; exact fun z => by cases z)
            exact hfe a this.1 this.2 j j1 j2
      refine vc_X0_assignAll_39 ⟨fun z => absurd z (by rw [hI]; exact nI_nlt (by omega) (by omega)), fun _ => s0_freeColumnFor hs hI hK hH (fun a j a1 a2 j1 j2 => by rw [fr _ (by omega)]; exact hm1 a j a1 a2 j1 j2) h1 h2 (fun j j1 j2 => by rw [h3 j j1 j2]; show _ = nI ((zse K.2 0 (some (i + 1)) j).getD 0); rw [zse_n (by omega)]) (fun A2 U2 V2 Q sl cf t j0 f2 m2 i2 t2 e2 g4 => zk_r (vc_X0_assignAll_53 ?_))⟩
      refine s0_assignAlong hs hI hK i2 t2 e2 m2.2.2.2 g4 (fun A3 K3 f3 q3 g3 => zk_r (vc_X0_assignAll_56 ?_))
      rw [nI_1]
      refine ih A3 K3 U2 V2 (fun c hc => by rw [f3 c (by omega), f2 c hc, fr c hc]) q3 g3 (fun a a1 a2 => by rw [f3 101 (by decide)]; exact m2.2.1 a a1 a2) (fun j j1 j2 => by rw [f3 102 (by decide)]; exact m2.2.2.1 j j1 j2)
  have init : ∀ j, j ≤ s + 1 → ∀ A' : Nat → Nat → Int32, (∀ c, ¬ (101 ≤ c ∧ c ≤ 106) → A' c = A c) → (∀ k, k < j → A' 101 k = iI 0 ∧ A' 102 k = iI 0 ∧ A' 103 k = 0) → zW L xs mX0_assignAll 2 [some (.ref 72), some (.int (nI j))] [] (I, R, A', lo, dd) Φ := by
    refine ze_up ?_ ?_
    · intro A' fr g
      refine vc_X0_assignAll_2 ⟨fun _ => ?_, fun z => absurd (by rw [hI]; exact nI_lt (by omega) (by omega)) z⟩
      refine loop 0 (Nat.zero_le _) A' (fun _ => none, fun _ => none) (fun _ => 0) (fun _ => 0) fr ⟨⟨fun _ _ e => (by cases e), fun _ _ e => (by cases e)⟩, fun i => ⟨fun z => absurd rfl z, fun z => by omega⟩, rfl, ⟨hx, fun _ _ _ => show (-198 : Int) ≤ 0 ∧ (0 : Int) ≤ 0 by decide, fun _ _ _ => show (-198 : Int) ≤ 0 ∧ (0 : Int) ≤ 0 by decide⟩, fun _ _ e => (by cases e), fun _ _ _ _ => rfl, fun i i1 i2 => by omega⟩ (fun j j1 j2 => (g j (by omega)).2.2) (fun i i1 i2 => (g i (by omega)).1) (fun j j1 j2 => (g j (by omega)).2.1)
    · intro j hj ih A' fr g
      refine vc_X0_assignAll_2 ⟨fun z => absurd z (by rw [hI]; exact nI_nlt (by omega) (by omega)), fun _ => ⟨nI_in (by omega) (by omega), nI_in (by omega) (by omega), nI_in (by omega) (by omega), ?_⟩⟩
      rw [nI_clamp (by omega), nI_1]
      refine ih _ (fun c hc => by rw [← fr c hc]; funext k; rw [zup_n (by omega), zup_n (by omega), zup_n (by omega)]) (fun k hk => ?_)
      by_cases y : k = j
      · rw [y]
        exact ⟨by rw [zup_n (by omega), zup_n (by omega), zup_s]; rfl, by rw [zup_n (by omega), zup_s]; rfl, zup_s⟩
      · obtain ⟨g1, g2, g3⟩ := g k (by omega)
        exact ⟨by rw [zup_n (by omega), zup_n (by omega), zup_n (by omega)]; exact g1, by rw [zup_n (by omega), zup_n (by omega), zup_n (by omega)]; exact g2, by rw [zup_n (by omega), zup_n (by omega), zup_n (by omega)]; exact g3⟩
  exact zC_en (vc_X0_assignAll_0 (init 0 (Nat.zero_le _) A (fun _ _ => rfl) (fun k hk => absurd hk (Nat.not_lt_zero _))))
end
/-- an old file whose partition is matched; a new file -/
def zfo (v : zV) (tp : Nat → Option Nat) (n : Nat) : Bool := !decide (vnd v 2 n = -1) && (tp (vhom v n)).isSome
def zfw (u : zV) (m : Nat) : Bool := !decide (vnd u 2 m = -1)
section
variable {L : Nat} {xs : Nat → Int32} {I : Nat → Nat → Int32} {R : Nat → Nat → Option Nat} {A : Nat → Nat → Int32} {lo : Int64} {dd : UInt64} {Φ : zPo} {b a : Nat} {v u : zV} {sp : zM} {sn : zMn}
theorem s0_listFiles (hb : z_ib b) (ha : z_ib a) (hRb : R 48 0 = some b) (hRa : R 48 1 = some a) (hE : zEn b a 48 v u sp sn I A) (hwf : zwf v) (hwu : zwf u) (hmp : zmo (vP v) (vP u) sp) (h : ∀ I' A' : Nat → Nat → Int32, (∀ c, c ≠ 72 → I' c = I c) → (∀ c, c ≠ 73 → c ≠ 74 → A' c = A c) → I' 72 2 = nI (zcnt (zfo v sp.1) (vN v)) → I' 72 3 = nI (zcnt (zfw u) (vN u)) → I' 72 4 = nI (max (zcnt (zfo v sp.1) (vN v)) (zcnt (zfw u) (vN u))) → (∀ n, n < vN v → zfo v sp.1 n = true → A' 73 (zcnt (zfo v sp.1) n + 1) = nI n) → (∀ m, m < vN u → zfw u m = true → A' 74 (zcnt (zfw u) m + 1) = nI m) → Φ (.inl none) (I', R, A', lo, dd) 0) : zC L xs mX0_listFiles [.ref 72, .ref 48] (I, R, A, lo, dd) Φ := by
  have h45 := z_ib_45 hb
  have h45a := z_ib_45 ha
  obtain ⟨⟨hS, hP, hN, p0, p1, p2, n0, n1, n2, n3, n4, n5, n6⟩, ⟨hS', hP', hN', p0', p1', p2', n0', n1', n2', n3', n4', n5', n6'⟩, ⟨e3, -⟩, -⟩ := hE
  have w1 := hwf.1
  have w2 := hwf.2.1
  have w3 := hwu.2.1
  have w4 := hwu.1
  have second : ∀ m, m ≤ vN u → ∀ I' A' : Nat → Nat → Int32, (∀ c, c ≠ 72 → I' c = I c) → (∀ c, c ≠ 73 → c ≠ 74 → A' c = A c) → I' 72 2 = nI (zcnt (zfo v sp.1) (vN v)) → I' 72 3 = nI (zcnt (zfw u) m) → (∀ n, n < vN v → zfo v sp.1 n = true → A' 73 (zcnt (zfo v sp.1) n + 1) = nI n) → (∀ k, k < m → zfw u k = true → A' 74 (zcnt (zfw u) k + 1) = nI k) → zW L xs mX0_listFiles 87 [some (.ref 72), some (.ref 48), some (.ref b), some (.ref a), some (.int (nI m))] [] (I', R, A', lo, dd) Φ := by
    refine ze_up ?_ ?_
    · intro I' A' fi fa g2 g3 g73 g74
      refine vc_X0_listFiles_87 hb ha ?_
      rw [fi a (by omega), hN', g2, g3]
      refine ⟨fun z => absurd z (nI_nlt (by omega) (by omega)), fun _ => h _ A' (fun c hc => by rw [← fi c hc]; funext k; rw [zup_n (fun z => hc z.1)]) fa (by rw [zup_n (by omega)]; exact g2) (by rw [zup_n (by omega)]; exact g3) ?_ g73 g74⟩
      have q1 := zcnt_le (zfo v sp.1) (vN v)
      have q2 := zcnt_le (zfw u) (vN u)
      rw [zup_s]
      by_cases q : zcnt (zfo v sp.1) (vN v) < zcnt (zfw u) (vN u)
      · rw [if_pos (nI_lt q (by omega)), show max (zcnt (zfo v sp.1) (vN v)) (zcnt (zfw u) (vN u)) = zcnt (zfw u) (vN u) by omega]
      · rw [if_neg (nI_nlt (by omega) (by omega)), show max (zcnt (zfo v sp.1) (vN v)) (zcnt (zfw u) (vN u)) = zcnt (zfo v sp.1) (vN v) by omega]
    · intro m hm ih I' A' fi fa g2 g3 g73 g74
      have hc := zcnt_le (zfw u) m
      have e6 : A' (a + 6) m = vnd u 2 m := by rw [fa _ (by omega) (by omega)]; exact n2' m hm
      refine vc_X0_listFiles_87 hb ha ?_
      rw [fi a (by omega), hN', nI_clamp (by omega), e6, g3, zup_s, nI_1, nI_1, nI_clamp (by omega)]
      refine ⟨fun _ => ⟨nI_in (by omega) (by omega), fun q => ?_, fun q => ⟨nI_in (by omega) (by omega), ?_⟩⟩, fun z => absurd (nI_lt hm (by omega)) z⟩
      · have e : zfw u m = false := by unfold zfw; rw [decide_eq_true q]; rfl
        have e2 : zcnt (zfw u) (m + 1) = zcnt (zfw u) m := by show _ + (if _ then _ else _) = _; rw [if_neg (fun z => by rw [e] at z; cases z)]; rfl
        refine ih I' A' fi fa g2 (by rw [e2]; exact g3) g73 (fun k hk hkt => g74 k (Nat.lt_of_le_of_ne (by omega) (fun z => by rw [z, e] at hkt; cases hkt)) hkt)
      · have e : zfw u m = true := by unfold zfw; rw [decide_eq_false q]; rfl
        have e2 : zcnt (zfw u) (m + 1) = zcnt (zfw u) m + 1 := by show _ + (if _ then _ else _) = _; rw [if_pos e]
        refine ih _ _ (fun c hc => by rw [← fi c hc]; funext k; rw [zup_n (fun z => hc z.1)]) (fun c c1 c2 => by rw [← fa c c1 c2]; funext k; rw [zup_n (fun z => c2 z.1)]) (by rw [zup_n (by omega)]; exact g2) (by rw [zup_s, e2]) (fun n hn hnt => by rw [zup_n (by omega)]; exact g73 n hn hnt) (fun k hk hkt => ?_)
        by_cases z : k = m
        · rw [z, zup_s]
        · have := zcnt_up (show k < m by omega) hkt
          rw [zup_n (by omega)]
          exact g74 k (by omega) hkt
  have first : ∀ n, n ≤ vN v → ∀ I' A' : Nat → Nat → Int32, (∀ c, c ≠ 72 → I' c = I c) → (∀ c, c ≠ 73 → c ≠ 74 → A' c = A c) → I' 72 2 = nI (zcnt (zfo v sp.1) n) → (∀ k, k < n → zfo v sp.1 k = true → A' 73 (zcnt (zfo v sp.1) k + 1) = nI k) → zW L xs mX0_listFiles 18 [some (.ref 72), some (.ref 48), some (.ref b), some (.ref a), some (.int (nI n))] [] (I', R, A', lo, dd) Φ := by
    refine ze_up ?_ ?_
    · intro I' A' fi fa g2 g73
      refine vc_X0_listFiles_18 hb ha ⟨fun z => absurd z (by rw [fi b (by omega), hN]; exact nI_nlt (by omega) (by omega)), fun _ => ?_⟩
      exact second 0 (Nat.zero_le _) _ A' (fun c hc => by rw [← fi c hc]; funext k; rw [zup_n (fun z => hc z.1)]) fa (by rw [zup_n (by omega)]; exact g2) zup_s g73 (fun k hk => absurd hk (Nat.not_lt_zero _))
    · intro n hn ih I' A' fi fa g2 g73
      have hc := zcnt_le (zfo v sp.1) n
      have hh := hwf.2.2.1 n hn
      have e6 : A' (b + 6) n = vnd v 2 n := by rw [fa _ (by omega) (by omega)]; exact n2 n hn
      have e9 : A' (b + 9) n = nI (vhom v n) := by rw [fa _ (by omega) (by omega)]; exact n5 n hn
      have e49 : A' 49 (vhom v n) = zpI (sp.1 (vhom v n)) := by rw [fa _ (by omega) (by omega)]; exact e3 _ (by omega)
      have hpl : ∀ k, sp.1 (vhom v n) = some k → k < 2 ^ 31 := fun k hk => by have := (hmp.1 _ _ hk).2.1; omega
      refine vc_X0_listFiles_18 hb ha ?_
      rw [fi b (by omega), hN, nI_clamp (by omega), e6, e9, nI_clamp (by omega), e49, g2, zup_s, nI_1, nI_1, nI_clamp (by omega), zpI_none hpl]
      have no : zfo v sp.1 n = false → zW L xs mX0_listFiles 18 [some (.ref 72), some (.ref 48), some (.ref b), some (.ref a), some (.int (nI (n + 1)))] [] (I', R, A', lo, dd) Φ := fun e => by
        have e2 : zcnt (zfo v sp.1) (n + 1) = zcnt (zfo v sp.1) n := by show _ + (if _ then _ else _) = _; rw [if_neg (fun z => by rw [e] at z; cases z)]; rfl
        exact ih I' A' fi fa (by rw [e2]; exact g2) (fun k hk hkt => g73 k (Nat.lt_of_le_of_ne (by omega) (fun z => by rw [z, e] at hkt; cases hkt)) hkt)
      refine ⟨fun _ => ⟨nI_in (by omega) (by omega), fun q => no (by unfold zfo; rw [decide_eq_true q]; rfl), fun q => ⟨nI_in (by omega) (by omega), nI_in (by omega) (by omega), fun q2 => no (by unfold zfo; rw [q2]; exact Bool.and_false _), fun q2 => ⟨nI_in (by omega) (by omega), ?_⟩⟩⟩, fun z => absurd (nI_lt hn (by omega)) z⟩
      have e : zfo v sp.1 n = true := by
        unfold zfo
        rw [decide_eq_false q]
        cases y : sp.1 (vhom v n) with
        | none => exact absurd y q2
        | some k => rfl
      have e2 : zcnt (zfo v sp.1) (n + 1) = zcnt (zfo v sp.1) n + 1 := by show _ + (if _ then _ else _) = _; rw [if_pos e]
      refine ih _ _ (fun c hc => by rw [← fi c hc]; funext k; rw [zup_n (fun z => hc z.1)]) (fun c c1 c2 => by rw [← fa c c1 c2]; funext k; rw [zup_n (fun z => c1 z.1)]) (by rw [zup_s, e2]) (fun k hk hkt => ?_)
      by_cases z : k = n
      · rw [z, zup_s]
      · have := zcnt_up (show k < n by omega) hkt
        rw [zup_n (by omega)]
        exact g73 k (by omega) hkt
  exact zC_en (vc_X0_listFiles_0 hb ha hRb hRa (first 0 (Nat.zero_le _) _ A (fun c hc => by funext k; rw [zup_n (fun z => hc z.1)]) (fun _ _ _ => rfl) zup_s (fun k hk => absurd hk (Nat.not_lt_zero _))))
end
