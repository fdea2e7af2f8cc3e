/-! removing and moving: the image afterwards is one -/
def zor (n s k : Nat) : Nat := if k < n then k else k + s
def zrm (v : zV) (n : Nat) : zV := zrn v (zor n (zte v n - n)) (vN v - (zte v n - n))
def zdo (v : zV) (o : Option Nat) : Nat := match o with
  | none => 0
  | some d => vdep v d
def zv1 (v : zV) (n : Nat) (o : Option Nat) : zV := (vS v, vP v, vN v, vpt v, vnd v, fun k => if k = n then o else vpar v k, vhom v, fun k => if n ≤ k ∧ k < zte v n then vdep v k + (zdo v o + 1) - vdep v n else vdep v k)
def zom (n s t k : Nat) : Nat := if t ≤ n then (if k < t then k else if k < t + s then n + (k - t) else if k < n + s then k - s else k) else (if k < n then k else if k < t - s then k + s else if k < t then n + (k - (t - s)) else k)
def zmv (v : zV) (n : Nat) (o : Option Nat) : zV := zrn (zv1 v n o) (zom n (zte v n - n) (zbh v n o)) (vN v)
theorem zwf_rm {v : zV} (hw : zwf v) {n : Nat} (hn : n < vN v) : zwf (zrm v n) ∧ zinj (zor n (zte v n - n)) (vN v - (zte v n - n)) ∧ (∀ k, k < vN v - (zte v n - n) → zor n (zte v n - n) k < vN v) ∧ (∀ k p, k < vN v - (zte v n - n) → vpar v (zor n (zte v n - n) k) = some p → ∃ j, j < vN v - (zte v n - n) ∧ zor n (zte v n - n) j = p) := by
  have hw0 := hw
  obtain ⟨w1, w2, w3, w4, w5, w6, w7, w8, w9⟩ := hw
  have hg := zte_gt v n
  have hl := zte_le hn
  have hor : ∀ k, (k < n ∧ zor n (zte v n - n) k = k) ∨ (n ≤ k ∧ zor n (zte v n - n) k = k + (zte v n - n)) := fun k => by
    unfold zor
    split
    · exact Or.inl ⟨‹_›, rfl⟩
    · exact Or.inr ⟨by omega, rfl⟩
  have hinj : zinj (zor n (zte v n - n)) (vN v - (zte v n - n)) := fun i j hi hj e => by
    rcases hor i with a | a <;> rcases hor j with c | c <;> omega
  have hlt : ∀ k, k < vN v - (zte v n - n) → zor n (zte v n - n) k < vN v := fun k hk => by rcases hor k with a | a <;> omega
  have hmono : ∀ i j, i < j → zor n (zte v n - n) i < zor n (zte v n - n) j := fun i j h => by rcases hor i with a | a <;> rcases hor j with c | c <;> omega
  have hout : ∀ k, ¬ (n ≤ zor n (zte v n - n) k ∧ zor n (zte v n - n) k < zte v n) := fun k => by rcases hor k with a | a <;> omega
  have hkeep : ∀ k p, k < vN v - (zte v n - n) → vpar v (zor n (zte v n - n) k) = some p → ∃ j, j < vN v - (zte v n - n) ∧ zor n (zte v n - n) j = p := by
    intro k p hk hp
    have h1 := zte_par hw0 (hlt k hk) hp (fun z => hout k (by rw [z]; exact ⟨Nat.le_refl _, hg⟩)) hn
    have h2 : ¬ (n ≤ p ∧ p < zte v n) := fun z => hout k (h1.mpr z)
    have h3 := (w4 _ p (hlt k hk) hp).1
    have h4 := hlt k hk
    by_cases e : p < n
    · exact ⟨p, by omega, if_pos e⟩
    · refine ⟨p - (zte v n - n), by omega, ?_⟩
      rcases hor (p - (zte v n - n)) with a | a <;> omega
  refine ⟨?_, hinj, hlt, hkeep⟩
  unfold zrm
  generalize zor n (zte v n - n) = od at *
  generalize hM : vN v - (zte v n - n) = M at *
  refine ⟨w1, by show M ≤ 24; omega, fun k hk => w3 _ (hlt k hk), fun k p' hk hp' => ?_, fun k hk hp' => ?_, fun k hk => w6 _ (hlt k hk), fun i j h1 h2 => w7 _ _ (hmono i j h1) (hlt j h2), fun k hk => w8 _ (hlt k hk), w9⟩
  · replace hp' : (vpar v (od k)).bind (zpl od M) = some p' := hp'
    cases hp : vpar v (od k) with
    | none => rw [hp] at hp'; cases hp'
    | some p =>
      rw [hp] at hp'
      obtain ⟨q1, q2⟩ := zpl_lt (show zpl od M p = some p' from hp')
      obtain ⟨a1, a2, a3, a4, a5⟩ := w4 _ p (hlt k hk) hp
      have hpk : p' < k := Nat.lt_of_not_le (fun z => by
        rcases Nat.lt_or_eq_of_le z with y | y
        · have := hmono _ _ y; omega
        · rw [← y] at q2; omega)
      refine ⟨hpk, ?_, ?_, ?_, fun j h1 h2 => ?_⟩
      · show vhom v (od p') = vhom v (od k); rw [q2]; exact a2
      · show vdep v (od k) = vdep v (od p') + 1; rw [q2]; exact a3
      · show vnd v 2 (od p') = -1; rw [q2]; exact a4
      · have := hmono _ _ h1
        exact a5 (od j) (by omega) (hmono _ _ h2)
  · replace hp' : (vpar v (od k)).bind (zpl od M) = none := hp'
    cases hp : vpar v (od k) with
    | none => exact w5 _ (hlt k hk) hp
    | some p =>
      obtain ⟨j, hj, hjp⟩ := hkeep k p hk hp
      rw [hp] at hp'
      replace hp' : zpl od M p = none := hp'
      rw [← hjp, zpl_of hinj hj] at hp'
      cases hp'
/-- what is known of a node's new parent -/
def zcan (v : zV) (n : Nat) (o : Option Nat) : Prop := (∀ d, o = some d → d < vN v ∧ vnd v 2 d = -1 ∧ vhom v d = vhom v n ∧ ¬ (n ≤ d ∧ d < zte v n)) ∧ zmx (vdep v) n (zte v n - n) - vdep v n + (zdo v o + 1) ≤ 5
theorem zmx_ge {f : Nat → Nat} {i m k : Nat} (h : k < m) : f (i + k) ≤ zmx f i m := by
  induction m with
  | zero => exact absurd h (Nat.not_lt_zero _)
  | succ m ih =>
    unfold zmx
    by_cases e : k = m
    · rw [e]; omega
    · have := ih (by omega); omega
theorem zpe_lt {v : zV} {p k : Nat} (h : k < zpe v p) : vhom v k ≤ p := by
  have := zwh_t (f := fun k => decide (vhom v k ≤ p)) 0 (vN v) k h
  rw [Nat.zero_add] at this
  simpa using this
theorem zpe_le (v : zV) (p : Nat) : zpe v p ≤ vN v := zwh_le _ _ _
theorem zpe_end {v : zV} {p : Nat} (h : zpe v p < vN v) : p < vhom v (zpe v p) := by
  have h1 := zwh_f (f := fun k => decide (vhom v k ≤ p)) 0 (vN v) h
  rw [Nat.zero_add] at h1
  have h2 : ¬ vhom v (zpe v p) ≤ p := of_decide_eq_false (show decide (vhom v (zpe v p) ≤ p) = false from h1)
  omega
/-- where the moved nodes go -/
theorem zbh_ok {v : zV} (hw : zwf v) {n : Nat} (hn : n < vN v) {o : Option Nat} (hc : zcan v n o) : zbh v n o ≤ vN v ∧ (zbh v n o ≤ n ∨ zte v n ≤ zbh v n o) ∧ (∀ x, x < zbh v n o → vhom v x ≤ vhom v n) ∧ (∀ x, x < vN v → zbh v n o ≤ x → vhom v n ≤ vhom v x) ∧ (∀ d, o = some d → d < zbh v n o ∧ ∀ x, d < x → x < zbh v n o → vdep v d < vdep v x) ∧ (∀ q p, q < vN v → vpar v q = some p → p < zbh v n o → zbh v n o ≤ q → vdep v q ≤ zdo v o + 1) := by
  have hw0 := hw
  obtain ⟨w1, w2, w3, w4, w5, w6, w7, w8, w9⟩ := hw
  have hg := zte_gt v n
  have hl := zte_le hn
  have hmon : ∀ i j, i ≤ j → j < vN v → vhom v i ≤ vhom v j := fun i j h1 h2 => by
    rcases Nat.lt_or_eq_of_le h1 with y | y
    · exact w7 i j y h2
    · rw [y]; exact Nat.le_refl _
  cases o with
  | none =>
    have hzl := zpe_le v (vhom v n)
    have hnt : zte v n ≤ zpe v (vhom v n) := by
      refine Nat.le_of_not_lt (fun z => ?_)
      have h1 := zpe_end (v := v) (p := vhom v n) (by omega)
      by_cases y : zpe v (vhom v n) ≤ n
      · have := hmon _ n y hn
        omega
      · have := (zte_in (v := v) (show n < zpe v (vhom v n) by omega) z).1
        omega
    refine ⟨hzl, Or.inr hnt, fun x hx => zpe_lt hx, fun x hx hx2 => ?_, (fun d hd => nomatch hd), fun q p hq hp h1 h2 => ?_⟩
    · have h1 := zpe_end (v := v) (p := vhom v n) (by have : zpe v (vhom v n) ≤ x := hx2; omega)
      have h2 := hmon _ x hx2 hx
      exact Nat.le_of_lt (Nat.lt_of_lt_of_le h1 h2)
    · have h3 : vhom v p ≤ vhom v n := zpe_lt h1
      have h4 := zpe_end (v := v) (p := vhom v n) (by have : zpe v (vhom v n) ≤ q := h2; omega)
      have h5 := hmon _ q h2 hq
      have h6 := (w4 q p hq hp).2.1
      have h7 : vhom v n < vhom v q := Nat.lt_of_lt_of_le h4 h5
      omega
  | some d =>
    obtain ⟨c1, c2, c3, c4⟩ := hc.1 d rfl
    have hgd := zte_gt v d
    have hld := zte_le c1
    have hind : ∀ x, d ≤ x → x < zte v d → vhom v x = vhom v d := fun x h1 h2 => by
      by_cases e : d = x
      · rw [e]
      · exact (zte_in (v := v) (by omega) h2).1
    show zte v d ≤ vN v ∧ (zte v d ≤ n ∨ zte v n ≤ zte v d) ∧ (∀ x, x < zte v d → vhom v x ≤ vhom v n) ∧ (∀ x, x < vN v → zte v d ≤ x → vhom v n ≤ vhom v x) ∧ (∀ d', some d = some d' → d' < zte v d ∧ ∀ x, d' < x → x < zte v d → vdep v d' < vdep v x) ∧ (∀ q p, q < vN v → vpar v q = some p → p < zte v d → zte v d ≤ q → vdep v q ≤ vdep v d + 1)
    refine ⟨hld, ?_, fun x hx => ?_, fun x hx hx2 => ?_, fun d' hd' => ?_, fun q p hq hp h1 h2 => ?_⟩
    · by_cases y : zte v d ≤ n
      · exact Or.inl y
      · refine Or.inr (Nat.le_of_not_lt (fun z => ?_))
        -- d's tree ends within n's: d lies behind n, or n in d
        have h1 : ¬ (vhom v (zte v d) = vhom v d ∧ vdep v d < vdep v (zte v d)) := zte_end (by omega)
        have h2 := zte_in (v := v) (n := n) (k := zte v d) (by omega) z
        by_cases e : d < n
        · have h3 := zte_in (v := v) (n := d) (k := n) e (by omega)
          exact h1 ⟨by omega, by omega⟩
        · exact c4 ⟨by omega, by omega⟩
    · have h1 := hmon x (zte v d - 1) (by omega) (by omega)
      have h2 := hind (zte v d - 1) (by omega) (by omega)
      omega
    · have := hmon d x (by omega) hx
      omega
    · cases hd'
      exact ⟨hgd, fun x h1 h2 => (zte_in (v := v) h1 h2).2⟩
    · have hpd : p < d := by
        refine Nat.lt_of_not_le (fun z => ?_)
        have := (zte_par hw0 hq hp (show q ≠ d by omega) c1).mpr ⟨z, h1⟩
        omega
      have := (w4 q p hq hp).2.2.2.2 d hpd (by omega)
      omega
/-- the new order of a move -/
theorem zom_ok {n e t N : Nat} (hne : n < e) (heN : e ≤ N) (htN : t ≤ N) (ht : t ≤ n ∨ e ≤ t) : (∀ k, k < N → zom n (e - n) t k < N) ∧ zinj (zom n (e - n) t) N ∧ (∀ x, x < N → ∃ k, k < N ∧ zom n (e - n) t k = x) ∧ (∀ k j, k < N → j < N → ¬ (n ≤ zom n (e - n) t k ∧ zom n (e - n) t k < e) → ¬ (n ≤ zom n (e - n) t j ∧ zom n (e - n) t j < e) → (k < j ↔ zom n (e - n) t k < zom n (e - n) t j)) ∧ (∀ k j, k < N → j < N → (n ≤ zom n (e - n) t k ∧ zom n (e - n) t k < e) → (n ≤ zom n (e - n) t j ∧ zom n (e - n) t j < e) → (k < j ↔ zom n (e - n) t k < zom n (e - n) t j)) ∧ (∀ k j, k < N → j < N → (n ≤ zom n (e - n) t k ∧ zom n (e - n) t k < e) → ¬ (n ≤ zom n (e - n) t j ∧ zom n (e - n) t j < e) → (k < j ↔ t ≤ zom n (e - n) t j)) ∧ zom n (e - n) t (if t ≤ n then t else t - (e - n)) = n ∧ (if t ≤ n then t else t - (e - n)) < N := by
  by_cases h : t ≤ n
  · have hc : ∀ k, (k < t ∧ zom n (e - n) t k = k) ∨ (t ≤ k ∧ k < t + (e - n) ∧ zom n (e - n) t k = n + (k - t)) ∨ (t + (e - n) ≤ k ∧ k < e ∧ zom n (e - n) t k = k - (e - n)) ∨ (e ≤ k ∧ t + (e - n) ≤ k ∧ zom n (e - n) t k = k) := fun k => by
      unfold zom
      rw [if_pos h]
      split
      · exact Or.inl ⟨‹_›, rfl⟩
      · split
        · exact Or.inr (Or.inl ⟨by omega, ‹_›, rfl⟩)
        · split
          · exact Or.inr (Or.inr (Or.inl ⟨by omega, by omega, rfl⟩))
          · exact Or.inr (Or.inr (Or.inr ⟨by omega, by omega, rfl⟩))
    refine ⟨fun k hk => ?_, fun i j hi hj he => ?_, fun x hx => ?_, fun k j hk hj h1 h2 => ?_, fun k j hk hj h1 h2 => ?_, fun k j hk hj h1 h2 => ?_, ?_, ?_⟩
    · rcases hc k with a | a | a | a <;> omega
    · rcases hc i with a | a | a | a <;> rcases hc j with c | c | c | c <;> omega
    · by_cases x1 : x < t
      · exact ⟨x, hx, by rcases hc x with a | a | a | a <;> omega⟩
      · by_cases x2 : x < n
        · exact ⟨x + (e - n), by omega, by rcases hc (x + (e - n)) with a | a | a | a <;> omega⟩
        · by_cases x3 : x < e
          · exact ⟨t + (x - n), by omega, by rcases hc (t + (x - n)) with a | a | a | a <;> omega⟩
          · exact ⟨x, hx, by rcases hc x with a | a | a | a <;> omega⟩
    · rcases hc k with a | a | a | a <;> rcases hc j with c | c | c | c <;> omega
    · rcases hc k with a | a | a | a <;> rcases hc j with c | c | c | c <;> omega
    · rcases hc k with a | a | a | a <;> rcases hc j with c | c | c | c <;> omega
    · rw [if_pos h]
      rcases hc t with a | a | a | a <;> omega
    · rw [if_pos h]; omega
  · have hc : ∀ k, (k < n ∧ zom n (e - n) t k = k) ∨ (n ≤ k ∧ k < t - (e - n) ∧ zom n (e - n) t k = k + (e - n)) ∨ (n ≤ k ∧ t - (e - n) ≤ k ∧ k < t ∧ zom n (e - n) t k = n + (k - (t - (e - n)))) ∨ (t ≤ k ∧ zom n (e - n) t k = k) := fun k => by
      unfold zom
      rw [if_neg h]
      split
      · exact Or.inl ⟨‹_›, rfl⟩
      · split
        · exact Or.inr (Or.inl ⟨by omega, ‹_›, rfl⟩)
        · split
          · exact Or.inr (Or.inr (Or.inl ⟨by omega, by omega, by omega, rfl⟩))
          · exact Or.inr (Or.inr (Or.inr ⟨by omega, rfl⟩))
    refine ⟨fun k hk => ?_, fun i j hi hj he => ?_, fun x hx => ?_, fun k j hk hj h1 h2 => ?_, fun k j hk hj h1 h2 => ?_, fun k j hk hj h1 h2 => ?_, ?_, ?_⟩
    · rcases hc k with a | a | a | a <;> omega
    · rcases hc i with a | a | a | a <;> rcases hc j with c | c | c | c <;> omega
    · by_cases x1 : x < n
      · exact ⟨x, hx, by rcases hc x with a | a | a | a <;> omega⟩
      · by_cases x2 : x < e
        · exact ⟨t - (e - n) + (x - n), by omega, by rcases hc (t - (e - n) + (x - n)) with a | a | a | a <;> omega⟩
        · by_cases x3 : x < t
          · exact ⟨x - (e - n), by omega, by rcases hc (x - (e - n)) with a | a | a | a <;> omega⟩
          · exact ⟨x, hx, by rcases hc x with a | a | a | a <;> omega⟩
    · rcases hc k with a | a | a | a <;> rcases hc j with c | c | c | c <;> omega
    · rcases hc k with a | a | a | a <;> rcases hc j with c | c | c | c <;> omega
    · rcases hc k with a | a | a | a <;> rcases hc j with c | c | c | c <;> omega
    · rw [if_neg h]
      rcases hc (t - (e - n)) with a | a | a | a <;> omega
    · rw [if_neg h]; omega
theorem zwf_mv {v : zV} (hw : zwf v) {n : Nat} (hn : n < vN v) {o : Option Nat} (hc : zcan v n o) : zwf (zmv v n o) := by
  have hw0 := hw
  obtain ⟨b1, b2, b3, b4, b5, b6⟩ := zbh_ok hw hn hc
  have hg := zte_gt v n
  have hl := zte_le hn
  obtain ⟨o1, o2, o3, o4, o5, o6, o7, o8⟩ := zom_ok hg hl b1 b2
  obtain ⟨w1, w2, w3, w4, w5, w6, w7, w8, w9⟩ := hw
  unfold zmv
  generalize zom n (zte v n - n) (zbh v n o) = od at *
  have hdn := zdep_pos hw0 hn
  -- depths afterwards
  have d1 : ∀ x, ¬ (n ≤ x ∧ x < zte v n) → vdep (zv1 v n o) x = vdep v x := fun x q => if_neg q
  have d2 : ∀ x, (n ≤ x ∧ x < zte v n) → vdep (zv1 v n o) x = vdep v x + (zdo v o + 1) - vdep v n := fun x q => if_pos q
  have d3 : ∀ x, (n ≤ x ∧ x < zte v n) → vdep v n ≤ vdep v x := fun x q => by
    by_cases e : n = x
    · rw [e]; exact Nat.le_refl _
    · exact Nat.le_of_lt (zte_in (v := v) (by omega) q.2).2
  have hpar : ∀ x, x ≠ n → vpar (zv1 v n o) x = vpar v x := fun x q => if_neg q
  have hparn : vpar (zv1 v n o) n = o := if_pos rfl
  have hkeep : ∀ k, k < vN v → ∀ p, vpar (zv1 v n o) (od k) = some p → p < vN v := fun k hk p hp => by
    by_cases e : od k = n
    · rw [e, hparn] at hp
      exact (hc.1 p hp).1
    · rw [hpar _ e] at hp
      have := (w4 _ p (o1 k hk) hp).1
      have := o1 k hk
      omega
  refine ⟨w1, w2, fun k hk => w3 _ (o1 k hk), fun k p' hk hp' => ?_, fun k hk hp' => ?_, fun k hk => ?_, fun i j h1 h2 => ?_, fun k hk => w8 _ (o1 k hk), w9⟩
  · -- parents
    replace hk : k < vN v := hk
    replace hp' : (vpar (zv1 v n o) (od k)).bind (zpl od (vN v)) = some p' := hp'
    cases hp : vpar (zv1 v n o) (od k) with
    | none => rw [hp] at hp'; cases hp'
    | some p =>
      rw [hp] at hp'
      obtain ⟨q1, q2⟩ := zpl_lt (show zpl od (vN v) p = some p' from hp')
      show p' < k ∧ vhom v (od p') = vhom v (od k) ∧ vdep (zv1 v n o) (od k) = vdep (zv1 v n o) (od p') + 1 ∧ vnd v 2 (od p') = -1 ∧ ∀ j, p' < j → j < k → vdep (zv1 v n o) (od k) ≤ vdep (zv1 v n o) (od j)
      by_cases e : od k = n
      · -- the moved node itself
        rw [e, hparn] at hp
        obtain ⟨c1, c2, c3, c4⟩ := hc.1 p hp
        obtain ⟨b5a, b5b⟩ := b5 p hp
        have hdo : zdo v o = vdep v p := by rw [hp]; rfl
        have hkb : n ≤ od k ∧ od k < zte v n := by omega
        have hpn : ¬ (n ≤ od p' ∧ od p' < zte v n) := by rw [q2]; exact c4
        have hlt : p' < k := by
          have h1 := (o6 k p' hk q1 hkb hpn)
          have h2 : ¬ k < p' := fun z => by have := h1.mp z; omega
          have h3 : k ≠ p' := fun z => by rw [z] at hkb; exact hpn hkb
          omega
        refine ⟨hlt, by rw [q2, e]; exact c3, ?_, by rw [q2]; exact c2, fun j h1 h2 => ?_⟩
        · rw [d2 _ hkb, d1 _ hpn, q2, e]
          omega
        · have hj : j < vN v := by omega
          have hjb : ¬ (n ≤ od j ∧ od j < zte v n) := fun z => by
            have := (o5 j k hj hk z hkb).mp h2
            omega
          have h3 := (o4 p' j q1 hj hpn hjb).mp h1
          have h4 : ¬ zbh v n o ≤ od j := fun z => by
            have := (o6 k j hk hj hkb hjb).mpr z
            omega
          have h5 := b5b (od j) (by omega) (by omega)
          rw [d2 _ hkb, d1 _ hjb, e]
          omega
      · rw [hpar _ e] at hp
        obtain ⟨a1, a2, a3, a4, a5⟩ := w4 _ p (o1 k hk) hp
        have hin := zte_par hw0 (o1 k hk) hp e hn
        by_cases hkb : n ≤ od k ∧ od k < zte v n
        · have hpb : n ≤ od p' ∧ od p' < zte v n := by rw [q2]; exact hin.mp hkb
          have hlt : p' < k := (o5 p' k q1 hk hpb hkb).mpr (by omega)
          have hx := d3 _ hkb
          have hy := d3 _ hpb
          refine ⟨hlt, by rw [q2]; exact a2, ?_, by rw [q2]; exact a4, fun j h1 h2 => ?_⟩
          · rw [d2 _ hkb, d2 _ hpb, q2]
            rw [q2] at hy
            omega
          · have hj : j < vN v := by omega
            have hjb : n ≤ od j ∧ od j < zte v n := by
              refine Decidable.byContradiction (fun z => ?_)
              have y1 : ¬ zbh v n o ≤ od j := fun y => by have := (o6 k j hk hj hkb z).mpr y; omega
              have y2 := (o6 p' j q1 hj hpb z).mp h1
              omega
            have h3 := (o5 p' j q1 hj hpb hjb).mp h1
            have h4 := (o5 j k hj hk hjb hkb).mp h2
            have h5 := a5 (od j) (by omega) h4
            have h6 := d3 _ hjb
            rw [d2 _ hkb, d2 _ hjb]
            omega
        · have hpb : ¬ (n ≤ od p' ∧ od p' < zte v n) := by rw [q2]; exact fun z => hkb (hin.mpr z)
          have hlt : p' < k := (o4 p' k q1 hk hpb hkb).mpr (by omega)
          refine ⟨hlt, by rw [q2]; exact a2, by rw [d1 _ hkb, d1 _ hpb, q2]; exact a3, by rw [q2]; exact a4, fun j h1 h2 => ?_⟩
          have hj : j < vN v := by omega
          rw [d1 _ hkb]
          by_cases hjb : n ≤ od j ∧ od j < zte v n
          · have h3 := (o6 j k hj hk hjb hkb).mp h2
            have h4 : ¬ zbh v n o ≤ od p' := fun y => by have := (o6 j p' hj q1 hjb hpb).mpr y; omega
            have h5 := b6 (od k) p (o1 k hk) hp (by omega) h3
            have h6 := d3 _ hjb
            rw [d2 _ hjb]
            omega
          · rw [d1 _ hjb]
            have h3 := (o4 p' j q1 hj hpb hjb).mp h1
            have h4 := (o4 j k hj hk hjb hkb).mp h2
            exact a5 (od j) (by omega) h4
  · -- no parent
    replace hk : k < vN v := hk
    replace hp' : (vpar (zv1 v n o) (od k)).bind (zpl od (vN v)) = none := hp'
    show vdep (zv1 v n o) (od k) = 1
    cases hp : vpar (zv1 v n o) (od k) with
    | none =>
      by_cases e : od k = n
      · rw [e, hparn] at hp
        rw [e, d2 n ⟨Nat.le_refl _, hg⟩, hp]
        show vdep v n + (0 + 1) - vdep v n = 1
        omega
      · rw [hpar _ e] at hp
        rw [d1 _ (fun z => zte_none hw0 (o1 k hk) hp e hn z)]
        exact w5 _ (o1 k hk) hp
    | some p =>
      rw [hp] at hp'
      replace hp' : zpl od (vN v) p = none := hp'
      obtain ⟨j, hj, hjp⟩ := o3 p (hkeep k hk p hp)
      rw [← hjp, zpl_of o2 hj] at hp'
      cases hp'
  · -- depths
    replace hk : k < vN v := hk
    show vdep (zv1 v n o) (od k) ≤ 5
    by_cases hkb : n ≤ od k ∧ od k < zte v n
    · have h1 := zmx_ge (f := vdep v) (i := n) (m := zte v n - n) (k := od k - n) (by omega)
      rw [show n + (od k - n) = od k by omega] at h1
      have h2 := hc.2
      rw [d2 _ hkb]
      omega
    · rw [d1 _ hkb]
      exact w6 _ (o1 k hk)
  · -- homes
    replace h2 : j < vN v := h2
    have hi : i < vN v := by omega
    show vhom v (od i) ≤ vhom v (od j)
    have hbm : ∀ x, (n ≤ x ∧ x < zte v n) → vhom v x = vhom v n := fun x q => by
      by_cases e : n = x
      · rw [e]
      · exact (zte_in (v := v) (by omega) q.2).1
    by_cases hib : n ≤ od i ∧ od i < zte v n
    · by_cases hjb : n ≤ od j ∧ od j < zte v n
      · rw [hbm _ hib, hbm _ hjb]; exact Nat.le_refl _
      · rw [hbm _ hib]
        exact b4 _ (o1 j h2) ((o6 i j hi h2 hib hjb).mp h1)
    · by_cases hjb : n ≤ od j ∧ od j < zte v n
      · rw [hbm _ hjb]
        refine b3 _ (Nat.lt_of_not_le (fun z => ?_))
        have := (o6 j i h2 hi hjb hib).mpr z
        omega
      · exact w7 _ _ ((o4 i j hi h2 hib hjb).mp h1) (o1 j h2)
