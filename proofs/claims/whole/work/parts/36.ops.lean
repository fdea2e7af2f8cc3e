/-! the script as a list -/
abbrev zOp : Type := Nat × Option Nat × Option Nat
def zsum (f : Nat → Nat) : Nat → Nat
  | 0 => 0
  | n + 1 => zsum f n + f n
theorem zsum_cong {f g : Nat → Nat} {n : Nat} (h : ∀ i, i < n → f i = g i) : zsum f n = zsum g n := by
  induction n with
  | zero => rfl
  | succ n ih => unfold zsum; rw [ih (fun i hi => h i (by omega)), h n (by omega)]
theorem zsum_le {f g : Nat → Nat} {n : Nat} (h : ∀ i, i < n → f i ≤ g i) : zsum f n ≤ zsum g n := by
  induction n with
  | zero => exact Nat.le_refl _
  | succ n ih => unfold zsum; have := ih (fun i hi => h i (by omega)); have := h n (by omega); omega
theorem zsum_add (f g : Nat → Nat) (n : Nat) : zsum (fun i => f i + g i) n = zsum f n + zsum g n := by
  induction n with
  | zero => rfl
  | succ n ih => unfold zsum; rw [ih]; omega
theorem zsum_mul (c : Nat) (f : Nat → Nat) (n : Nat) : zsum (fun i => c * f i) n = c * zsum f n := by
  induction n with
  | zero => rfl
  | succ n ih => unfold zsum; rw [ih, Nat.mul_add]
theorem zsum_0 (n : Nat) : zsum (fun _ => 0) n = 0 := by
  induction n with
  | zero => rfl
  | succ n ih => unfold zsum; rw [ih]
theorem zsum_const (c n : Nat) : zsum (fun _ => c) n = n * c := by
  induction n with
  | zero => rw [Nat.zero_mul]; rfl
  | succ n ih => unfold zsum; rw [ih, Nat.succ_mul]
theorem zsum_comm (f : Nat → Nat → Nat) (n m : Nat) : zsum (fun i => zsum (fun j => f i j) m) n = zsum (fun j => zsum (fun i => f i j) n) m := by
  induction n with
  | zero => show 0 = zsum (fun _ => 0) m; rw [zsum_0]
  | succ n ih =>
    show zsum (fun i => zsum (fun j => f i j) m) n + zsum (fun j => f n j) m = _
    rw [ih, ← zsum_add]
    rfl
theorem zsum_one {m : Nat} (g : Nat → Nat) {j : Nat} (h : j < m) : zsum (fun k => if j = k then g k else 0) m = g j := by
  induction m with
  | zero => exact absurd h (Nat.not_lt_zero _)
  | succ m ih =>
    unfold zsum
    by_cases e : j = m
    · subst e
      rw [if_pos rfl, zsum_cong (g := fun _ => 0) (fun i hi => if_neg (by omega)), zsum_0, Nat.zero_add]
    · rw [ih (by omega), if_neg e, Nat.add_zero]
def zog (o : Option Nat) (g : Nat → Nat) : Nat := match o with
  | none => 0
  | some j => g j
theorem zsum_opt {m : Nat} (g : Nat → Nat) {o : Option Nat} (h : ∀ j, o = some j → j < m) : zsum (fun k => if o = some k then g k else 0) m = zog o g := by
  cases o with
  | none => rw [zsum_cong (g := fun _ => 0) (fun i _ => if_neg (fun z => by cases z)), zsum_0]; rfl
  | some j =>
    rw [zsum_cong (g := fun k => if j = k then g k else 0) (fun i _ => by by_cases e : j = i <;> simp [e]), zsum_one g (h j rfl)]
    rfl
/-- a sum over partners -/
theorem zsum_re {n m : Nat} {s : zM} (h : zmo n m s) (g : Nat → Nat) : zsum (fun i => zog (s.1 i) g) n = zsum (fun j => if s.2 j = none then 0 else g j) m := by
  rw [zsum_cong (g := fun i => zsum (fun j => if s.1 i = some j then g j else 0) m) (fun i _ => (zsum_opt g (fun j e => (h.1 i j e).2.1)).symm), zsum_comm]
  refine zsum_cong (fun j hj => ?_)
  rw [zsum_cong (g := fun i => if s.2 j = some i then g j else 0) (fun i _ => ?_), zsum_opt (fun _ => g j) (fun i e => (h.2 i j e).1)]
  · cases s.2 j <;> simp [zog]
  · by_cases e : s.1 i = some j
    · rw [if_pos e, if_pos (h.1 i j e).2.2]
    · rw [if_neg e, if_neg (fun z => e (h.2 i j z).2.2)]
theorem zcnt_sum (p : Nat → Bool) (n : Nat) : zcnt p n = zsum (fun i => if p i then 1 else 0) n := by
  induction n with
  | zero => rfl
  | succ n ih => unfold zcnt zsum; rw [ih]
theorem zlen_fm {α : Type} (g : Nat → List α) (n : Nat) : ((List.range n).flatMap g).length = zsum (fun i => (g i).length) n := by
  induction n with
  | zero => rfl
  | succ n ih => rw [List.range_succ, List.flatMap_append, List.length_append, ih]; simp [zsum]
theorem zfm_s {α : Type} (g : Nat → List α) (n : Nat) : (List.range (n + 1)).flatMap g = (List.range n).flatMap g ++ g n := by
  rw [List.range_succ, List.flatMap_append]
  simp
def zo0 (tp : Nat → Option Nat) (i : Nat) : List zOp := if tp i = none then [(0, some i, none)] else []
def zo12 (v u : zV) (tp : Nat → Option Nat) (i : Nat) : List zOp := match tp i with
  | none => []
  | some j => (if vpt v 0 i = vpt u 0 j then [] else [(1, some i, some j)]) ++ (if vpt v 1 i = vpt u 1 j ∧ vpt v 2 i = vpt u 2 j then [] else [(2, some i, some j)])
def zo3 (fp : Nat → Option Nat) (j : Nat) : List zOp := if fp j = none then [(3, none, some j)] else []
def zo4 (fn : Nat → Option Nat) (j : Nat) : List zOp := if fn j = none then [(4, none, some j)] else []
def zpg (v u : zV) (tp tn : Nat → Option Nat) (i j : Nat) : Bool := match vpar v i, vpar u j with
  | none, none => decide (tp (vhom v i) = some (vhom u j))
  | some x, some y => decide (tn x = some y)
  | _, _ => false
def zneed (v u : zV) (tp tn : Nat → Option Nat) (k i j : Nat) : Bool := if k = 5 then !(decide (vnd v 0 i = vnd u 0 j) && zpg v u tp tn i j) else if k = 6 then decide (¬ vnd v 2 i = vnd u 2 j) else if k = 7 then decide (¬ vnd v 3 i = vnd u 3 j) else decide (¬ vnd v 1 i = vnd u 1 j)
def zon (v u : zV) (tp tn : Nat → Option Nat) (i j k : Nat) : List zOp := if zneed v u tp tn k i j = true then [(k, some i, some j)] else []
def zof (v u : zV) (tp tn : Nat → Option Nat) (i j m : Nat) : List zOp := (List.range m).flatMap (fun k => zon v u tp tn i j (5 + k))
def zo58 (v u : zV) (tp tn : Nat → Option Nat) (i : Nat) : List zOp := match tn i with
  | none => []
  | some j => zof v u tp tn i j 4
def zo9 (v : zV) (tp tn : Nat → Option Nat) (i : Nat) : List zOp := if tn i = none ∧ ¬ tp (vhom v i) = none then [(9, some i, none)] else []
def zo10 (v u : zV) : List zOp := if vS v = vS u then [] else [(10, none, none)]
def zd9 (v : zV) (tp tn : Nat → Option Nat) (n : Nat) : List zOp := (List.range n).flatMap (fun k => zo9 v tp tn (vN v - 1 - k))
def zs1 (v : zV) (sp : zM) : List zOp := (List.range (vP v)).flatMap (zo0 sp.1)
def zs2 (v u : zV) (sp : zM) : List zOp := (List.range (vP v)).flatMap (zo12 v u sp.1)
def zs3 (u : zV) (sp : zM) : List zOp := (List.range (vP u)).flatMap (zo3 sp.2)
def zs4 (u : zV) (sn : zM) : List zOp := (List.range (vN u)).flatMap (zo4 sn.2)
def zs5 (v u : zV) (sp sn : zM) : List zOp := (List.range (vN v)).flatMap (zo58 v u sp.1 sn.1)
def zs6 (v : zV) (sp sn : zM) : List zOp := zd9 v sp.1 sn.1 (vN v)
def zops (v u : zV) (sp sn : zM) : List zOp := zs1 v sp ++ zs2 v u sp ++ zs3 u sp ++ zs4 u sn ++ zs5 v u sp sn ++ zs6 v sp sn ++ zo10 v u
theorem zof_le (v u : zV) (tp tn : Nat → Option Nat) (i j m : Nat) : (zof v u tp tn i j m).length ≤ m := by
  unfold zof
  rw [zlen_fm]
  have := zsum_le (f := fun k => (zon v u tp tn i j (5 + k)).length) (g := fun _ => 1) (n := m) (fun k _ => by unfold zon; split <;> simp)
  rw [zsum_const] at this
  omega
theorem zsum_rev (f : Nat → Nat) : ∀ n m, m ≤ n → zsum (fun k => f (n - 1 - k)) m + zsum f (n - m) = zsum f n := by
  intro n m
  induction m with
  | zero => intro _; show 0 + zsum f n = _; omega
  | succ m ih =>
    intro h
    have := ih (by omega)
    have hs : zsum f (n - m) = zsum f (n - (m + 1)) + f (n - (m + 1)) := by
      rw [show n - m = (n - (m + 1)) + 1 by omega]
      rfl
    show (zsum (fun k => f (n - 1 - k)) m + f (n - 1 - m)) + zsum f (n - (m + 1)) = zsum f n
    rw [show n - 1 - m = n - (m + 1) by omega]
    omega
/-- there is room for the script -/
theorem zops_le (v u : zV) (sp sn : zM) (hp : zmo (vP v) (vP u) sp) (hn : zmo (vN v) (vN u) sn) (h1 : vP v ≤ 4) (h2 : vP u ≤ 4) (h3 : vN v ≤ 24) (h4 : vN u ≤ 24) : (zops v u sp sn).length ≤ 105 := by
  have a1 : (zs1 v sp).length + zsum (fun i => zog (sp.1 i) (fun _ => 1)) (vP v) ≤ vP v := by
    unfold zs1
    rw [zlen_fm, ← zsum_add]
    have := zsum_le (f := fun i => (zo0 sp.1 i).length + zog (sp.1 i) (fun _ => 1)) (g := fun _ => 1) (n := vP v) (fun i _ => by cases e : sp.1 i <;> simp [zo0, zog, e])
    rw [zsum_const] at this
    omega
  have a2 : (zs2 v u sp).length ≤ 2 * zsum (fun i => zog (sp.1 i) (fun _ => 1)) (vP v) := by
    unfold zs2
    rw [zlen_fm, ← zsum_mul]
    refine zsum_le (fun i _ => ?_)
    cases e : sp.1 i with
    | none => simp [zo12, e]
    | some j => simp only [zo12, e, zog, List.length_append]; split <;> split <;> simp
  have a3 : (zs3 u sp).length + zsum (fun i => zog (sp.1 i) (fun _ => 1)) (vP v) ≤ vP u := by
    unfold zs3
    rw [zsum_re hp, zlen_fm, ← zsum_add]
    have := zsum_le (f := fun j => (zo3 sp.2 j).length + (if sp.2 j = none then 0 else 1)) (g := fun _ => 1) (n := vP u) (fun i _ => by cases e : sp.2 i <;> simp [zo3, e])
    rw [zsum_const] at this
    omega
  have a4 : (zs4 u sn).length + zsum (fun i => zog (sn.1 i) (fun _ => 1)) (vN v) ≤ vN u := by
    unfold zs4
    rw [zsum_re hn, zlen_fm, ← zsum_add]
    have := zsum_le (f := fun j => (zo4 sn.2 j).length + (if sn.2 j = none then 0 else 1)) (g := fun _ => 1) (n := vN u) (fun i _ => by cases e : sn.2 i <;> simp [zo4, e])
    rw [zsum_const] at this
    omega
  have a5 : (zs5 v u sp sn).length ≤ 4 * zsum (fun i => zog (sn.1 i) (fun _ => 1)) (vN v) := by
    unfold zs5
    rw [zlen_fm, ← zsum_mul]
    refine zsum_le (fun i _ => ?_)
    cases e : sn.1 i with
    | none => simp [zo58, e]
    | some j => simp only [zo58, e, zog]; exact zof_le _ _ _ _ _ _ _
  have a6 : (zs6 v sp sn).length + zsum (fun i => zog (sn.1 i) (fun _ => 1)) (vN v) ≤ vN v := by
    unfold zs6 zd9
    rw [zlen_fm]
    have e1 := zsum_rev (fun i => (zo9 v sp.1 sn.1 i).length) (vN v) (vN v) (Nat.le_refl _)
    rw [Nat.sub_self, show zsum (fun i => (zo9 v sp.1 sn.1 i).length) 0 = 0 from rfl, Nat.add_zero] at e1
    rw [e1, ← zsum_add]
    have := zsum_le (f := fun i => (zo9 v sp.1 sn.1 i).length + zog (sn.1 i) (fun _ => 1)) (g := fun _ => 1) (n := vN v) (fun i _ => by
      cases e : sn.1 i with
      | none => simp only [zo9, e, zog]; split <;> simp
      | some j => simp [zo9, zog, e])
    rw [zsum_const] at this
    omega
  have a7 : (zo10 v u).length ≤ 1 := by unfold zo10; split <;> simp
  have a8 : (zops v u sp sn).length = (zs1 v sp).length + (zs2 v u sp).length + (zs3 u sp).length + (zs4 u sn).length + (zs5 v u sp sn).length + (zs6 v sp sn).length + (zo10 v u).length := by unfold zops; simp only [List.length_append]
  omega
/-- the last place (from 1) of which p is true; 0 if there is none -/
def zlf (p : Nat → Bool) : Nat → Nat
  | 0 => 0
  | n + 1 => if p n then n + 1 else zlf p n
def zat (l : List zOp) (k : Nat) : zOp := (l[k]?).getD (99, none, none)
def zl (p : zOp → Bool) (l : List zOp) : Nat := zlf (fun k => p (zat l k)) l.length
theorem zlf_cong {p q : Nat → Bool} {n : Nat} (h : ∀ i, i < n → p i = q i) : zlf p n = zlf q n := by
  induction n with
  | zero => rfl
  | succ n ih => unfold zlf; rw [ih (fun i hi => h i (by omega)), h n (by omega)]
theorem zat_l {l m : List zOp} {k : Nat} (h : k < l.length) : zat (l ++ m) k = zat l k := by
  unfold zat
  rw [List.getElem?_append_left h]
theorem zat_e {l : List zOp} {e : zOp} : zat (l ++ [e]) l.length = e := by
  unfold zat
  simp
theorem zat_mem {l : List zOp} {k : Nat} (h : k < l.length) : zat l k ∈ l := by
  unfold zat
  rw [List.getElem?_eq_getElem h]
  exact List.getElem_mem h
theorem zl_snoc (p : zOp → Bool) (l : List zOp) (e : zOp) : zl p (l ++ [e]) = if p e then l.length + 1 else zl p l := by
  unfold zl
  rw [List.length_append, show [e].length = 1 from rfl]
  show (if p (zat (l ++ [e]) l.length) = true then _ else _) = _
  rw [zat_e, zlf_cong (fun i hi => by rw [zat_l hi])]
theorem zl_no {p : zOp → Bool} {l m : List zOp} (h : ∀ e, e ∈ m → p e = false) : zl p (l ++ m) = zl p l := by
  induction m generalizing l with
  | nil => rw [List.append_nil]
  | cons e m ih =>
    rw [show l ++ e :: m = (l ++ [e]) ++ m by simp, ih (fun x hx => h x (List.mem_cons_of_mem _ hx)), zl_snoc, if_neg (by rw [h e (List.mem_cons_self ..)]; decide)]
theorem zl_all {p : zOp → Bool} {l m : List zOp} (h : ∀ e, e ∈ m → p e = true) (hm : m ≠ []) : zl p (l ++ m) = (l ++ m).length := by
  obtain ⟨m', e, rfl⟩ : ∃ m' e, m = m' ++ [e] := ⟨m.dropLast, m.getLast hm, (List.dropLast_concat_getLast hm).symm⟩
  rw [← List.append_assoc, zl_snoc, if_pos (h e (by simp)), List.length_append, List.length_append, List.length_append]
  rfl
theorem zl_nil (p : zOp → Bool) : zl p [] = 0 := rfl
def zq13 (j : Nat) (e : zOp) : Bool := decide (1 ≤ e.1 ∧ e.1 ≤ 3 ∧ e.2.2 = some j)
def zq48 (j : Nat) (e : zOp) : Bool := decide (4 ≤ e.1 ∧ e.1 ≤ 8 ∧ e.2.2 = some j)
theorem zfm_mem {g : Nat → List zOp} {n : Nat} {e : zOp} (h : e ∈ (List.range n).flatMap g) : ∃ i, i < n ∧ e ∈ g i := by
  rw [List.mem_flatMap] at h
  obtain ⟨i, h1, h2⟩ := h
  exact ⟨i, List.mem_range.mp h1, h2⟩
theorem zm0 {tp : Nat → Option Nat} {i : Nat} {e : zOp} (h : e ∈ zo0 tp i) : e = (0, some i, none) ∧ tp i = none := by
  unfold zo0 at h
  split at h
  · next q => exact ⟨List.mem_singleton.mp h, q⟩
  · cases h
theorem zm12 {v u : zV} {tp : Nat → Option Nat} {i : Nat} {e : zOp} (h : e ∈ zo12 v u tp i) : ∃ j k, tp i = some j ∧ 1 ≤ k ∧ k ≤ 2 ∧ e = (k, some i, some j) := by
  unfold zo12 at h
  split at h
  · cases h
  · next j q =>
    rw [List.mem_append] at h
    rcases h with h | h
    · split at h
      · cases h
      · exact ⟨j, 1, q, by decide, by decide, List.mem_singleton.mp h⟩
    · split at h
      · cases h
      · exact ⟨j, 2, q, by decide, by decide, List.mem_singleton.mp h⟩
theorem zm3 {fp : Nat → Option Nat} {j : Nat} {e : zOp} (h : e ∈ zo3 fp j) : e = (3, none, some j) ∧ fp j = none := by
  unfold zo3 at h
  split at h
  · next q => exact ⟨List.mem_singleton.mp h, q⟩
  · cases h
theorem zm4 {fn : Nat → Option Nat} {j : Nat} {e : zOp} (h : e ∈ zo4 fn j) : e = (4, none, some j) ∧ fn j = none := by
  unfold zo4 at h
  split at h
  · next q => exact ⟨List.mem_singleton.mp h, q⟩
  · cases h
theorem zmf {v u : zV} {tp tn : Nat → Option Nat} {i j m : Nat} {e : zOp} (h : e ∈ zof v u tp tn i j m) : ∃ k, k < m ∧ e = (5 + k, some i, some j) ∧ zneed v u tp tn (5 + k) i j = true := by
  obtain ⟨k, h1, h2⟩ := zfm_mem h
  unfold zon at h2
  split at h2
  · next q => exact ⟨k, h1, List.mem_singleton.mp h2, q⟩
  · cases h2
theorem zm58 {v u : zV} {tp tn : Nat → Option Nat} {i : Nat} {e : zOp} (h : e ∈ zo58 v u tp tn i) : ∃ j k, tn i = some j ∧ k < 4 ∧ e = (5 + k, some i, some j) := by
  unfold zo58 at h
  split at h
  · cases h
  · next j q =>
    obtain ⟨k, h1, h2, _⟩ := zmf h
    exact ⟨j, k, q, h1, h2⟩
theorem zm9 {v : zV} {tp tn : Nat → Option Nat} {i : Nat} {e : zOp} (h : e ∈ zo9 v tp tn i) : e = (9, some i, none) ∧ tn i = none ∧ ¬ tp (vhom v i) = none := by
  unfold zo9 at h
  split at h
  · next q => exact ⟨List.mem_singleton.mp h, q⟩
  · cases h
theorem zm10 {v u : zV} {e : zOp} (h : e ∈ zo10 v u) : e = (10, none, none) := by
  unfold zo10 at h
  split at h
  · cases h
  · exact List.mem_singleton.mp h
