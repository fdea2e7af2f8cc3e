/-! reading an image: the pure picture; the class's Reader -/
def zadd (v : zV) (h : Option Nat) (nm ino ct att : Int32) : zV := (vS v, vP v, vN v + 1, vpt v, fun w => zse (vnd v w) (vN v) (if w = 0 then nm else if w = 1 then ino else if w = 2 then ct else att), zse (vpar v) (vN v) h, zse (vhom v) (vN v) (vP v - 1), zse (vdep v) (vN v) (zdo v h + 1))
def zadp (v : zV) (lb fs ln : Int32) : zV := (vS v, vP v + 1, vN v, fun w => zse (vpt v w) (vP v) (if w = 0 then lb else if w = 1 then fs else ln), vnd v, vpar v, vhom v, vdep v)
abbrev zRN : Type := (Nat × Nat) ⊕ (zV × Option Nat × Nat)
def zpD (t : zT) (v : zV) (h : Option Nat) (f : Bool) (nm ino ct att : Int32) (s : Nat) : zRN := if ztk t s = 3 ∧ t.1 s = (if f then 59 else 123) then .inr (zadd v h nm ino ct att, if f then h else some (vN v), znx t s) else .inl (1, s)
noncomputable def zif {α : Type} (p : Prop) (a b : α) : α := @ite α p (Classical.propDecidable p) a b
theorem zif_t {α : Type} {p : Prop} {a b : α} (h : p) : zif p a b = a := if_pos h
theorem zif_f {α : Type} {p : Prop} {a b : α} (h : ¬ p) : zif p a b = b := if_neg h
noncomputable def zpC (t : zT) (v : zV) (h : Option Nat) (f : Bool) (nm ino ct : Int32) (s : Nat) : zRN := zif (ziw t s (zwl 204)) (match zrnum t 0 7 (znx t s) with
  | .inl e => .inl e
  | .inr a => zpD t v h f nm ino ct (nI a) (znx t (znx t s))) (zpD t v h f nm ino ct 0 s)
noncomputable def zpB (t : zT) (v : zV) (h : Option Nat) (f : Bool) (nm ino : Int32) (s : Nat) : zRN := if f then (match zrnum t 0 9999 s with
  | .inl e => .inl e
  | .inr c => zpC t v h f nm ino (nI c) (znx t s)) else zpC t v h f nm ino (-1) s
def zdupN (v : zV) (h : Option Nat) (nm : Int32) : Prop := ∃ n, n < vN v ∧ nI n ≠ -1 ∧ vhom v n = vP v - 1 ∧ vpar v n = h ∧ vnd v 0 n = nm
def zdupI (v : zV) (ino : Int32) : Prop := ∃ n, n < vN v ∧ vhom v n = vP v - 1 ∧ vnd v 1 n = ino
noncomputable def zpA2 (t : zT) (v : zV) (h : Option Nat) (f : Bool) (nm : Int32) (s : Nat) : zRN := match zrnum t 0 999 s with
  | .inl e => .inl e
  | .inr i => zif (zdupI v (nI i)) (.inl (4, s)) (zpB t v h f nm (nI i) (znx t s))
noncomputable def zpA (t : zT) (v : zV) (h : Option Nat) (f : Bool) (s : Nat) : zRN := match zrname t s with
  | .inl e => .inl e
  | .inr nm => zif (zdupN v h (nI nm)) (.inl (3, s)) (zpA2 t v h f (nI nm) (znx t s))
def zfull (v : zV) (h : Option Nat) : Prop := 24 ≤ vN v ∨ 5 ≤ zdo v h
noncomputable def zrnode (t : zT) (v : zV) (h : Option Nat) (s : Nat) : zRN := zif (ziw t s (zwl 202)) (zif (zfull v h) (.inl (5, s)) (zpA t v h true (znx t s))) (zif (ziw t s (zwl 203)) (zif (zfull v h) (.inl (5, s)) (zpA t v h false (znx t s))) (.inl (1, s)))
noncomputable def zrtree (t : zT) : Nat → zV → Option Nat → Nat → (Nat × Nat) ⊕ (zV × Nat)
  | 0, _, _, s => .inl (1, s)
  | n + 1, v, h, s => if ztk t s = 3 ∧ t.1 s = 125 then (match h with
    | none => .inr (v, znx t s)
    | some d => zrtree t n v (vpar v d) (znx t s)) else (match zrnode t v h s with
    | .inl e => .inl e
    | .inr (v', h', s') => zrtree t n v' h' s')
def zdupL (v : zV) (x : Int32) : Prop := ∃ p, p < vP v ∧ vpt v 0 p = x
def zroom (v : zV) (x y : Int32) : Prop := ¬ vS v < x + y ∧ ∀ p, p < vP v → ¬ (x < vpt v 1 p + vpt v 2 p ∧ vpt v 1 p < x + y)
noncomputable def zrp3 (t : zT) (v : zV) (lb fs : Int32) (s : Nat) : (Nat × Nat) ⊕ (zV × Nat) := match zrnum t 1 99999 s with
  | .inl e => .inl e
  | .inr ln => zif (zroom v fs (nI ln)) (if ztk t (znx t s) = 3 ∧ t.1 (znx t s) = 123 then .inr (zadp v lb fs (nI ln), znx t (znx t s)) else .inl (1, znx t s)) (.inl (6, s))
noncomputable def zrp2 (t : zT) (v : zV) (lb : Int32) (s : Nat) : (Nat × Nat) ⊕ (zV × Nat) := match zrnum t 0 99999 s with
  | .inl e => .inl e
  | .inr fs => zrp3 t v lb (nI fs) (znx t s)
noncomputable def zrpart (t : zT) (v : zV) (s : Nat) : (Nat × Nat) ⊕ (zV × Nat) := zif (ziw t s (zwl 201)) (if 4 ≤ vP v then .inl (5, s) else (match zrname t (znx t s) with
  | .inl e => .inl e
  | .inr lb => zif (zdupL v (nI lb)) (.inl (3, znx t s)) (zrp2 t v (nI lb) (znx t (znx t s))))) (.inl (1, s))
noncomputable def zrparts (t : zT) : Nat → zV → Nat → (Nat × Nat) ⊕ zV
  | 0, v, _ => .inr v
  | n + 1, v, s => if s < t.2 then (match zrpart t v s with
    | .inl e => .inl e
    | .inr (v', s') => (match zrtree t (t.2 + 1) v' none s' with
      | .inl e => .inl e
      | .inr (v'', s'') => zrparts t n v'' s'')) else .inr v
def zem (sz : Int32) : zV := (sz, 0, 0, fun _ _ => 0, fun _ _ => 0, fun _ => none, fun _ => 0, fun _ => 0)
noncomputable def zrdisk (t : zT) (s : Nat) : (Nat × Nat) ⊕ (zV × Nat) := zif (ziw t s (zwl 200)) (match zrnum t 1 99999 (znx t s) with
  | .inl e => .inl e
  | .inr sz => if ztk t (znx t (znx t s)) = 3 ∧ t.1 (znx t (znx t s)) = 59 then .inr (zem (nI sz), znx t (znx t (znx t s))) else .inl (1, znx t (znx t s))) (.inl (1, s))
noncomputable def zrimg (t : zT) : (Nat × Nat) ⊕ zV := match zrdisk t (zsk t 0) with
  | .inl e => .inl e
  | .inr (v, s) => zrparts t 5 v s
/-- the directory that is open -/
def zhold (v : zV) (h : Option Nat) : Prop := 1 ≤ vP v ∧ ∀ d, h = some d → d < vN v ∧ vnd v 2 d = -1 ∧ vhom v d = vP v - 1 ∧ ∀ k, d < k → k < vN v → vdep v d < vdep v k
theorem zhold_up {v : zV} (hw : zwf v) {d : Nat} (hh : zhold v (some d)) : zhold v (vpar v d) := by
  obtain ⟨h1, h2⟩ := hh
  obtain ⟨a1, a2, a3, a4⟩ := h2 d rfl
  refine ⟨h1, fun d' hd' => ?_⟩
  obtain ⟨c1, c2, c3, c4, c5⟩ := hw.2.2.2.1 d d' a1 hd'
  refine ⟨by omega, c4, by omega, fun k k1 k2 => ?_⟩
  by_cases e1 : k < d
  · have := c5 k k1 e1; omega
  · by_cases e2 : k = d
    · rw [e2]; omega
    · have := a4 k (by omega) k2; omega
theorem zwf_add {v : zV} (hw : zwf v) {h : Option Nat} (hh : zhold v h) (hf : ¬ zfull v h) {nm ino ct att : Int32} (hn : znm nm) : zwf (zadd v h nm ino ct att) ∧ zhold (zadd v h nm ino ct att) h ∧ (ct = -1 → zhold (zadd v h nm ino ct att) (some (vN v))) := by
  obtain ⟨w1, w2, w3, w4, w5, w6, w7, w8, w9⟩ := hw
  obtain ⟨h1, h2⟩ := hh
  have f1 : vN v < 24 := Nat.lt_of_not_le (fun z => hf (Or.inl z))
  have f2 : zdo v h < 5 := Nat.lt_of_not_le (fun z => hf (Or.inr z))
  have eo : ∀ {α : Type} (f : Nat → α) (x : α) (k : Nat), k ≠ vN v → zse f (vN v) x k = f k := fun f x k q => zse_n q
  have hwf : zwf (zadd v h nm ino ct att) := by
    refine ⟨w1, by show vN v + 1 ≤ 24; omega, fun k hk => ?_, fun k p hk hp => ?_, fun k hk hp => ?_, fun k hk => ?_, fun i j hi hj => ?_, fun k hk => ?_, w9⟩
    · replace hk : k < vN v + 1 := hk
      show zse (vhom v) (vN v) (vP v - 1) k < vP v
      by_cases e : k = vN v
      · rw [e, zse_s]; omega
      · rw [eo _ _ _ e]; exact w3 k (by omega)
    · replace hk : k < vN v + 1 := hk
      replace hp : zse (vpar v) (vN v) h k = some p := hp
      show p < k ∧ zse (vhom v) (vN v) (vP v - 1) p = zse (vhom v) (vN v) (vP v - 1) k ∧ zse (vdep v) (vN v) (zdo v h + 1) k = zse (vdep v) (vN v) (zdo v h + 1) p + 1 ∧ zse (vnd v 2) (vN v) ct p = -1 ∧ ∀ j, p < j → j < k → zse (vdep v) (vN v) (zdo v h + 1) k ≤ zse (vdep v) (vN v) (zdo v h + 1) j
      by_cases e : k = vN v
      · rw [e, zse_s] at hp
        obtain ⟨a1, a2, a3, a4⟩ := h2 p hp
        rw [e, zse_s, zse_s, eo _ _ _ (show p ≠ vN v by omega), eo _ _ _ (show p ≠ vN v by omega), eo _ _ _ (show p ≠ vN v by omega)]
        have : zdo v h = vdep v p := by rw [hp]; rfl
        refine ⟨a1, a3, by omega, a2, fun j j1 j2 => ?_⟩
        rw [eo _ _ _ (show j ≠ vN v by omega)]
        have := a4 j j1 j2
        omega
      · rw [eo _ _ _ e] at hp
        obtain ⟨a1, a2, a3, a4, a5⟩ := w4 k p (by omega) hp
        rw [eo _ _ _ e, eo _ _ _ e, eo _ _ _ (show p ≠ vN v by omega), eo _ _ _ (show p ≠ vN v by omega), eo _ _ _ (show p ≠ vN v by omega)]
        refine ⟨a1, a2, a3, a4, fun j j1 j2 => ?_⟩
        rw [eo _ _ _ (show j ≠ vN v by omega)]
        exact a5 j j1 j2
    · replace hk : k < vN v + 1 := hk
      replace hp : zse (vpar v) (vN v) h k = none := hp
      show zse (vdep v) (vN v) (zdo v h + 1) k = 1
      by_cases e : k = vN v
      · rw [e, zse_s] at hp
        rw [e, zse_s, hp]
        rfl
      · rw [eo _ _ _ e] at hp ⊢
        exact w5 k (by omega) hp
    · replace hk : k < vN v + 1 := hk
      show zse (vdep v) (vN v) (zdo v h + 1) k ≤ 5
      by_cases e : k = vN v
      · rw [e, zse_s]; omega
      · rw [eo _ _ _ e]; exact w6 k (by omega)
    · replace hj : j < vN v + 1 := hj
      show zse (vhom v) (vN v) (vP v - 1) i ≤ zse (vhom v) (vN v) (vP v - 1) j
      rw [eo _ _ _ (show i ≠ vN v by omega)]
      by_cases e : j = vN v
      · rw [e, zse_s]
        have := w3 i (by omega)
        omega
      · rw [eo _ _ _ e]; exact w7 i j hi (by omega)
    · replace hk : k < vN v + 1 := hk
      show znm (zse (vnd v 0) (vN v) nm k)
      by_cases e : k = vN v
      · rw [e, zse_s]; exact hn
      · rw [eo _ _ _ e]; exact w8 k (by omega)
  refine ⟨hwf, ⟨h1, fun d hd => ?_⟩, fun hct => ⟨h1, fun d hd => ?_⟩⟩
  · obtain ⟨a1, a2, a3, a4⟩ := h2 d hd
    show d < vN v + 1 ∧ zse (vnd v 2) (vN v) ct d = -1 ∧ zse (vhom v) (vN v) (vP v - 1) d = vP v - 1 ∧ ∀ k, d < k → k < vN v + 1 → zse (vdep v) (vN v) (zdo v h + 1) d < zse (vdep v) (vN v) (zdo v h + 1) k
    rw [eo _ _ _ (show d ≠ vN v by omega), eo _ _ _ (show d ≠ vN v by omega), eo _ _ _ (show d ≠ vN v by omega)]
    refine ⟨by omega, a2, a3, fun k k1 k2 => ?_⟩
    by_cases e : k = vN v
    · rw [e, zse_s, hd]; exact Nat.lt_succ_self _
    · rw [eo _ _ _ e]; exact a4 k k1 (by omega)
  · cases hd
    show vN v < vN v + 1 ∧ zse (vnd v 2) (vN v) ct (vN v) = -1 ∧ zse (vhom v) (vN v) (vP v - 1) (vN v) = vP v - 1 ∧ ∀ k, vN v < k → k < vN v + 1 → zse (vdep v) (vN v) (zdo v h + 1) (vN v) < zse (vdep v) (vN v) (zdo v h + 1) k
    rw [zse_s, zse_s]
    exact ⟨by omega, hct, rfl, fun k k1 k2 => by omega⟩
theorem zwf_adp {v : zV} (hw : zwf v) (hP : vP v < 4) {lb fs ln : Int32} (hn : znm lb) : zwf (zadp v lb fs ln) ∧ zhold (zadp v lb fs ln) none := by
  obtain ⟨w1, w2, w3, w4, w5, w6, w7, w8, w9⟩ := hw
  refine ⟨⟨by show vP v + 1 ≤ 4; omega, w2, fun n hn => by show vhom v n < vP v + 1; have := w3 n hn; omega, w4, w5, w6, w7, w8, fun p hp => ?_⟩, by show 1 ≤ vP v + 1; omega, fun d hd => by cases hd⟩
  replace hp : p < vP v + 1 := hp
  show znm (zse (vpt v 0) (vP v) lb p)
  by_cases e : p = vP v
  · rw [e, zse_s]; exact hn
  · rw [zse_n e]; exact w9 p (by omega)
theorem zwf_em (x : Int32) : zwf (zem x) := ⟨by show (0 : Nat) ≤ 4; omega, by show (0 : Nat) ≤ 24; omega, fun n hn => absurd hn (Nat.not_lt_zero _), fun n _ hn => absurd hn (Nat.not_lt_zero _), fun n hn => absurd hn (Nat.not_lt_zero _), fun n hn => absurd hn (Nat.not_lt_zero _), fun i j _ hn => absurd hn (Nat.not_lt_zero _), fun n hn => absurd hn (Nat.not_lt_zero _), fun n hn => absurd hn (Nat.not_lt_zero _)⟩
/-- what stands while the class reads -/
def zRi (g : Nat) (t : zT) (v : zV) (h : Option Nat) (s : Nat) (I A : Nat → Nat → Int32) : Prop := cTx t I A ∧ cTk t s I ∧ cIm g v I A ∧ I 2 3 = zpI h
def zRf (g : Nat) (I A I' A' : Nat → Nat → Int32) : Prop := (∀ c j, c ≠ 2 → c ≠ g → I' c j = I c j) ∧ (∀ j, ¬ (3 ≤ j ∧ j ≤ 7) → I' 2 j = I 2 j) ∧ (∀ c, ¬ (g + 1 ≤ c ∧ c ≤ g + 10) → A' c = A c)
/-- .. and where an error is noted -/
def zRe (g : Nat) (I A I' A' : Nat → Nat → Int32) : Prop := (∀ c j, c ≠ 2 → c ≠ g → I' c j = I c j) ∧ (∀ j, ¬ (3 ≤ j ∧ j ≤ 9) → I' 2 j = I 2 j) ∧ (∀ c, ¬ (g + 1 ≤ c ∧ c ≤ g + 10) → A' c = A c)
theorem zRf_rf (g : Nat) (I A : Nat → Nat → Int32) : zRf g I A I A := ⟨fun _ _ _ _ => rfl, fun _ _ => rfl, fun _ _ => rfl⟩
theorem zRf_tr {g : Nat} {I A I' A' I'' A'' : Nat → Nat → Int32} (h : zRf g I A I' A') (k : zRf g I' A' I'' A'') : zRf g I A I'' A'' := ⟨fun c j q1 q2 => (k.1 c j q1 q2).trans (h.1 c j q1 q2), fun j q => (k.2.1 j q).trans (h.2.1 j q), fun c q => (k.2.2 c q).trans (h.2.2 c q)⟩
theorem zRe_tr {g : Nat} {I A I' A' I'' A'' : Nat → Nat → Int32} (h : zRf g I A I' A') (k : zRe g I' A' I'' A'') : zRe g I A I'' A'' := ⟨fun c j q1 q2 => (k.1 c j q1 q2).trans (h.1 c j q1 q2), fun j q => (k.2.1 j q).trans (h.2.1 j (by omega)), fun c q => (k.2.2 c q).trans (h.2.2 c q)⟩
theorem zRe_rd {g : Nat} {I A I' : Nat → Nat → Int32} (h : zRd I I') : zRe g I A I' A := ⟨fun c j q1 q2 => h c j (fun z => q1 z.1), fun j q => h 2 j (fun z => q ⟨by omega, by omega⟩), fun _ _ => rfl⟩
theorem zRf_ad {g : Nat} {I A I' : Nat → Nat → Int32} (h : zAd I I') : zRf g I A I' A := ⟨fun c j q1 q2 => h c j (fun z => q1 z.1), fun j q => h 2 j (fun z => q ⟨by omega, by omega⟩), fun _ _ => rfl⟩
theorem zRf_vl {g : Nat} {I A I' : Nat → Nat → Int32} (h : zVl I I') : zRf g I A I' A := ⟨fun c j q1 q2 => h c j (fun z => q1 z.1), fun j q => h 2 j (fun z => q ⟨by omega, by omega⟩), fun _ _ => rfl⟩
theorem zRi_ad {g : Nat} {t : zT} {v : zV} {h : Option Nat} {s s' : Nat} {I A I' : Nat → Nat → Int32} (hg : z_ib g) (k : zRi g t v h s I A) (a : zRd I I') (e : cTk t s' I') : zRi g t v h s' I' A := by
  have h45 := z_ib_45 hg
  refine ⟨cTx_fr k.1 a rfl, e, cIm_fr k.2.2.1 (by funext j; exact a g j (by omega)) (fun _ _ => rfl), ?_⟩
  rw [a 2 3 (by omega)]
  exact k.2.2.2
section
variable {L : Nat} {xs : Nat → Int32} {I : Nat → Nat → Int32} {R : Nat → Nat → Option Nat} {A : Nat → Nat → Int32} {lo : Int64} {dd : UInt64} {Φ : zPo} {t : zT} {s g : Nat} {v : zV} {h : Option Nat}
/-- advance from a token to the next -/
theorem s3_adv (hR : R 2 0 = some 1) (hg : z_ib g) (hi : zRi g t v h s I A) (k : ∀ I' : Nat → Nat → Int32, zAd I I' → zRi g t v h (znx t s) I' A → Φ (.inl none) (I', R, A, lo, dd) 0) : zC L xs mX3_advance [.ref 2] (I, R, A, lo, dd) Φ := s3_advance hR hi.1 (ztx_le hi.2.1.1.1) hi.2.1.2.2.1 (fun I' g1 g2 => k I' g1 (zRi_ad hg hi (zAd_rd g1) g2))
theorem s3_readNodeRest (hR : R 2 0 = some 1) (hRg : R 2 2 = some g) (hg : z_ib g) (hi : zRi g t v h s I A) (hw : zwf v) (hh : zhold v h) (hf : ¬ zfull v h) {f : Bool} {nm ino : Int32} {ct : Option Nat} (hct : ct.isSome = f) (hct2 : ∀ c, ct = some c → c ≤ 9999) (h1 : ∀ I' A' v' h' s', zpC t v h f nm ino (zpI ct) s = .inr (v', h', s') → zRf g I A I' A' → zRi g t v' h' s' I' A' → Φ (.inl (some (.int 1))) (I', R, A', lo, dd) 0) (h0 : ∀ I' A' c p, zpC t v h f nm ino (zpI ct) s = .inl (c, p) → zRe g I A I' A' → I' 2 8 = nI c → I' 2 9 = nI p → Φ (.inl (some (.int 0))) (I', R, A', lo, dd) 0) : zC L xs mX3_readNodeRest [.ref 2, .int nm, .int ino, .int (zpI ct)] (I, R, A, lo, dd) Φ := by
  have h45 := z_ib_45 hg
  have f1 : vN v < 24 := Nat.lt_of_not_le (fun z => hf (Or.inl z))
  have f2 : zdo v h < 5 := Nat.lt_of_not_le (fun z => hf (Or.inr z))
  have hP1 := hh.1
  have hP4 := hw.1
  refine zC_en (vc_X3_readNodeRest_0 ?_)
  -- the end: a node is added
  have fin79 : ∀ (I1 : Nat → Nat → Int32) (s1 : Nat) (att : Int32), zRf g I A I1 A → zRi g t v h (znx t s1) I1 A → (∀ I' A' v' h' s', zpD t v h f nm ino (zpI ct) att s1 = .inr (v', h', s') → zRf g I A I' A' → zRi g t v' h' s' I' A' → Φ (.inl (some (.int 1))) (I', R, A', lo, dd) 0) → ztk t s1 = 3 ∧ t.1 s1 = (if f then 59 else 123) → zW L xs mX3_readNodeRest 79 [some (.ref 2), some (.int nm), some (.int ino), some (.int (zpI ct)), some (.int att), some (.int (nI (if f then 1 else 0))), none] [] (I1, R, A, lo, dd) Φ := by
    intro I1 s1 att F1 hi1 k1 hsy
    have hD : zpD t v h f nm ino (zpI ct) att s1 = .inr (zadd v h nm ino (zpI ct) att, if f then h else some (vN v), znx t s1) := if_pos hsy
    obtain ⟨hT, hK, ⟨hS, hP, hN, p0, p1, p2, n0, n1, n2, n3, n4, n5, n6⟩, h23⟩ := hi1
    -- the state afterwards
    have fin : ∀ (x : Int32) (I2 : Nat → Nat → Int32), x = nI (zdo v h + 1) → (∀ c j, ¬ (c = g ∧ j = 5) → ¬ (c = 2 ∧ j = 3) → I2 c j = I1 c j) → I2 g 5 = nI (vN v + 1) → I2 2 3 = zpI (if f then h else some (vN v)) → Φ (.inl (some (.int 1))) (I2, R, z_up (z_up (z_up (z_up (z_up (z_up (z_up A (g + 4) (vN v) nm) (g + 5) (vN v) ino) (g + 6) (vN v) (zpI ct)) (g + 7) (vN v) att) (g + 8) (vN v) (zpI h)) (g + 9) (vN v) (nI (vP v - 1))) (g + 10) (vN v) x, lo, dd) 0 := by
      intro x I2 hx e1 e2 e3
      refine k1 I2 _ _ _ _ hD ?_ ⟨⟨by rw [e1 2 1 (by omega) (by omega)]; exact hT.1, hT.2.1, fun i hi => by rw [zup_n (by omega), zup_n (by omega), zup_n (by omega), zup_n (by omega), zup_n (by omega), zup_n (by omega), zup_n (by omega)]; exact hT.2.2 i hi⟩, ⟨hK.1, by rw [e1 2 5 (by omega) (by omega)]; exact hK.2.1, by rw [e1 2 6 (by omega) (by omega)]; exact hK.2.2.1, by rw [e1 2 4 (by omega) (by omega)]; exact hK.2.2.2⟩, ?_, e3⟩
      · refine ⟨fun c j c1 c2 => by rw [e1 c j (fun z => c2 z.1) (fun z => c1 z.1)]; exact F1.1 c j c1 c2, fun j hj => by rw [e1 2 j (by omega) (by omega)]; exact F1.2.1 j hj, fun c hc => ?_⟩
        funext j
        rw [zup_n (by omega), zup_n (by omega), zup_n (by omega), zup_n (by omega), zup_n (by omega), zup_n (by omega), zup_n (by omega)]
      · refine ⟨by rw [e1 g 0 (by omega) (by omega)]; exact hS, by rw [e1 g 1 (by omega) (by omega)]; exact hP, e2, fun p hp => ?_, fun p hp => ?_, fun p hp => ?_, fun k hk => ?_, fun k hk => ?_, fun k hk => ?_, fun k hk => ?_, fun k hk => ?_, fun k hk => ?_, fun k hk => ?_⟩
        · rw [zup_n (by omega), zup_n (by omega), zup_n (by omega), zup_n (by omega), zup_n (by omega), zup_n (by omega), zup_n (by omega)]; exact p0 p hp
        · rw [zup_n (by omega), zup_n (by omega), zup_n (by omega), zup_n (by omega), zup_n (by omega), zup_n (by omega), zup_n (by omega)]; exact p1 p hp
        · rw [zup_n (by omega), zup_n (by omega), zup_n (by omega), zup_n (by omega), zup_n (by omega), zup_n (by omega), zup_n (by omega)]; exact p2 p hp
        · replace hk : k < vN v + 1 := hk
          show _ = zse (vnd v 0) (vN v) nm k
          rw [zup_n (by omega), zup_n (by omega), zup_n (by omega), zup_n (by omega), zup_n (by omega), zup_n (by omega)]
          by_cases e : k = vN v
          · rw [e, zup_s, zse_s]
          · rw [zup_n (by omega), zse_n e]; exact n0 k (by omega)
        · replace hk : k < vN v + 1 := hk
          show _ = zse (vnd v 1) (vN v) ino k
          rw [zup_n (by omega), zup_n (by omega), zup_n (by omega), zup_n (by omega), zup_n (by omega)]
          by_cases e : k = vN v
          · rw [e, zup_s, zse_s]
          · rw [zup_n (by omega), zup_n (by omega), zse_n e]; exact n1 k (by omega)
        · replace hk : k < vN v + 1 := hk
          show _ = zse (vnd v 2) (vN v) (zpI ct) k
          rw [zup_n (by omega), zup_n (by omega), zup_n (by omega), zup_n (by omega)]
          by_cases e : k = vN v
          · rw [e, zup_s, zse_s]
          · rw [zup_n (by omega), zup_n (by omega), zup_n (by omega), zse_n e]; exact n2 k (by omega)
        · replace hk : k < vN v + 1 := hk
          show _ = zse (vnd v 3) (vN v) att k
          rw [zup_n (by omega), zup_n (by omega), zup_n (by omega)]
          by_cases e : k = vN v
          · rw [e, zup_s, zse_s]
          · rw [zup_n (by omega), zup_n (by omega), zup_n (by omega), zup_n (by omega), zse_n e]; exact n3 k (by omega)
        · replace hk : k < vN v + 1 := hk
          show _ = zpI (zse (vpar v) (vN v) h k)
          rw [zup_n (by omega), zup_n (by omega)]
          by_cases e : k = vN v
          · rw [e, zup_s, zse_s]
          · rw [zup_n (by omega), zup_n (by omega), zup_n (by omega), zup_n (by omega), zup_n (by omega), zse_n e]; exact n4 k (by omega)
        · replace hk : k < vN v + 1 := hk
          show _ = nI (zse (vhom v) (vN v) (vP v - 1) k)
          rw [zup_n (by omega)]
          by_cases e : k = vN v
          · rw [e, zup_s, zse_s]
          · rw [zup_n (by omega), zup_n (by omega), zup_n (by omega), zup_n (by omega), zup_n (by omega), zup_n (by omega), zse_n e]; exact n5 k (by omega)
        · replace hk : k < vN v + 1 := hk
          show _ = nI (zse (vdep v) (vN v) (zdo v h + 1) k)
          by_cases e : k = vN v
          · rw [e, zup_s, zse_s]; exact hx
          · rw [zup_n (by omega), zup_n (by omega), zup_n (by omega), zup_n (by omega), zup_n (by omega), zup_n (by omega), zup_n (by omega), zse_n e]; exact n6 k (by omega)
    refine vc_X3_readNodeRest_79 hg hRg ?_
    rw [hN, hP, h23, show nI (vP v) - (1 : Int32) = nI (vP v - 1) from ze_sub (a := vP v) (b := 1) hP1]
    have hupA : ∀ c j, ¬ (c = g ∧ j = 5) → ¬ (c = 2 ∧ j = 3) → z_up I1 g 5 (nI (vN v + 1)) c j = I1 c j := fun c j q _ => zup_n q
    have hupB : ∀ (x : Int32) c j, ¬ (c = g ∧ j = 5) → ¬ (c = 2 ∧ j = 3) → z_up (z_up I1 g 5 (nI (vN v + 1))) 2 3 x c j = I1 c j := fun x c j q1 q2 => by rw [zup_n q2, zup_n q1]
    cases f with
    | true =>
      have hA : I1 2 3 = zpI (if true = true then h else some (vN v)) := h23
      cases h with
      | none =>
        simp (disch := omega) only [ze_lit, pk_mul, nI_add, nI_clamp, ze_inI, nI_ltI, nI_eq, show (zpI none : Int32) = -nI 1 from rfl]
        refine ⟨fun _ => ⟨by omega, by omega, by omega, by omega, by omega, by omega, fun _ => ⟨by omega, fun z => absurd z (by decide), fun _ => fin (nI (0 + 1)) _ rfl hupA zup_s (by rw [zup_n (by omega)]; exact hA)⟩, fun z => absurd trivial z⟩, fun z => absurd f1 z⟩
      | some d =>
        obtain ⟨a1, a2, a3, a4⟩ := hh.2 d rfl
        have hd6 := n6 d a1
        have hd5 := hw.2.2.2.2.2.1 d a1
        simp (disch := omega) only [ze_lit, pk_mul, nI_add, nI_clamp, ze_inI, nI_ltI, nI_eq, show (zpI (some d) : Int32) = nI d from rfl, ze_m1n, zup_n, hd6]
        refine ⟨fun _ => ⟨by omega, by omega, by omega, by omega, by omega, by omega, fun z => z.elim, fun _ => ⟨by omega, by omega, fun z => absurd z (by decide), fun _ => fin (nI (vdep v d + 1)) _ rfl hupA zup_s (by rw [zup_n (by omega)]; exact hA)⟩⟩, fun z => absurd f1 z⟩
    | false =>
      cases h with
      | none =>
        simp (disch := omega) only [ze_lit, pk_mul, nI_add, nI_clamp, ze_inI, nI_ltI, nI_eq, show (zpI none : Int32) = -nI 1 from rfl]
        refine ⟨fun _ => ⟨by omega, by omega, by omega, by omega, by omega, by omega, fun _ => ⟨by omega, fun _ => fin (nI (0 + 1)) _ rfl (hupB _) (by rw [zup_n (by omega), zup_s]) zup_s, fun z => absurd (by simp) z⟩, fun z => absurd trivial z⟩, fun z => absurd f1 z⟩
      | some d =>
        obtain ⟨a1, a2, a3, a4⟩ := hh.2 d rfl
        have hd6 := n6 d a1
        have hd5 := hw.2.2.2.2.2.1 d a1
        simp (disch := omega) only [ze_lit, pk_mul, nI_add, nI_clamp, ze_inI, nI_ltI, nI_eq, show (zpI (some d) : Int32) = nI d from rfl, ze_m1n, zup_n, hd6]
        refine ⟨fun _ => ⟨by omega, by omega, by omega, by omega, by omega, by omega, fun z => z.elim, fun _ => ⟨by omega, by omega, fun _ => fin (nI (vdep v d + 1)) _ rfl (hupB _) (by rw [zup_n (by omega), zup_s]) zup_s, fun z => absurd (by simp) z⟩⟩, fun z => absurd f1 z⟩
  -- the symbol at the end
  have sym : ∀ (I1 : Nat → Nat → Int32) (s1 : Nat) (att : Int32), zRf g I A I1 A → zRi g t v h s1 I1 A → (∀ I' A' v' h' s', zpD t v h f nm ino (zpI ct) att s1 = .inr (v', h', s') → zRf g I A I' A' → zRi g t v' h' s' I' A' → Φ (.inl (some (.int 1))) (I', R, A', lo, dd) 0) → (∀ I' A' c p, zpD t v h f nm ino (zpI ct) att s1 = .inl (c, p) → zRe g I A I' A' → I' 2 8 = nI c → I' 2 9 = nI p → Φ (.inl (some (.int 0))) (I', R, A', lo, dd) 0) → ((zpI ct : Int32) = -1 → ((I1 2 4 : Int32) = 3 → z_in (I1 2 5) 800 ∧ (((A 1 (Int32.toNatClampNeg (I1 2 5)) : Int32) = 123 → zC L xs mX3_advance [.ref 2] (I1, R, A, lo, dd) (z_kont [] (fun r τ Ψ => zW L xs mX3_readNodeRest 79 [some (.ref 2), some (.int nm), some (.int ino), some (.int (zpI ct)), some (.int att), some (.int 0), none] (r.toList ++ []) τ Ψ) Φ)) ∧ (¬ (A 1 (Int32.toNatClampNeg (I1 2 5)) : Int32) = 123 → Φ (.inl (some (.int 0))) (z_up (z_up I1 2 8 1) 2 9 ((z_up I1 2 8 1) 2 5), R, A, lo, dd) 0))) ∧ (¬ (I1 2 4 : Int32) = 3 → Φ (.inl (some (.int 0))) (z_up (z_up I1 2 8 1) 2 9 ((z_up I1 2 8 1) 2 5), R, A, lo, dd) 0)) ∧ (¬ (zpI ct : Int32) = -1 → ((I1 2 4 : Int32) = 3 → z_in (I1 2 5) 800 ∧ (((A 1 (Int32.toNatClampNeg (I1 2 5)) : Int32) = 59 → zC L xs mX3_advance [.ref 2] (I1, R, A, lo, dd) (z_kont [] (fun r τ Ψ => zW L xs mX3_readNodeRest 79 [some (.ref 2), some (.int nm), some (.int ino), some (.int (zpI ct)), some (.int att), some (.int 1), none] (r.toList ++ []) τ Ψ) Φ)) ∧ (¬ (A 1 (Int32.toNatClampNeg (I1 2 5)) : Int32) = 59 → Φ (.inl (some (.int 0))) (z_up (z_up I1 2 8 1) 2 9 ((z_up I1 2 8 1) 2 5), R, A, lo, dd) 0))) ∧ (¬ (I1 2 4 : Int32) = 3 → Φ (.inl (some (.int 0))) (z_up (z_up I1 2 8 1) 2 9 ((z_up I1 2 8 1) 2 5), R, A, lo, dd) 0)) := by
    intro I1 s1 att F1 hi1 k1 k0
    have hi1' := hi1
    obtain ⟨⟨hT1, hT2, hT3⟩, ⟨hs0, hs5, hs6, hs4⟩, hv1, h23⟩ := hi1
    have htk : ztk t s1 ≤ 5 := by
      unfold ztk
      have := zbk_le (t.1 s1)
      split
      · split <;> omega
      · omega
    have hE : ¬ (ztk t s1 = 3 ∧ t.1 s1 = (if f then 59 else 123)) → Φ (.inl (some (.int 0))) (z_up (z_up I1 2 8 1) 2 9 ((z_up I1 2 8 1) 2 5), R, A, lo, dd) 0 := by
      intro q
      refine k0 _ A 1 s1 (if_neg q) (zRe_tr F1 (zRe_rd (zRd_up (zRd_up (zRd_rf _) (by decide)) (by decide)))) (by rw [zup_n (by omega), zup_s]; rfl) (by rw [zup_s, zup_n (by omega), hs5])
    have hA : ztk t s1 = 3 ∧ t.1 s1 = (if f then 59 else 123) → zC L xs mX3_advance [.ref 2] (I1, R, A, lo, dd) (z_kont [] (fun r τ Ψ => zW L xs mX3_readNodeRest 79 [some (.ref 2), some (.int nm), some (.int ino), some (.int (zpI ct)), some (.int att), some (.int (nI (if f then 1 else 0))), none] (r.toList ++ []) τ Ψ) Φ) := by
      intro q
      exact s3_adv hR hg hi1' (fun I' g1 g2 => zk_r (fin79 I' s1 att (zRf_tr F1 (zRf_ad g1)) g2 k1 q))
    have e3 : ((I1 2 4 : Int32) = 3) ↔ ztk t s1 = 3 := by rw [hs4]; exact nI_eq (by omega) (by decide)
    have e5 : ztk t s1 = 3 → ∀ c : Nat, c < 256 → (((A 1 (Int32.toNatClampNeg (I1 2 5)) : Int32) = nI c) ↔ t.1 s1 = c) := by
      intro q c hc
      obtain ⟨a1, a2, a3⟩ := zat_sym q
      obtain ⟨t1, t2⟩ := hT3 s1 a1
      rw [hs5, nI_clamp (by omega), t1]
      exact nI_eq (by omega) (by omega)
    have ein : ztk t s1 = 3 → z_in (I1 2 5) 800 := by
      intro q
      obtain ⟨a1, a2, a3⟩ := zat_sym q
      rw [hs5]
      exact nI_in (by omega) (by decide)
    cases ct with
    | none =>
      have hff : f = false := by rw [← hct]; rfl
      subst hff
      exact ⟨fun _ => ⟨fun q => ⟨ein (e3.mp q), fun q2 => hA ⟨e3.mp q, (e5 (e3.mp q) 123 (by decide)).mp q2⟩, fun q2 => hE (fun z => q2 ((e5 (e3.mp q) 123 (by decide)).mpr z.2))⟩, fun q => hE (fun z => q (e3.mpr z.1))⟩, fun z => absurd rfl z⟩
    | some c =>
      have hff : f = true := by rw [← hct]; rfl
      subst hff
      have hc9 := hct2 c rfl
      exact ⟨fun z => ((ze_m1 (by omega)).mp z).elim, fun _ => ⟨fun q => ⟨ein (e3.mp q), fun q2 => hA ⟨e3.mp q, (e5 (e3.mp q) 59 (by decide)).mp q2⟩, fun q2 => hE (fun z => q2 ((e5 (e3.mp q) 59 (by decide)).mpr z.2))⟩, fun q => hE (fun z => q (e3.mpr z.1))⟩⟩
  refine s3_isWord hR hi.1 hi.2.1 (by decide) (fun q => zk_r (vc_X3_readNodeRest_9 hR ⟨fun z => absurd z (by decide), fun _ => ?_⟩)) (fun q => zk_r (vc_X3_readNodeRest_9 hR ⟨fun _ => ?_, fun z => absurd rfl z⟩))
  · refine s3_adv hR hg hi (fun I1 a1 i1 => zk_r (vc_X3_readNodeRest_16 ?_))
    have hzc : ∀ r, zrnum t 0 7 (znx t s) = r → zpC t v h f nm ino (zpI ct) s = (match r with
      | .inl e => .inl e
      | .inr a => zpD t v h f nm ino (zpI ct) (nI a) (znx t (znx t s))) := fun r hr => by
      unfold zpC
      rw [zif_t q, hr]
    refine s3_checkNumber hR i1.1 i1.2.1 (lw := 0) (hi := 7) (by decide) (by decide) (fun I2 n hn v2 e7 _ _ => zk_r (vc_X3_readNodeRest_23 ⟨fun z => absurd z (by decide), fun _ => ?_⟩)) (fun I2 c p hn e2 => zk_r (vc_X3_readNodeRest_23 ⟨fun _ => ?_, fun z => absurd rfl z⟩))
    · have i2 := zRi_ad hg i1 (zVl_rd v2) (zVl_tk v2 i1.2.1)
      rw [e7]
      refine s3_adv hR hg i2 (fun I3 a3 i3 => zk_r (vc_X3_readNodeRest_38 hR ?_))
      exact sym I3 _ (nI n) (zRf_tr (zRf_ad a1) (zRf_tr (zRf_vl v2) (zRf_ad a3))) i3 (fun I' A' v' h' s' hd => h1 I' A' v' h' s' (by rw [hzc _ hn]; exact hd)) (fun I' A' c p hd => h0 I' A' c p (by rw [hzc _ hn]; exact hd))
    · exact h0 I2 A c p (by rw [hzc _ hn]) (zRe_tr (zRf_ad a1) (zRe_rd e2.1)) e2.2.1 e2.2.2
  · have hzc : zpC t v h f nm ino (zpI ct) s = zpD t v h f nm ino (zpI ct) 0 s := by
      unfold zpC
      rw [zif_f q]
    exact sym I s 0 (zRf_rf _ _ _) hi (fun I' A' v' h' s' hd => h1 I' A' v' h' s' (by rw [hzc]; exact hd)) (fun I' A' c p hd => h0 I' A' c p (by rw [hzc]; exact hd))
end
