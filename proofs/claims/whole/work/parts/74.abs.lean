/-! the two sides' states; outcomes of a call -/
abbrev zAb : Type := zT × Int32 × Int32 × (Nat → zV) × (Nat → Nat) × List Nat
abbrev sT (s : zAb) : zT := s.1
abbrev sC (s : zAb) : Int32 := s.2.1
abbrev sE (s : zAb) : Int32 := s.2.2.1
abbrev sV (s : zAb) : Nat → zV := s.2.2.2.1
abbrev sO (s : zAb) : Nat → Nat := s.2.2.2.2.1
abbrev sP (s : zAb) : List Nat := s.2.2.2.2.2
abbrev zOc : Type := Nat × Int32 × zAb
def sVw (s : zAb) (k : Nat) (v : zV) : zAb := (sT s, sC s, sE s, zse (sV s) k v, sO s, sP s)
def zOK (s : zAb) : Prop := (∀ k, k ≤ 1 → zwf (sV s k)) ∧ (sP s).length ≤ 41
def zsb (o w k b : Nat) : Prop := (k = 0 ∧ b = o) ∨ (k = 1 ∧ b = w)
def zFre (o w : Nat) (v u : zV) (I : Nat → Nat → Int32) (R : Nat → Nat → Option Nat) (A : Nat → Nat → Int32) : Prop := I 0 13 = 0 ∧ R 48 0 = some o ∧ R 48 1 = some w ∧ cMp 48 (zpa v u) A ∧ cMn 48 (zna v u) A ∧ cSr 54 v u (zpa v u) (zna v u).1 I A
def zS5 (o w sp : Nat) (s : zAb) (I : Nat → Nat → Int32) (R : Nat → Nat → Option Nat) (A : Nat → Nat → Int32) : Prop := z_ib o ∧ z_ib w ∧ z_ib sp ∧ (o ≠ w ∧ o ≠ sp ∧ w ≠ sp) ∧ (R 0 5 = some o ∧ R 0 6 = some w ∧ R 0 7 = some sp) ∧ cTt (sT s) I A ∧ (I 0 2 = sC s ∧ I 0 3 = sE s) ∧ cIm o (sV s 0) I A ∧ cIm w (sV s 1) I A ∧ cPa (sP s) I A ∧ cCo (sO s) A ∧ (I 0 13 = 1 ∨ zFre o w (sV s 0) (sV s 1) I R A)
def zM6 (s : zAb) (I A : Nat → Nat → Int32) : Prop := mTx (sT s) I A ∧ (I 107 6 = sC s ∧ I 107 7 = sE s) ∧ mIm 0 (sV s 0) A ∧ mIm 1 (sV s 1) A ∧ mPa (sP s) I A ∧ mCo (sO s) A
def zG5 (I : Nat → Nat → Int32) (R : Nat → Nat → Option Nat) (A I' : Nat → Nat → Int32) (R' : Nat → Nat → Option Nat) (A' : Nat → Nat → Int32) : Prop := ∀ c, 107 ≤ c → I' c = I c ∧ R' c = R c ∧ A' c = A c
def zG6 (I A I' A' : Nat → Nat → Int32) : Prop := ∀ c, c < 107 → I' c = I c ∧ A' c = A c
theorem zG5_rf (I : Nat → Nat → Int32) (R : Nat → Nat → Option Nat) (A : Nat → Nat → Int32) : zG5 I R A I R A := fun _ _ => ⟨rfl, rfl, rfl⟩
theorem zG6_rf (I A : Nat → Nat → Int32) : zG6 I A I A := fun _ _ => ⟨rfl, rfl⟩
theorem zG5_tr {I I' I'' : Nat → Nat → Int32} {R R' R'' : Nat → Nat → Option Nat} {A A' A'' : Nat → Nat → Int32} (h : zG5 I R A I' R' A') (g : zG5 I' R' A' I'' R'' A'') : zG5 I R A I'' R'' A'' := fun c hc => ⟨(g c hc).1.trans (h c hc).1, (g c hc).2.1.trans (h c hc).2.1, (g c hc).2.2.trans (h c hc).2.2⟩
theorem zG6_tr {I I' I'' A A' A'' : Nat → Nat → Int32} (h : zG6 I A I' A') (g : zG6 I' A' I'' A'') : zG6 I A I'' A'' := fun c hc => ⟨(g c hc).1.trans (h c hc).1, (g c hc).2.trans (h c hc).2⟩
theorem zG6_up {I A : Nat → Nat → Int32} {j : Nat} {x : Int32} : zG6 I A (z_up I 107 j x) A := fun c hc => ⟨by funext i; rw [zup_n (by omega)], rfl⟩
theorem zib_le {b : Nat} (h : z_ib b) : 4 ≤ b ∧ b ≤ 32 := by rcases h with rfl | rfl | rfl <;> omega
theorem zib_far {o b : Nat} (ho : z_ib o) (hb : z_ib b) (h : o ≠ b) : o + 13 < b ∨ b + 13 < o := by
  rcases ho with rfl | rfl | rfl <;> rcases hb with rfl | rfl | rfl <;> omega
theorem cTt_fr {t : zT} {I A I' A' : Nat → Nat → Int32} (h : cTt t I A) (hI : I' 0 1 = I 0 1) (hA : A' 1 = A 1) : cTt t I' A' := ⟨hI.trans h.1, h.2.1, fun i hi => by rw [hA]; exact h.2.2 i hi⟩
theorem cPa_fr {l : List Nat} {I A I' A' : Nat → Nat → Int32} (h : cPa l I A) (hI : I' 0 9 = I 0 9) (hA : A' 46 = A 46) : cPa l I' A' := ⟨hI.trans h.1, fun k hk => by rw [hA]; exact h.2 k hk⟩
theorem cCo_fr {co : Nat → Nat} {A A' : Nat → Nat → Int32} (h : cCo co A) (hA : A' 47 = A 47) : cCo co A' := fun k hk => by rw [hA]; exact h k hk
theorem cMn_fr {d : Nat} {s : zMn} {A A' : Nat → Nat → Int32} (h : cMn d s A) (h1 : A' (d + 3) = A (d + 3)) (h2 : A' (d + 4) = A (d + 4)) (h3 : A' (d + 5) = A (d + 5)) : cMn d s A' := ⟨fun i hi => by rw [h1]; exact h.1 i hi, fun i hi => by rw [h2]; exact h.2.1 i hi, fun i hi => by rw [h3]; exact h.2.2 i hi⟩
theorem zFre_fr {o w : Nat} {v u : zV} {I I' : Nat → Nat → Int32} {R R' : Nat → Nat → Option Nat} {A A' : Nat → Nat → Int32} (h : zFre o w v u I R A) (hI0 : I' 0 13 = I 0 13) (hI : I' 54 = I 54) (hR : R' 48 = R 48) (hA : ∀ c, 48 ≤ c → c < 60 → A' c = A c) : zFre o w v u I' R' A' := by
  obtain ⟨h1, h2, h3, h4, h5, h6, h7, h8⟩ := h
  refine ⟨hI0.trans h1, by rw [hR]; exact h2, by rw [hR]; exact h3, cMp_fr h4 (hA _ (by omega) (by omega)) (hA _ (by omega) (by omega)), cMn_fr h5 (hA _ (by omega) (by omega)) (hA _ (by omega) (by omega)) (hA _ (by omega) (by omega)), cSc_fr h6 hI (hA _ (by omega) (by omega)) (hA _ (by omega) (by omega)) (hA _ (by omega) (by omega)), fun j hj => ?_, fun j hj => ?_⟩
  · rw [hA _ (by omega) (by omega)]; exact h7 j hj
  · rw [hA _ (by omega) (by omega)]; exact h8 j hj
theorem zS5_fr {o w sp : Nat} {s : zAb} {I I' : Nat → Nat → Int32} {R R' : Nat → Nat → Option Nat} {A A' : Nat → Nat → Int32} (h : zS5 o w sp s I R A) (hI : ∀ c, c < 60 → I' c = I c) (hR : ∀ c, c < 60 → R' c = R c) (hA : ∀ c, c < 60 → A' c = A c) : zS5 o w sp s I' R' A' := by
  obtain ⟨ho, hw, hsp, hne, ⟨r5, r6, r7⟩, hT, ⟨e2, e3⟩, hv, hu, hP, hc, hf⟩ := h
  have bo := zib_le ho
  have bw := zib_le hw
  refine ⟨ho, hw, hsp, hne, by rw [hR 0 (by omega)]; exact ⟨r5, r6, r7⟩, cTt_fr hT (by rw [hI 0 (by omega)]) (hA _ (by omega)), by rw [hI 0 (by omega)]; exact ⟨e2, e3⟩, cIm_fr hv (hI _ (by omega)) (fun j hj => hA _ (by omega)), cIm_fr hu (hI _ (by omega)) (fun j hj => hA _ (by omega)), cPa_fr hP (by rw [hI 0 (by omega)]) (hA _ (by omega)), cCo_fr hc (hA _ (by omega)), hf.elim (fun z => Or.inl (by rw [hI 0 (by omega)]; exact z)) (fun z => Or.inr (zFre_fr z (by rw [hI 0 (by omega)]) (hI _ (by omega)) (hR _ (by omega)) (fun c _ c2 => hA c c2)))⟩
theorem zS5_im {o w sp k b : Nat} {s : zAb} {I : Nat → Nat → Int32} {R : Nat → Nat → Option Nat} {A : Nat → Nat → Int32} (h : zS5 o w sp s I R A) (hb : zsb o w k b) : k ≤ 1 ∧ z_ib b ∧ cIm b (sV s k) I A := by
  obtain ⟨ho, hw, hsp, hne, hR, hT, hE, hv, hu, hr⟩ := h
  rcases hb with ⟨rfl, rfl⟩ | ⟨rfl, rfl⟩
  · exact ⟨by decide, ho, hv⟩
  · exact ⟨by decide, hw, hu⟩
/-- an image changes -/
theorem zS5_ch {o w sp k b : Nat} {s : zAb} {v' : zV} {I I' : Nat → Nat → Int32} {R : Nat → Nat → Option Nat} {A A' : Nat → Nat → Int32} (h : zS5 o w sp s I R A) (hb : zsb o w k b) (h13 : I' 0 13 = 1) (hI : ∀ c j, c ≠ b → ¬ (c = 0 ∧ j = 13) → I' c j = I c j) (hA : ∀ c, ¬ (b + 1 ≤ c ∧ c ≤ b + 13) → A' c = A c) (hv' : cIm b v' I' A') : zS5 o w sp (sVw s k v') I' R A' := by
  obtain ⟨ho, hw, hsp, hne, ⟨r5, r6, r7⟩, hT, ⟨e2, e3⟩, hv, hu, hP, hc, hf⟩ := h
  have bo := zib_le ho
  have bw := zib_le hw
  have far := zib_far ho hw hne.1
  rcases hb with ⟨rfl, rfl⟩ | ⟨rfl, rfl⟩
  · refine ⟨ho, hw, hsp, hne, ⟨r5, r6, r7⟩, cTt_fr hT (hI _ _ (by omega) (by omega)) (hA _ (by omega)), ⟨(hI _ _ (by omega) (by omega)).trans e2, (hI _ _ (by omega) (by omega)).trans e3⟩, ?_, ?_, cPa_fr hP (hI _ _ (by omega) (by omega)) (hA _ (by omega)), cCo_fr hc (hA _ (by omega)), Or.inl h13⟩
    · show cIm b (zse (sV s) 0 v' 0) I' A'
      rw [zse_s]; exact hv'
    · show cIm w (zse (sV s) 0 v' 1) I' A'
      rw [zse_n (by omega)]
      exact cIm_fr hu (by funext j; exact hI _ _ (by omega) (by omega)) (fun j hj => hA _ (by omega))
  · refine ⟨ho, hw, hsp, hne, ⟨r5, r6, r7⟩, cTt_fr hT (hI _ _ (by omega) (by omega)) (hA _ (by omega)), ⟨(hI _ _ (by omega) (by omega)).trans e2, (hI _ _ (by omega) (by omega)).trans e3⟩, ?_, ?_, cPa_fr hP (hI _ _ (by omega) (by omega)) (hA _ (by omega)), cCo_fr hc (hA _ (by omega)), Or.inl h13⟩
    · show cIm o (zse (sV s) 1 v' 0) I' A'
      rw [zse_n (by omega)]
      exact cIm_fr hv (by funext j; exact hI _ _ (by omega) (by omega)) (fun j hj => hA _ (by omega))
    · show cIm b (zse (sV s) 1 v' 1) I' A'
      rw [zse_s]; exact hv'
theorem zM6_fr {s : zAb} {I A I' A' : Nat → Nat → Int32} (h : zM6 s I A) (hI : ∀ j, j = 4 ∨ j = 6 ∨ j = 7 ∨ j = 12 → I' 107 j = I 107 j) (hA : ∀ c, 108 ≤ c → c ≤ 111 → A' c = A c) : zM6 s I' A' := by
  obtain ⟨⟨t1, t2, t3⟩, ⟨e6, e7⟩, hv, hu, ⟨p1, p2⟩, hc⟩ := h
  exact ⟨⟨(hI _ (by omega)).trans t1, t2, fun i hi => by rw [hA 110 (by omega) (by omega)]; exact t3 i hi⟩, ⟨(hI _ (by omega)).trans e6, (hI _ (by omega)).trans e7⟩, mIm_fr hv (hA _ (by omega) (by omega)), mIm_fr hu (hA _ (by omega) (by omega)), ⟨(hI _ (by omega)).trans p1, fun k hk => by rw [hA 111 (by omega) (by omega)]; exact p2 k hk⟩, fun k hk => by rw [hA 109 (by omega) (by omega)]; exact hc k hk⟩
theorem zM6_up {s : zAb} {I A : Nat → Nat → Int32} {j : Nat} {x : Int32} (h : zM6 s I A) (hj : j ≠ 4 ∧ j ≠ 6 ∧ j ≠ 7 ∧ j ≠ 12) : zM6 s (z_up I 107 j x) A := zM6_fr h (fun i hi => by rw [zup_n (by omega)]) (fun _ _ _ => rfl)
theorem zM6_im {s : zAb} {I A : Nat → Nat → Int32} {k : Nat} (h : zM6 s I A) (hk : k ≤ 1) : mIm k (sV s k) A := by
  rcases Nat.le_one_iff_eq_zero_or_eq_one.mp hk with rfl | rfl
  · exact h.2.2.1
  · exact h.2.2.2.1
/-- an image of the model changes -/
theorem zM6_ch {s : zAb} {I A I' A' : Nat → Nat → Int32} {k : Nat} {v' : zV} (hok : zOK s) (h : zM6 s I A) (hk : k ≤ 1) (hI : ∀ j, j = 4 ∨ j = 6 ∨ j = 7 ∨ j = 12 → I' 107 j = I 107 j) (hA : ∀ c, 109 ≤ c → c ≤ 111 → A' c = A c) (hj : ∀ j, j < 318 → ¬ (159 * k ≤ j ∧ j < 159 * k + 159) → A' 108 j = A 108 j) (hv' : mIm k v' A') : zM6 (sVw s k v') I' A' := by
  obtain ⟨⟨t1, t2, t3⟩, ⟨e6, e7⟩, hv, hu, ⟨p1, p2⟩, hc⟩ := h
  refine ⟨⟨(hI _ (by omega)).trans t1, t2, fun i hi => by rw [hA 110 (by omega) (by omega)]; exact t3 i hi⟩, ⟨(hI _ (by omega)).trans e6, (hI _ (by omega)).trans e7⟩, ?_, ?_, ⟨(hI _ (by omega)).trans p1, fun k hk => by rw [hA 111 (by omega) (by omega)]; exact p2 k hk⟩, fun k hk => by rw [hA 109 (by omega) (by omega)]; exact hc k hk⟩
  · show mIm 0 (zse (sV s) k v' 0) A'
    rcases Nat.le_one_iff_eq_zero_or_eq_one.mp hk with rfl | rfl
    · rw [zse_s]; exact hv'
    · rw [zse_n (by omega)]
      exact mIm_st hv (hok.1 0 (by decide)).1 (hok.1 0 (by decide)).2.1 (fun j _ _ => hj j (by omega) (by omega))
  · show mIm 1 (zse (sV s) k v' 1) A'
    rcases Nat.le_one_iff_eq_zero_or_eq_one.mp hk with rfl | rfl
    · rw [zse_n (by omega)]
      exact mIm_st hu (hok.1 1 (by decide)).1 (hok.1 1 (by decide)).2.1 (fun j _ _ => hj j (by omega) (by omega))
    · rw [zse_s]; exact hv'
theorem zOK_ch {s : zAb} {k : Nat} {v : zV} (h : zOK s) (hv : zwf v) : zOK (sVw s k v) := by
  refine ⟨fun i hi => ?_, h.2⟩
  show zwf (zse (sV s) k v i)
  by_cases q : i = k
  · rw [q, zse_s]; exact hv
  · rw [zse_n q]; exact h.1 i hi
/-! outcomes -/
def zK0 (tab : List (Int32 × Nat)) (r : zOc) (I : Nat → Nat → Int32) (R : Nat → Nat → Option Nat) (A : Nat → Nat → Int32) (lo : Int64) (dd : UInt64) (Φ : zPo) : Prop := ∀ (o w sp : Nat) (I' : Nat → Nat → Int32) (R' : Nat → Nat → Option Nat) (A' : Nat → Nat → Int32), zS5 o w sp r.2.2 I' R' A' → zG5 I R A I' R' A' → (r.1 = 0 → Φ (.inl (some (.int r.2.1))) (I', R', A', lo, dd) 0) ∧ (r.1 ≠ 0 → ∀ e, z_hnd e tab = some (nI r.1) → Φ (.inr e) (I', R', A', lo, dd) 1)
def zK6 (r : zOc) (I : Nat → Nat → Int32) (R : Nat → Nat → Option Nat) (A : Nat → Nat → Int32) (lo : Int64) (dd : UInt64) (Φ : zPo) : Prop := ∀ (I' A' : Nat → Nat → Int32) (y : Int32), zM6 r.2.2 I' A' → zG6 I A I' A' → I' 107 0 = nI r.1 → (r.1 = 0 → y = r.2.1) → Φ (.inl (some (.int y))) (I', R, A', lo, dd) 0
theorem zK0_r {tab : List (Int32 × Nat)} {r : zOc} {I I' : Nat → Nat → Int32} {R R' : Nat → Nat → Option Nat} {A A' : Nat → Nat → Int32} {lo : Int64} {dd : UInt64} {Φ : zPo} {v : Int32} {s' : zAb} {o w sp : Nat} (hk : zK0 tab r I R A lo dd Φ) (hr : r = (0, v, s')) (hs : zS5 o w sp s' I' R' A') (hg : zG5 I R A I' R' A') : Φ (.inl (some (.int v))) (I', R', A', lo, dd) 0 := by
  subst hr
  exact (hk o w sp I' R' A' hs hg).1 rfl
theorem zK0_t {tab : List (Int32 × Nat)} {r : zOc} {I I' : Nat → Nat → Int32} {R R' : Nat → Nat → Option Nat} {A A' : Nat → Nat → Int32} {lo : Int64} {dd : UInt64} {Φ : zPo} {k e : Nat} {x : Int32} {s' : zAb} {o w sp : Nat} (hk : zK0 tab r I R A lo dd Φ) (hr : r = (k + 1, x, s')) (he : z_hnd e tab = some (nI (k + 1))) (hs : zS5 o w sp s' I' R' A') (hg : zG5 I R A I' R' A') : Φ (.inr e) (I', R', A', lo, dd) 1 := by
  subst hr
  exact (hk o w sp I' R' A' hs hg).2 (Nat.succ_ne_zero k) e he
theorem zK6_e {r : zOc} {I I' : Nat → Nat → Int32} {R : Nat → Nat → Option Nat} {A A' : Nat → Nat → Int32} {lo : Int64} {dd : UInt64} {Φ : zPo} {k : Nat} {v y : Int32} {s' : zAb} (hk : zK6 r I R A lo dd Φ) (hr : r = (k, v, s')) (hs : zM6 s' I' A') (hg : zG6 I A I' A') (h0 : I' 107 0 = nI k) (hy : k = 0 → y = v) : Φ (.inl (some (.int y))) (I', R, A', lo, dd) 0 := by
  subst hr
  exact hk I' A' y hs hg h0 hy
/-! arguments -/
def zix (x : Int32) (N : Nat) : Option Nat := if ¬ x < 0 ∧ x.toNatClampNeg < N then some x.toNatClampNeg else none
theorem zix_s {n N : Nat} (h : n < N) (hN : N ≤ 2 ^ 31) : zix (nI n) N = some n := by
  unfold zix
  rw [if_pos ⟨nI_pos (by omega), by rw [nI_clamp (by omega)]; exact h⟩, nI_clamp (by omega)]
theorem zix_n {x : Int32} {N : Nat} (h : ∀ n, n < N → x ≠ nI n) : zix x N = none := by
  unfold zix
  rw [if_neg]
  intro q
  exact h _ q.2 (zn_of q.1).1
def zFi (s : zAb) (x : Int32) (e : Nat → zOc) : zOc := match zix x 2 with
  | none => (1, 0, s)
  | some k => e k
def zFn (s : zAb) (x y : Int32) (e : Nat → Nat → zOc) : zOc := zFi s x (fun k => match zix y (vN (sV s k)) with
  | none => (1, 0, s)
  | some n => e k n)
def zFp (s : zAb) (x y : Int32) (e : Nat → Nat → zOc) : zOc := zFi s x (fun k => match zix y (vP (sV s k)) with
  | none => (1, 0, s)
  | some n => e k n)
theorem zFi_n {s : zAb} {x : Int32} {e : Nat → zOc} (h : ∀ k, k ≤ 1 → x ≠ nI k) : zFi s x e = (1, 0, s) := by
  unfold zFi
  rw [zix_n (fun n hn => h n (by omega))]
theorem zFi_s {s : zAb} {k : Nat} {e : Nat → zOc} (h : k ≤ 1) : zFi s (nI k) e = e k := by
  unfold zFi
  rw [zix_s (by omega) (by decide)]
theorem zFn_s {s : zAb} {k n : Nat} {e : Nat → Nat → zOc} (hok : zOK s) (h : k ≤ 1) (hn : n < vN (sV s k)) : zFn s (nI k) (nI n) e = e k n := by
  have := (hok.1 k h).2.1
  unfold zFn
  rw [zFi_s h, zix_s hn (by omega)]
theorem zFn_n {s : zAb} {k : Nat} {y : Int32} {e : Nat → Nat → zOc} (h : k ≤ 1) (hn : ∀ n, n < vN (sV s k) → y ≠ nI n) : zFn s (nI k) y e = (1, 0, s) := by
  unfold zFn
  rw [zFi_s h, zix_n hn]
theorem zFp_s {s : zAb} {k n : Nat} {e : Nat → Nat → zOc} (hok : zOK s) (h : k ≤ 1) (hn : n < vP (sV s k)) : zFp s (nI k) (nI n) e = e k n := by
  have := (hok.1 k h).1
  unfold zFp
  rw [zFi_s h, zix_s hn (by omega)]
theorem zFp_n {s : zAb} {k : Nat} {y : Int32} {e : Nat → Nat → zOc} (h : k ≤ 1) (hn : ∀ n, n < vP (sV s k) → y ≠ nI n) : zFp s (nI k) y e = (1, 0, s) := by
  unfold zFp
  rw [zFi_s h, zix_n hn]
/-! trees of conditions -/
theorem zh_nd {x : Int32} {N : Nat} {Q T : Prop} (hN : N < 2 ^ 31) (h : ∀ n, n < N → x = nI n → Q) (hT : (∀ n, n < N → x ≠ nI n) → T) : (x < 0 → T) ∧ (¬ x < 0 → (x < nI N → Q) ∧ (¬ x < nI N → T)) := by
  refine ⟨fun q => hT (fun n hn e => nI_pos (by omega) (e ▸ q)), fun q => ⟨fun q2 => ?_, fun q2 => hT (fun n hn e => q2 (by rw [e]; exact nI_lt hn hN))⟩⟩
  obtain ⟨e, hk⟩ := zn_of q
  rw [e] at q2
  exact h _ ((nI_ltI hk hN).mp q2) e
theorem zh_rg {x : Int32} {m : Nat} {Q T : Prop} (hm : m < 2 ^ 31) (h : ∀ n, n ≤ m → x = nI n → Q) (hT : (∀ n, n ≤ m → x ≠ nI n) → T) : (x < 0 → T) ∧ (¬ x < 0 → (nI m < x → T) ∧ (¬ nI m < x → Q)) := by
  refine ⟨fun q => hT (fun n hn e => nI_pos (by omega) (e ▸ q)), fun q => ⟨fun q2 => hT (fun n hn e => ?_), fun q2 => ?_⟩⟩
  · rw [e] at q2
    exact absurd ((nI_ltI hm (by omega)).mp q2) (by omega)
  · obtain ⟨e, hk⟩ := zn_of q
    refine h _ (Nat.le_of_not_lt (fun z => q2 ?_)) e
    rw [e]
    exact nI_lt z hk
theorem zh_mn {x : Int32} {N : Nat} {Q T : Prop} (hN : N < 2 ^ 31) (h : ∀ n, n < N → x = nI n → Q) (hT : (∀ n, n < N → x ≠ nI n) → T) : (x < 0 → T) ∧ (¬ x < 0 → (nI N - 1 < x → T) ∧ (¬ nI N - 1 < x → Q)) := by
  cases N with
  | zero =>
    refine ⟨fun q => hT (fun n hn => absurd hn (Nat.not_lt_zero n)), fun q => ⟨fun _ => hT (fun n hn => absurd hn (Nat.not_lt_zero n)), fun q2 => absurd ?_ q2⟩⟩
    obtain ⟨e, hk⟩ := zn_of q
    rw [e, Int32.lt_iff_toInt_lt, nI_toInt hk, show (nI 0 - 1 : Int32).toInt = -1 by decide +kernel]
    omega
  | succ N =>
    rw [nI_pred]
    exact zh_rg (by omega) (fun n hn => h n (by omega)) (fun z => hT (fun n hn => z n (by omega)))
theorem zh_img {P : Nat → Prop} {T : Prop} {x : Int32} {o w : Nat} (h : ∀ k b, zsb o w k b → x = nI k → P b) (hT : (∀ k, k ≤ 1 → x ≠ nI k) → T) : (x = 0 → (x = 0 → P o) ∧ (¬ x = 0 → P w)) ∧ (¬ x = 0 → (x = 1 → (x = 0 → P o) ∧ (¬ x = 0 → P w)) ∧ (¬ x = 1 → T)) := by
  refine ⟨fun q => ⟨fun _ => h 0 o (.inl ⟨rfl, rfl⟩) q, fun z => absurd q z⟩, fun q => ⟨fun q1 => ⟨fun z => absurd z q, fun _ => h 1 w (.inr ⟨rfl, rfl⟩) q1⟩, fun q1 => hT (fun k hk e => ?_)⟩⟩
  rcases Nat.le_one_iff_eq_zero_or_eq_one.mp hk with rfl | rfl
  · exact q e
  · exact q1 e
theorem zh_5n {P : Nat → Prop} {T : Prop} {x y : Int32} {o w sp : Nat} {s : zAb} {I : Nat → Nat → Int32} {R : Nat → Nat → Option Nat} {A : Nat → Nat → Int32} (hok : zOK s) (hs : zS5 o w sp s I R A) (h : ∀ k b n, zsb o w k b → x = nI k → n < vN (sV s k) → y = nI n → P b) (hT : (∀ e, zFn s x y e = (1, 0, s)) → T) : (x = 0 → (x = 0 → ((y < 0 → T) ∧ (¬ y < 0 → (y < I o 5 → P o) ∧ (¬ y < I o 5 → T)))) ∧ (¬ x = 0 → ((y < 0 → T) ∧ (¬ y < 0 → (y < I w 5 → P w) ∧ (¬ y < I w 5 → T))))) ∧ (¬ x = 0 → (x = 1 → (x = 0 → ((y < 0 → T) ∧ (¬ y < 0 → (y < I o 5 → P o) ∧ (¬ y < I o 5 → T)))) ∧ (¬ x = 0 → ((y < 0 → T) ∧ (¬ y < 0 → (y < I w 5 → P w) ∧ (¬ y < I w 5 → T))))) ∧ (¬ x = 1 → T)) := by
  refine zh_img (P := fun b => (y < 0 → T) ∧ (¬ y < 0 → (y < I b 5 → P b) ∧ (¬ y < I b 5 → T))) (fun k b hb e => ?_) (fun z => hT (fun e => zFi_n z))
  obtain ⟨hk, hib, hv⟩ := zS5_im hs hb
  have := (hok.1 k hk).2.1
  show (y < 0 → T) ∧ (¬ y < 0 → (y < I b 5 → P b) ∧ (¬ y < I b 5 → T))
  rw [hv.2.2.1]
  exact zh_nd (by omega) (fun n hn e2 => h k b n hb e hn e2) (fun z => hT (fun f => by rw [e]; exact zFn_n hk z))
theorem zh_5p {P : Nat → Prop} {T : Prop} {x y : Int32} {o w sp : Nat} {s : zAb} {I : Nat → Nat → Int32} {R : Nat → Nat → Option Nat} {A : Nat → Nat → Int32} (hok : zOK s) (hs : zS5 o w sp s I R A) (h : ∀ k b n, zsb o w k b → x = nI k → n < vP (sV s k) → y = nI n → P b) (hT : (∀ e, zFp s x y e = (1, 0, s)) → T) : (x = 0 → (x = 0 → ((y < 0 → T) ∧ (¬ y < 0 → (y < I o 1 → P o) ∧ (¬ y < I o 1 → T)))) ∧ (¬ x = 0 → ((y < 0 → T) ∧ (¬ y < 0 → (y < I w 1 → P w) ∧ (¬ y < I w 1 → T))))) ∧ (¬ x = 0 → (x = 1 → (x = 0 → ((y < 0 → T) ∧ (¬ y < 0 → (y < I o 1 → P o) ∧ (¬ y < I o 1 → T)))) ∧ (¬ x = 0 → ((y < 0 → T) ∧ (¬ y < 0 → (y < I w 1 → P w) ∧ (¬ y < I w 1 → T))))) ∧ (¬ x = 1 → T)) := by
  refine zh_img (P := fun b => (y < 0 → T) ∧ (¬ y < 0 → (y < I b 1 → P b) ∧ (¬ y < I b 1 → T))) (fun k b hb e => ?_) (fun z => hT (fun e => zFi_n z))
  obtain ⟨hk, hib, hv⟩ := zS5_im hs hb
  have := (hok.1 k hk).1
  show (y < 0 → T) ∧ (¬ y < 0 → (y < I b 1 → P b) ∧ (¬ y < I b 1 → T))
  rw [hv.2.1]
  exact zh_nd (by omega) (fun n hn e2 => h k b n hb e hn e2) (fun z => hT (fun f => by rw [e]; exact zFp_n hk z))
theorem zh_ng {I : Nat → Nat → Int32} {x : Int32} {P Q : Prop} (hx : (0 : Int32) < x) (h : P) : ((0 : Int32) < z_up I 107 0 x 107 0 → P) ∧ (¬ (0 : Int32) < z_up I 107 0 x 107 0 → Q) := ⟨fun _ => h, fun z => absurd (by rw [zup_s]; exact hx) z⟩
theorem zh_ok {I : Nat → Nat → Int32} {P Q : Prop} (h : Q) : ((0 : Int32) < z_up I 107 0 0 107 0 → P) ∧ (¬ (0 : Int32) < z_up I 107 0 0 107 0 → Q) := ⟨fun z => absurd z (by rw [zup_s]; decide), fun _ => h⟩
theorem zh_6i {k : Nat} {v : zV} {y : Int32} {A : Nat → Nat → Int32} {G E : Prop} (hk : k ≤ 1) (hv : mIm k v A) (hw : vN v ≤ 24) (h : ∀ n, n < vN v → y = nI n → G) (hE : (∀ n, n < vN v → y ≠ nI n) → E) : z_in (((159 : Int32) * nI k) + 2) 477 ∧ ((y < 0 → E) ∧ (¬ y < 0 → ((A 108 (Int32.toNatClampNeg (((159 : Int32) * nI k) + 2))) - 1 < y → E) ∧ (¬ (A 108 (Int32.toNatClampNeg (((159 : Int32) * nI k) + 2))) - 1 < y → G))) := by
  have hix : ((159 : Int32) * nI k) + 2 = nI (159 * k + 2) := by simp (disch := omega) only [ze_lit, pk_mul, nI_add, nI_clamp, ze_inI, nI_ltI, nI_eq]
  rw [hix, nI_clamp (by omega), hv.2.2.1]
  exact ⟨nI_in (by omega) (by omega), zh_mn (by omega) h hE⟩
theorem zh_6q {k : Nat} {v : zV} {y : Int32} {A : Nat → Nat → Int32} {G E : Prop} (hk : k ≤ 1) (hv : mIm k v A) (hw : vP v ≤ 4) (h : ∀ n, n < vP v → y = nI n → G) (hE : (∀ n, n < vP v → y ≠ nI n) → E) : z_in (((159 : Int32) * nI k) + 1) 477 ∧ ((y < 0 → E) ∧ (¬ y < 0 → ((A 108 (Int32.toNatClampNeg (((159 : Int32) * nI k) + 1))) - 1 < y → E) ∧ (¬ (A 108 (Int32.toNatClampNeg (((159 : Int32) * nI k) + 1))) - 1 < y → G))) := by
  have hix : ((159 : Int32) * nI k) + 1 = nI (159 * k + 1) := by simp (disch := omega) only [ze_lit, pk_mul, nI_add, nI_clamp, ze_inI, nI_ltI, nI_eq]
  rw [hix, nI_clamp (by omega), hv.2.1]
  exact ⟨nI_in (by omega) (by omega), zh_mn (by omega) h hE⟩
theorem zh_6n {s : zAb} {x y : Int32} {I A : Nat → Nat → Int32} {G E : Prop} (hok : zOK s) (hm : zM6 s I A) (h : ∀ k n, k ≤ 1 → x = nI k → n < vN (sV s k) → y = nI n → G) (hE : (∀ e, zFn s x y e = (1, 0, s)) → E) : (x < 0 → E) ∧ (¬ x < 0 → ((1 : Int32) < x → E) ∧ (¬ (1 : Int32) < x → z_in (((159 : Int32) * x) + 2) 477 ∧ ((y < 0 → E) ∧ (¬ y < 0 → ((A 108 (Int32.toNatClampNeg (((159 : Int32) * x) + 2))) - 1 < y → E) ∧ (¬ (A 108 (Int32.toNatClampNeg (((159 : Int32) * x) + 2))) - 1 < y → G))))) := by
  refine zh_rg (m := 1) (by decide) (fun k hk e => ?_) (fun z => hE (fun e => zFi_n z))
  rw [e]
  have := (hok.1 k hk).2.1
  exact zh_6i hk (zM6_im hm hk) this (fun n hn e2 => h k n hk e hn e2) (fun z => hE (fun f => by rw [e]; exact zFn_n hk z))
theorem zh_6p {s : zAb} {x y : Int32} {I A : Nat → Nat → Int32} {G E : Prop} (hok : zOK s) (hm : zM6 s I A) (h : ∀ k n, k ≤ 1 → x = nI k → n < vP (sV s k) → y = nI n → G) (hE : (∀ e, zFp s x y e = (1, 0, s)) → E) : (x < 0 → E) ∧ (¬ x < 0 → ((1 : Int32) < x → E) ∧ (¬ (1 : Int32) < x → z_in (((159 : Int32) * x) + 1) 477 ∧ ((y < 0 → E) ∧ (¬ y < 0 → ((A 108 (Int32.toNatClampNeg (((159 : Int32) * x) + 1))) - 1 < y → E) ∧ (¬ (A 108 (Int32.toNatClampNeg (((159 : Int32) * x) + 1))) - 1 < y → G))))) := by
  refine zh_rg (m := 1) (by decide) (fun k hk e => ?_) (fun z => hE (fun e => zFi_n z))
  rw [e]
  have := (hok.1 k hk).1
  exact zh_6q hk (zM6_im hm hk) this (fun n hn e2 => h k n hk e hn e2) (fun z => hE (fun f => by rw [e]; exact zFp_n hk z))
