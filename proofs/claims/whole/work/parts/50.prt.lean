/-! reading: what comes out is an image; the class's Reader, second half -/
theorem ztx_ge {t : zT} {s : Nat} : s ≤ ztx t s := by
  by_cases q : s < t.2
  · exact Nat.le_of_lt (ztx_gt q)
  · unfold ztx; rw [if_neg q]; exact Nat.le_refl _
theorem znx_ge {t : zT} {s : Nat} : s ≤ znx t s := Nat.le_trans ztx_ge (zrun_ge _ _ _)
theorem znx_le {t : zT} {s : Nat} (h : s ≤ t.2) : znx t s ≤ t.2 := (znx_at h).1
theorem zrname_ok {t : zT} {s n : Nat} (h : zrname t s = .inr n) : zok n ∧ ztk t s = 1 := by
  unfold zrname at h
  split at h
  · next q =>
    cases h
    obtain ⟨a1, a2, a3, a4⟩ := zat_word q.1
    have hdig : ∀ j, j < zrun t 1 s - s → 97 ≤ t.1 (s + j) ∧ t.1 (s + j) ≤ 122 := fun j hj => zbk_1.mp (zrun_in (k := s) (by omega) (by omega))
    refine ⟨⟨?_, Nat.lt_of_lt_of_le (zval_lt hdig) (Nat.le_trans (Nat.pow_le_pow_right (by decide) q.2) (by decide)), zval_good hdig⟩, q.1⟩
    rw [show zrun t 1 s - s = (zrun t 1 s - s - 1) + 1 by omega]
    have := hdig (zrun t 1 s - s - 1) (by omega)
    show 0 < zval t s (zrun t 1 s - s - 1) * 27 + (t.1 (s + (zrun t 1 s - s - 1)) - 96)
    omega
  · cases h
theorem zrnum_ok {t : zT} {lw hi s n : Nat} (h : zrnum t lw hi s = .inr n) : lw ≤ n ∧ n ≤ hi ∧ ztk t s = 2 := by
  unfold zrnum at h
  split at h
  · next q =>
    split at h
    · cases h
    · next q2 =>
      cases h
      exact ⟨by omega, by omega, q⟩
  · cases h
theorem zpD_ok {t : zT} {v : zV} {h : Option Nat} {f : Bool} {nm ino ct att : Int32} {s : Nat} {v' : zV} {h' : Option Nat} {s' : Nat} (e : zpD t v h f nm ino ct att s = .inr (v', h', s')) : v' = zadd v h nm ino ct att ∧ h' = (if f then h else some (vN v)) ∧ s' = znx t s ∧ s < t.2 := by
  unfold zpD at e
  by_cases q : ztk t s = 3 ∧ t.1 s = (if f then 59 else 123)
  · rw [if_pos q] at e
    cases e
    exact ⟨rfl, rfl, rfl, (zat_sym q.1).1⟩
  · rw [if_neg q] at e
    cases e
theorem zpC_ok {t : zT} {v : zV} {h : Option Nat} {f : Bool} {nm ino ct : Int32} {s : Nat} {v' : zV} {h' : Option Nat} {s' : Nat} (hs : s ≤ t.2) (e : zpC t v h f nm ino ct s = .inr (v', h', s')) : (∃ att, v' = zadd v h nm ino ct att) ∧ h' = (if f then h else some (vN v)) ∧ s < s' ∧ s' ≤ t.2 := by
  unfold zpC at e
  by_cases q : ziw t s (zwl 204)
  · rw [zif_t q] at e
    split at e
    · cases e
    · next a ha =>
      obtain ⟨e1, e2, e3, e4⟩ := zpD_ok e
      have h1 : s ≤ znx t s := znx_ge
      have h2 : znx t s ≤ znx t (znx t s) := znx_ge
      have h3 := znx_gt e4
      have h4 := znx_le (Nat.le_of_lt e4)
      exact ⟨⟨_, e1⟩, e2, by omega, by omega⟩
  · rw [zif_f q] at e
    obtain ⟨e1, e2, e3, e4⟩ := zpD_ok e
    have h3 := znx_gt e4
    have h4 := znx_le (Nat.le_of_lt e4)
    exact ⟨⟨_, e1⟩, e2, by omega, by omega⟩
theorem zpB_ok {t : zT} {v : zV} {h : Option Nat} {f : Bool} {nm ino : Int32} {s : Nat} {v' : zV} {h' : Option Nat} {s' : Nat} (hs : s ≤ t.2) (e : zpB t v h f nm ino s = .inr (v', h', s')) : (∃ ct att, v' = zadd v h nm ino ct att ∧ (f = false → ct = -1)) ∧ h' = (if f then h else some (vN v)) ∧ s < s' ∧ s' ≤ t.2 := by
  unfold zpB at e
  cases f with
  | true =>
    rw [if_pos rfl] at e
    split at e
    · cases e
    · next c hc =>
      obtain ⟨⟨att, e1⟩, e2, e3, e4⟩ := zpC_ok (znx_le hs) e
      have h1 : s ≤ znx t s := znx_ge
      exact ⟨⟨_, _, e1, fun z => by cases z⟩, e2, by omega, e4⟩
  | false =>
    rw [if_neg (by decide)] at e
    obtain ⟨⟨att, e1⟩, e2, e3, e4⟩ := zpC_ok hs e
    exact ⟨⟨_, _, e1, fun _ => rfl⟩, e2, e3, e4⟩
theorem zpA_ok {t : zT} {v : zV} {h : Option Nat} {f : Bool} {s : Nat} {v' : zV} {h' : Option Nat} {s' : Nat} (hs : s ≤ t.2) (e : zpA t v h f s = .inr (v', h', s')) : (∃ nm ino ct att, v' = zadd v h nm ino ct att ∧ (f = false → ct = -1) ∧ znm nm) ∧ h' = (if f then h else some (vN v)) ∧ s < s' ∧ s' ≤ t.2 := by
  unfold zpA at e
  split at e
  · cases e
  · next nm hnm =>
    by_cases q : zdupN v h (nI nm)
    · rw [zif_t q] at e; cases e
    · rw [zif_f q] at e
      unfold zpA2 at e
      split at e
      · cases e
      · next i hi =>
        by_cases q2 : zdupI v (nI i)
        · rw [zif_t q2] at e; cases e
        · rw [zif_f q2] at e
          obtain ⟨⟨ct, att, e1, e5⟩, e2, e3, e4⟩ := zpB_ok (znx_le (znx_le hs)) e
          have h1 : s ≤ znx t s := znx_ge
          have h2 : znx t s ≤ znx t (znx t s) := znx_ge
          exact ⟨⟨_, _, ct, att, e1, e5, ⟨nm, rfl, (zrname_ok hnm).1⟩⟩, e2, by omega, e4⟩
theorem zrnode_ok {t : zT} {v : zV} {h : Option Nat} {s : Nat} {v' : zV} {h' : Option Nat} {s' : Nat} (hs : s ≤ t.2) (hw : zwf v) (hh : zhold v h) (e : zrnode t v h s = .inr (v', h', s')) : zwf v' ∧ zhold v' h' ∧ s < s' ∧ s' ≤ t.2 ∧ vP v' = vP v := by
  unfold zrnode at e
  have h1 : s ≤ znx t s := znx_ge
  by_cases q1 : ziw t s (zwl 202)
  · rw [zif_t q1] at e
    by_cases q : zfull v h
    · rw [zif_t q] at e; cases e
    · rw [zif_f q] at e
      obtain ⟨⟨nm, ino, ct, att, rfl, e5, e6⟩, e2, e3, e4⟩ := zpA_ok (znx_le hs) e
      obtain ⟨a1, a2, a3⟩ := zwf_add hw hh q e6 (ino := ino) (ct := ct) (att := att)
      rw [if_pos rfl] at e2
      rw [e2]
      exact ⟨a1, a2, by omega, e4, rfl⟩
  · rw [zif_f q1] at e
    by_cases q2 : ziw t s (zwl 203)
    · rw [zif_t q2] at e
      by_cases q : zfull v h
      · rw [zif_t q] at e; cases e
      · rw [zif_f q] at e
        obtain ⟨⟨nm, ino, ct, att, rfl, e5, e6⟩, e2, e3, e4⟩ := zpA_ok (znx_le hs) e
        obtain ⟨a1, a2, a3⟩ := zwf_add hw hh q e6 (ino := ino) (ct := ct) (att := att)
        rw [if_neg (by decide)] at e2
        rw [e2]
        exact ⟨a1, a3 (e5 rfl), by omega, e4, rfl⟩
    · rw [zif_f q2] at e; cases e
theorem zrtree_ok {t : zT} : ∀ n {v : zV} {h : Option Nat} {s : Nat} {v' : zV} {s' : Nat}, s ≤ t.2 → zwf v → zhold v h → zrtree t n v h s = .inr (v', s') → zwf v' ∧ vP v' = vP v ∧ s < s' ∧ s' ≤ t.2 := by
  intro n
  induction n with
  | zero => intro v h s v' s' _ _ _ e; cases e
  | succ n ih =>
    intro v h s v' s' hs hw hh e
    unfold zrtree at e
    split at e
    · next q =>
      have h3 := znx_gt (zat_sym q.1).1
      have h4 := znx_le hs
      cases h with
      | none =>
        cases e
        exact ⟨hw, rfl, h3, h4⟩
      | some d =>
        obtain ⟨a1, a2, a3, a4⟩ := ih h4 hw (zhold_up hw hh) e
        exact ⟨a1, a2, by omega, a4⟩
    · split at e
      · cases e
      · next v1 h1 s1 he =>
        obtain ⟨b1, b2, b3, b4, b5⟩ := zrnode_ok hs hw hh he
        obtain ⟨a1, a2, a3, a4⟩ := ih b4 b1 b2 e
        exact ⟨a1, a2.trans b5, by omega, a4⟩
theorem zrpart_ok {t : zT} {v : zV} {s : Nat} {v' : zV} {s' : Nat} (hs : s ≤ t.2) (hw : zwf v) (e : zrpart t v s = .inr (v', s')) : zwf v' ∧ zhold v' none ∧ vP v' = vP v + 1 ∧ vP v < 4 ∧ s < s' ∧ s' ≤ t.2 := by
  unfold zrpart at e
  by_cases q1 : ziw t s (zwl 201)
  · rw [zif_t q1] at e
    have h0 := (zat_word q1.1).1
    have h1 := znx_gt h0
    have l1 := znx_le hs
    have l2 := znx_le l1
    have l3 := znx_le l2
    split at e
    · cases e
    · next qP =>
      split at e
      · cases e
      · next lb hlb =>
        by_cases q2 : zdupL v (nI lb)
        · rw [zif_t q2] at e; cases e
        · rw [zif_f q2] at e
          unfold zrp2 at e
          split at e
          · cases e
          · next fs hfs =>
            unfold zrp3 at e
            split at e
            · cases e
            · next ln hln =>
              by_cases q3 : zroom v (nI fs) (nI ln)
              · rw [zif_t q3] at e
                split at e
                · next q4 =>
                  cases e
                  obtain ⟨a1, a2⟩ := zwf_adp hw (lb := nI lb) (fs := nI fs) (ln := nI ln) (by omega) ⟨lb, rfl, (zrname_ok hlb).1⟩
                  have k1 : znx t s ≤ znx t (znx t s) := znx_ge
                  have k2 : znx t (znx t s) ≤ znx t (znx t (znx t s)) := znx_ge
                  have k3 : znx t (znx t (znx t s)) ≤ znx t (znx t (znx t (znx t s))) := znx_ge
                  have k4 : znx t (znx t (znx t (znx t s))) ≤ znx t (znx t (znx t (znx t (znx t s)))) := znx_ge
                  exact ⟨a1, a2, rfl, by omega, by omega, znx_le (znx_le l3)⟩
                · cases e
              · rw [zif_f q3] at e; cases e
  · rw [zif_f q1] at e; cases e
theorem zrparts_ok {t : zT} : ∀ n {v : zV} {s : Nat} {v' : zV}, s ≤ t.2 → zwf v → zrparts t n v s = .inr v' → zwf v' := by
  intro n
  induction n with
  | zero => intro v s v' _ hw e; cases e; exact hw
  | succ n ih =>
    intro v s v' hs hw e
    unfold zrparts at e
    split at e
    · split at e
      · cases e
      · next v1 s1 he =>
        obtain ⟨a1, a2, a3, a4, a5, a6⟩ := zrpart_ok hs hw he
        split at e
        · cases e
        · next v2 s2 he2 =>
          obtain ⟨b1, b2, b3, b4⟩ := zrtree_ok _ a6 a1 a2 he2
          exact ih b4 b1 e
    · cases e; exact hw
theorem zrdisk_ok {t : zT} {s : Nat} (hs : s ≤ t.2) {v : zV} {s' : Nat} (e : zrdisk t s = .inr (v, s')) : (∃ sz, v = zem sz) ∧ s' ≤ t.2 := by
  unfold zrdisk at e
  by_cases q : ziw t s (zwl 200)
  · rw [zif_t q] at e
    split at e
    · cases e
    · split at e
      · cases e
        exact ⟨⟨_, rfl⟩, znx_le (znx_le (znx_le hs))⟩
      · cases e
  · rw [zif_f q] at e; cases e
theorem zrimg_ok {t : zT} {v : zV} (e : zrimg t = .inr v) : zwf v := by
  unfold zrimg at e
  split at e
  · cases e
  · next v1 s1 he =>
    obtain ⟨⟨sz, rfl⟩, h2⟩ := zrdisk_ok (zsk_at (Nat.zero_le t.2)).1 he
    exact zrparts_ok _ h2 (zwf_em sz) e
/-- the same without the directory that is open -/
def zRj (g : Nat) (t : zT) (v : zV) (s : Nat) (I A : Nat → Nat → Int32) : Prop := cTx t I A ∧ cTk t s I ∧ cIm g v I A
theorem zRj_of {g : Nat} {t : zT} {v : zV} {h : Option Nat} {s : Nat} {I A : Nat → Nat → Int32} (k : zRi g t v h s I A) : zRj g t v s I A := ⟨k.1, k.2.1, k.2.2.1⟩
theorem zRj_ad {g : Nat} {t : zT} {v : zV} {s s' : Nat} {I A I' : Nat → Nat → Int32} (hg : z_ib g) (k : zRj g t v s I A) (a : zRd I I') (e : cTk t s' I') : zRj g t v s' I' A := by
  have h45 := z_ib_45 hg
  exact ⟨cTx_fr k.1 a rfl, e, cIm_fr k.2.2 (by funext j; exact a g j (by omega)) (fun _ _ => rfl)⟩
section
variable {L : Nat} {xs : Nat → Int32} {I : Nat → Nat → Int32} {R : Nat → Nat → Option Nat} {A : Nat → Nat → Int32} {lo : Int64} {dd : UInt64} {Φ : zPo} {t : zT} {s g : Nat} {v : zV} {h : Option Nat}
theorem zhol24 {v : zV} (hw : zwf v) {h : Option Nat} (hh : zhold v h) : ∀ k, h = some k → k < 2 ^ 31 := fun k hk => by
  have := (hh.2 k hk).1
  have := hw.2.1
  omega
theorem s3_readNode (hR : R 2 0 = some 1) (hRg : R 2 2 = some g) (hg : z_ib g) (hi : zRi g t v h s I A) (hw : zwf v) (hh : zhold v h) (h1 : ∀ I' A' v' h' s', zrnode t v h s = .inr (v', h', s') → zRf g I A I' A' → zRi g t v' h' s' I' A' → Φ (.inl (some (.int 1))) (I', R, A', lo, dd) 0) (h0 : ∀ I' A' c p, zrnode t v h s = .inl (c, p) → zRe g I A I' A' → I' 2 8 = nI c → I' 2 9 = nI p → Φ (.inl (some (.int 0))) (I', R, A', lo, dd) 0) : zC L xs mX3_readNode [.ref 2] (I, R, A, lo, dd) Φ := by
  have h45 := z_ib_45 hg
  have hs1 := hi.2.1.1.1
  have hP1 := hh.1
  have hP4 := hw.1
  have hN24 := hw.2.1
  -- from the name on
  have go : ∀ (f : Bool), ¬ zfull v h → zrnode t v h s = zpA t v h f (znx t s) → zC L xs mX3_advance [.ref 2] (I, R, A, lo, dd) (z_kont [] (fun r τ Ψ => zW L xs mX3_readNode 63 [some (.ref 2), some (.int (nI (if f then 1 else 0))), none, none, none, none] (r.toList ++ []) τ Ψ) Φ) := by
    intro f hf hz
    refine s3_adv hR hg hi (fun I1 a1 i1 => zk_r (vc_X3_readNode_63 ?_))
    have F1 : zRf g I A I1 A := zRf_ad a1
    refine s3_checkName hR i1.1 i1.2.1 (fun I2 nm hn v2 e7 hok => zk_r (vc_X3_readNode_67 hg hRg ⟨fun z => absurd z (by decide), fun _ => ?_⟩)) (fun I2 c p hn e2 => zk_r (vc_X3_readNode_67 hg hRg ⟨fun _ => ?_, fun z => absurd rfl z⟩))
    · have i2 := zRi_ad hg i1 (zVl_rd v2) (zVl_tk v2 i1.2.1)
      have F2 : zRf g I A I2 A := zRf_tr F1 (zRf_vl v2)
      have hzA : zpA t v h f (znx t s) = zif (zdupN v h (nI nm)) (.inl (3, znx t s)) (zpA2 t v h f (nI nm) (znx t (znx t s))) := by unfold zpA; rw [hn]
      rw [e7, i2.2.2.2, show I2 g 1 - (1 : Int32) = nI (vP v - 1) by rw [i2.2.2.1.2.1]; exact ze_sub (a := vP v) (b := 1) hP1]
      refine s2_hasOtherChild hg i2.2.2.1 hN24 (fun n hn => Nat.lt_of_lt_of_le (hw.2.2.1 n hn) hP4) (fun n k hn hk => by have := zpar_lt hw hn hk; omega) (by omega) (zhol24 hw hh) (fun q => zk_r (vc_X3_readNode_101 ⟨fun z => absurd z (by decide), fun _ => ?_⟩)) (fun q => zk_r (vc_X3_readNode_101 ⟨fun _ => ?_, fun z => absurd rfl z⟩))
      · have : zrnode t v h s = .inl (3, znx t s) := by rw [hz, hzA, zif_t (show zdupN v h (nI nm) from q)]
        refine h0 _ A 3 (znx t s) this (zRe_tr F2 (zRe_rd (zRd_up (zRd_up (zRd_rf _) (by decide)) (by decide)))) (by rw [zup_n (by omega), zup_s]; rfl) (by rw [zup_s, zup_n (by omega)]; exact i2.2.1.2.1)
      · rw [zif_f (show ¬ zdupN v h (nI nm) from q)] at hzA
        refine s3_adv hR hg i2 (fun I3 a3 i3 => zk_r (vc_X3_readNode_114 ?_))
        have F3 := zRf_tr F2 (zRf_ad (A := A) a3)
        refine s3_checkNumber hR i3.1 i3.2.1 (lw := 0) (hi := 999) (by decide) (by decide) (fun I4 ino hino v4 e7' _ hle => zk_r (vc_X3_readNode_122 hg hRg ⟨fun z => absurd z (by decide), fun _ => ?_⟩)) (fun I4 c p hino e4 => zk_r (vc_X3_readNode_122 hg hRg ⟨fun _ => ?_, fun z => absurd rfl z⟩))
        · have i4 := zRi_ad hg i3 (zVl_rd v4) (zVl_tk v4 i3.2.1)
          have F4 := zRf_tr F3 (zRf_vl (A := A) v4)
          have hzA2 : zpA2 t v h f (nI nm) (znx t (znx t s)) = zif (zdupI v (nI ino)) (.inl (4, znx t (znx t s))) (zpB t v h f (nI nm) (nI ino) (znx t (znx t (znx t s)))) := by unfold zpA2; rw [hino]
          rw [e7']
          refine s2_nodeWithInode hg i4.2.2.1 hN24 (fun n hn => Nat.lt_of_lt_of_le (hw.2.2.1 n hn) hP4) (by omega) (fun n q1 q2 q3 _ => zk_r (vc_X3_readNode_143 ⟨fun z => ((ze_m1 (by omega)).mp z).elim, fun _ => ?_⟩)) (fun q => zk_r (vc_X3_readNode_143 ⟨fun _ => ?_, fun z => absurd rfl z⟩))
          · have : zrnode t v h s = .inl (4, znx t (znx t s)) := by rw [hz, hzA, hzA2, zif_t ⟨n, q1, q2, q3⟩]
            refine h0 _ A 4 (znx t (znx t s)) this (zRe_tr F4 (zRe_rd (zRd_up (zRd_up (zRd_rf _) (by decide)) (by decide)))) (by rw [zup_n (by omega), zup_s]; rfl) (by rw [zup_s, zup_n (by omega)]; exact i4.2.1.2.1)
          · rw [zif_f (fun ⟨n, q1, q2, q3⟩ => q n q1 ⟨q2, q3⟩)] at hzA2
            refine s3_adv hR hg i4 (fun I5 a5 i5 => zk_r (vc_X3_readNode_157 ?_))
            have F5 := zRf_tr F4 (zRf_ad (A := A) a5)
            have hzB : zrnode t v h s = zpB t v h f (nI nm) (nI ino) (znx t (znx t (znx t s))) := by rw [hz, hzA, hzA2]
            cases f with
            | false =>
              refine ⟨fun _ => ?_, fun z => absurd rfl z⟩
              have hzC : zrnode t v h s = zpC t v h false (nI nm) (nI ino) (zpI none) (znx t (znx t (znx t s))) := by rw [hzB]; unfold zpB; rw [if_neg (by decide)]; rfl
              refine s3_readNodeRest hR hRg hg i5 hw hh hf (ct := none) (f := false) rfl (fun c hc => by cases hc) (fun I6 A6 v' h' s' e F i => zk_r (vc_X3_readNode_196 ⟨Or.inr rfl, h1 I6 A6 v' h' s' (by rw [hzC]; exact e) (zRf_tr F5 F) i⟩)) (fun I6 A6 c p e F e8 e9 => zk_r (vc_X3_readNode_196 ⟨Or.inl rfl, h0 I6 A6 c p (by rw [hzC]; exact e) (zRe_tr F5 F) e8 e9⟩))
            | true =>
              refine ⟨fun z => absurd z (by decide), fun _ => ?_⟩
              refine s3_checkNumber hR i5.1 i5.2.1 (lw := 0) (hi := 9999) (by decide) (by decide) (fun I6 ct hct v6 e7'' _ hle2 => zk_r (vc_X3_readNode_172 ⟨fun z => absurd z (by decide), fun _ => ?_⟩)) (fun I6 c p hct e6 => zk_r (vc_X3_readNode_172 ⟨fun _ => ?_, fun z => absurd rfl z⟩))
              · have i6 := zRi_ad hg i5 (zVl_rd v6) (zVl_tk v6 i5.2.1)
                have F6 := zRf_tr F5 (zRf_vl (A := A) v6)
                rw [e7'']
                have hzC : zrnode t v h s = zpC t v h true (nI nm) (nI ino) (zpI (some ct)) (znx t (znx t (znx t (znx t s)))) := by rw [hzB]; unfold zpB; rw [if_pos rfl, hct]; rfl
                refine s3_adv hR hg i6 (fun I7 a7 i7 => zk_r (vc_X3_readNode_187 ?_))
                have F7 := zRf_tr F6 (zRf_ad (A := A) a7)
                refine s3_readNodeRest hR hRg hg i7 hw hh hf (ct := some ct) (f := true) rfl (fun c hc => by cases hc; exact hle2) (fun I8 A8 v' h' s' e F i => zk_r (vc_X3_readNode_196 ⟨Or.inr rfl, h1 I8 A8 v' h' s' (by rw [hzC]; exact e) (zRf_tr F7 F) i⟩)) (fun I8 A8 c p e F e8 e9 => zk_r (vc_X3_readNode_196 ⟨Or.inl rfl, h0 I8 A8 c p (by rw [hzC]; exact e) (zRe_tr F7 F) e8 e9⟩))
              · have : zrnode t v h s = .inl (c, p) := by rw [hzB]; unfold zpB; rw [if_pos rfl, hct]
                exact h0 I6 A c p this (zRe_tr F5 (zRe_rd e6.1)) e6.2.1 e6.2.2
        · have : zrnode t v h s = .inl (c, p) := by rw [hz, hzA]; unfold zpA2; rw [hino]
          exact h0 I4 A c p this (zRe_tr F3 (zRe_rd e4.1)) e4.2.1 e4.2.2
    · have : zrnode t v h s = .inl (c, p) := by rw [hz]; unfold zpA; rw [hn]
      exact h0 I2 A c p this (zRe_tr F1 (zRe_rd e2.1)) e2.2.1 e2.2.2
  have err : ∀ c : Nat, zrnode t v h s = .inl (c, s) → Φ (.inl (some (.int 0))) (z_up (z_up I 2 8 (nI c)) 2 9 ((z_up I 2 8 (nI c)) 2 5), R, A, lo, dd) 0 := by
    intro c hc
    refine h0 _ A c s hc (zRe_rd (zRd_up (zRd_up (zRd_rf _) (by decide)) (by decide))) (by rw [zup_n (by omega), zup_s]) (by rw [zup_s, zup_n (by omega)]; exact hi.2.1.2.1)
  -- is there room
  have full : ∀ (f : Bool), (zfull v h → zrnode t v h s = .inl (5, s)) → (¬ zfull v h → zrnode t v h s = zpA t v h f (znx t s)) → ((I g 5 : Int32) < 24 → ((I 2 3 : Int32) = -1 → zC L xs mX3_advance [.ref 2] (I, R, A, lo, dd) (z_kont [] (fun r τ Ψ => zW L xs mX3_readNode 63 [some (.ref 2), some (.int (nI (if f then 1 else 0))), none, none, none, none] (r.toList ++ []) τ Ψ) Φ)) ∧ (¬ (I 2 3 : Int32) = -1 → z_in (I 2 3) 24 ∧ ((((A (g + 10) (Int32.toNatClampNeg (I 2 3))) : Int32) < 5 → zC L xs mX3_advance [.ref 2] (I, R, A, lo, dd) (z_kont [] (fun r τ Ψ => zW L xs mX3_readNode 63 [some (.ref 2), some (.int (nI (if f then 1 else 0))), none, none, none, none] (r.toList ++ []) τ Ψ) Φ)) ∧ (¬ ((A (g + 10) (Int32.toNatClampNeg (I 2 3))) : Int32) < 5 → Φ (.inl (some (.int 0))) (z_up (z_up I 2 8 5) 2 9 ((z_up I 2 8 5) 2 5), R, A, lo, dd) 0)))) ∧ (¬ (I g 5 : Int32) < 24 → Φ (.inl (some (.int 0))) (z_up (z_up I 2 8 5) 2 9 ((z_up I 2 8 5) 2 5), R, A, lo, dd) 0) := by
    intro f hf1 hf2
    obtain ⟨hT, hK, ⟨hS, hP, hN, p0, p1, p2, n0, n1, n2, n3, n4, n5, n6⟩, h23⟩ := hi
    rw [hN, h23]
    refine ⟨fun q => ?_, fun q => err 5 (hf1 (Or.inl (Nat.le_of_not_lt (fun z => q (nI_lt z (by decide))))))⟩
    have q' : vN v < 24 := (nI_ltI (by omega) (by decide)).mp q
    cases h with
    | none => exact ⟨fun _ => go f (fun z => by rcases z with z | z; omega; exact absurd (show 5 ≤ 0 from z) (by decide)) (hf2 (fun z => by rcases z with z | z; omega; exact absurd (show 5 ≤ 0 from z) (by decide))), fun z => absurd rfl z⟩
    | some d =>
      obtain ⟨a1, a2, a3, a4⟩ := hh.2 d rfl
      have hd5 := hw.2.2.2.2.2.1 d a1
      refine ⟨fun z => ((ze_m1 (by omega)).mp z).elim, fun _ => ⟨nI_in (by omega) (by decide), ?_⟩⟩
      rw [show (zpI (some d)) = nI d from rfl, nI_clamp (by omega), n6 d a1]
      refine ⟨fun q2 => ?_, fun q2 => err 5 (hf1 (Or.inr (Nat.le_of_not_lt (fun z => q2 (nI_lt z (by decide))))))⟩
      have q2' : vdep v d < 5 := (nI_ltI (by omega) (by decide)).mp q2
      have hnf : ¬ zfull v (some d) := fun z => by
        rcases z with z | z
        · omega
        · have : 5 ≤ vdep v d := z; omega
      exact go f hnf (hf2 hnf)
  refine zC_en (vc_X3_readNode_0 ?_)
  refine s3_isWord hR hi.1 hi.2.1 (by decide) (fun q => zk_r (vc_X3_readNode_6 hg hRg ⟨fun z => absurd z (by decide), fun _ => ?_⟩)) (fun q => zk_r (vc_X3_readNode_6 hg hRg ⟨fun _ => ?_, fun z => absurd rfl z⟩))
  · exact full true (fun z => by unfold zrnode; rw [zif_t q, zif_t z]) (fun z => by unfold zrnode; rw [zif_t q, zif_f z])
  · refine s3_isWord hR hi.1 hi.2.1 (by decide) (fun q2 => zk_r (vc_X3_readNode_17 hg hRg ⟨fun z => absurd z (by decide), fun _ => ?_⟩)) (fun q2 => zk_r (vc_X3_readNode_17 hg hRg ⟨fun _ => ?_, fun z => absurd rfl z⟩))
    · exact full false (fun z => by unfold zrnode; rw [zif_f q, zif_t q2, zif_t z]) (fun z => by unfold zrnode; rw [zif_f q, zif_t q2, zif_f z])
    · exact err 1 (by unfold zrnode; rw [zif_f q, zif_f q2])
theorem s3_readNodes (hR : R 2 0 = some 1) (hRg : R 2 2 = some g) (hg : z_ib g) (hi : zRj g t v s I A) (hw : zwf v) (hh : zhold v none) (h1 : ∀ I' A' v' h' s', zrtree t (t.2 + 1) v none s = .inr (v', s') → zRf g I A I' A' → zRi g t v' h' s' I' A' → Φ (.inl (some (.int 1))) (I', R, A', lo, dd) 0) (h0 : ∀ I' A' c p, zrtree t (t.2 + 1) v none s = .inl (c, p) → zRe g I A I' A' → I' 2 8 = nI c → I' 2 9 = nI p → Φ (.inl (some (.int 0))) (I', R, A', lo, dd) 0) : zC L xs mX3_readNodes [.ref 2] (I, R, A, lo, dd) Φ := by
  have h45 := z_ib_45 hg
  refine zC_en (vc_X3_readNodes_0 ?_)
  have hT2 : t.2 ≤ 800 := hi.1.2.1
  have key : ∀ n, n ≤ t.2 + 1 → ∀ (v : zV) (h : Option Nat) (s : Nat) (I1 A1 : Nat → Nat → Int32), zRf g I A I1 A1 → zRi g t v h s I1 A1 → zwf v → zhold v h → (∀ I' A' v' h' s', zrtree t n v h s = .inr (v', s') → zRf g I A I' A' → zRi g t v' h' s' I' A' → Φ (.inl (some (.int 1))) (I', R, A', lo, dd) 0) → (∀ I' A' c p, zrtree t n v h s = .inl (c, p) → zRe g I A I' A' → I' 2 8 = nI c → I' 2 9 = nI p → Φ (.inl (some (.int 0))) (I', R, A', lo, dd) 0) → zW L xs mX3_readNodes 7 [some (.ref 2), some (.int (nI (t.2 + 1 - n)))] [] (I1, R, A1, lo, dd) Φ := by
    intro n
    induction n with
    | zero =>
      intro _ v h s I1 A1 F i hw hh k1 k0
      refine vc_X3_readNodes_7 hR ?_
      rw [i.1.1]
      refine ⟨fun _ => ?_, fun z => absurd (nI_lt (by omega) (by omega)) z⟩
      refine k0 _ A1 1 s rfl (zRe_tr F (zRe_rd (zRd_up (zRd_up (zRd_rf _) (by decide)) (by decide)))) (by rw [zup_n (by omega), zup_s]; rfl) (by rw [zup_s, zup_n (by omega)]; exact i.2.1.2.1)
    | succ n ih =>
      intro hn v h s I1 A1 F i hw hh k1 k0
      have hs1 := i.2.1.1.1
      have htk : ztk t s ≤ 5 := by
        unfold ztk
        have := zbk_le (t.1 s)
        split
        · split <;> omega
        · omega
      have e3 : ((I1 2 4 : Int32) = 3) ↔ ztk t s = 3 := by rw [i.2.1.2.2.2]; exact nI_eq (by omega) (by decide)
      have hnode : ¬ (ztk t s = 3 ∧ t.1 s = 125) → zC L xs mX3_readNode [.ref 2] (I1, R, A1, lo, dd) (z_kont [] (fun r τ Ψ => zW L xs mX3_readNodes 61 [some (.ref 2), some (.int (nI (t.2 + 1 - (n + 1))))] (r.toList ++ []) τ Ψ) Φ) := by
        intro q
        refine s3_readNode hR hRg hg i hw hh (fun I2 A2 v' h' s' e F2 i2 => zk_r (vc_X3_readNodes_61 ⟨fun z => absurd z (by decide), fun _ => ?_⟩)) (fun I2 A2 c p e F2 e8 e9 => zk_r (vc_X3_readNodes_61 ⟨fun _ => ?_, fun z => absurd rfl z⟩))
        · obtain ⟨b1, b2, b3, b4, b5⟩ := zrnode_ok hs1 hw hh e
          have hz : zrtree t (n + 1) v h s = zrtree t n v' h' s' := by
            show (if ztk t s = 3 ∧ t.1 s = 125 then _ else _) = _
            rw [if_neg q, e]
          rw [nI_1, show t.2 + 1 - (n + 1) + 1 = t.2 + 1 - n by omega]
          exact ih (by omega) v' h' s' I2 A2 (zRf_tr F F2) i2 b1 b2 (fun I' A' v'' h'' s'' e' => k1 I' A' v'' h'' s'' (by rw [hz]; exact e')) (fun I' A' c p e' => k0 I' A' c p (by rw [hz]; exact e'))
        · refine k0 I2 A2 c p ?_ (zRe_tr F F2) e8 e9
          show (if ztk t s = 3 ∧ t.1 s = 125 then _ else _) = _
          rw [if_neg q, e]
      refine vc_X3_readNodes_7 hR ?_
      rw [i.1.1]
      refine ⟨fun z => absurd z (nI_nlt (by omega) (by omega)), fun _ => ⟨fun q => ?_, fun q => hnode (fun z => q (e3.mpr z.1))⟩⟩
      obtain ⟨a1, a2, a3⟩ := zat_sym (e3.mp q)
      obtain ⟨t1, t2⟩ := i.1.2.2 s a1
      rw [i.2.1.2.1, nI_clamp (by omega), t1]
      refine ⟨nI_in (by omega) (by decide), fun q2 => ?_, fun q2 => hnode (fun z => q2 (by rw [z.2]; rfl))⟩
      have q2' : t.1 s = 125 := (nI_eq (by omega) (by decide)).mp q2
      refine s3_adv hR hg i (fun I2 a2 i2 => zk_r (vc_X3_readNodes_28 hg hRg ?_))
      have F2 := zRf_tr F (zRf_ad (A := A1) a2)
      rw [i2.2.2.2]
      cases h with
      | none =>
        have hz0 : zrtree t (n + 1) v none s = .inr (v, znx t s) := if_pos ⟨e3.mp q, q2'⟩
        exact ⟨fun _ => k1 I2 A1 v none (znx t s) hz0 F2 i2, fun z => absurd rfl z⟩
      | some d =>
        have hz0 : zrtree t (n + 1) v (some d) s = zrtree t n v (vpar v d) (znx t s) := if_pos ⟨e3.mp q, q2'⟩
        obtain ⟨c1, c2, c3, c4⟩ := hh.2 d rfl
        have := hw.2.1
        have hA8 := i2.2.2.1.2.2.2.2.2.2.2.2.2.2.1 d c1
        refine ⟨fun z => ((ze_m1 (by omega)).mp z).elim, fun _ => ⟨nI_in (by omega) (by decide), ?_⟩⟩
        rw [show (zpI (some d)) = nI d from rfl, nI_clamp (by omega), hA8, nI_1, show t.2 + 1 - (n + 1) + 1 = t.2 + 1 - n by omega]
        have hup : ∀ c j, ¬ (c = 2 ∧ j = 3) → z_up I2 2 3 (zpI (vpar v d)) c j = I2 c j := fun c j q => zup_n q
        refine ih (by omega) v (vpar v d) (znx t s) _ A1 ?_ ⟨⟨by rw [hup 2 1 (by omega)]; exact i2.1.1, i2.1.2⟩, ⟨i2.2.1.1, by rw [hup 2 5 (by omega)]; exact i2.2.1.2.1, by rw [hup 2 6 (by omega)]; exact i2.2.1.2.2.1, by rw [hup 2 4 (by omega)]; exact i2.2.1.2.2.2⟩, cIm_fr i2.2.2.1 (by funext j; exact hup g j (by omega)) (fun _ _ => rfl), zup_s⟩ hw (zhold_up hw hh) (fun I' A' v'' h'' s'' e' => k1 I' A' v'' h'' s'' (by rw [hz0]; exact e')) (fun I' A' c p e' => k0 I' A' c p (by rw [hz0]; exact e'))
        exact zRf_tr F2 ⟨fun c j q1 q2 => hup c j (fun z => q1 z.1), fun j q => hup 2 j (by omega), fun _ _ => rfl⟩
  have hup : ∀ c j, ¬ (c = 2 ∧ j = 3) → z_up I 2 3 (-1) c j = I c j := fun c j q => zup_n q
  have := key (t.2 + 1) (Nat.le_refl _) v none s (z_up I 2 3 (-1)) A ⟨fun c j q1 q2 => hup c j (fun z => q1 z.1), fun j q => hup 2 j (by omega), fun _ _ => rfl⟩ ⟨⟨by rw [hup 2 1 (by omega)]; exact hi.1.1, hi.1.2⟩, ⟨hi.2.1.1, by rw [hup 2 5 (by omega)]; exact hi.2.1.2.1, by rw [hup 2 6 (by omega)]; exact hi.2.1.2.2.1, by rw [hup 2 4 (by omega)]; exact hi.2.1.2.2.2⟩, cIm_fr hi.2.2 (by funext j; exact hup g j (by omega)) (fun _ _ => rfl), zup_s⟩ hw hh h1 h0
  rw [Nat.sub_self] at this
  exact this
end
