/-! reading: the class's whole image -/
theorem zrparts_e0 {t : zT} {n s : Nat} {v : zV} (h : ¬ s < t.2) : zrparts t (n + 1) v s = .inr v := if_neg h
theorem zrparts_e1 {t : zT} {n s : Nat} {v : zV} {e : Nat × Nat} (h : s < t.2) (h1 : zrpart t v s = .inl e) : zrparts t (n + 1) v s = .inl e := by
  unfold zrparts
  rw [if_pos h, h1]
theorem zrparts_e2 {t : zT} {n s s' : Nat} {v v' : zV} {e : Nat × Nat} (h : s < t.2) (h1 : zrpart t v s = .inr (v', s')) (h2 : zrtree t (t.2 + 1) v' none s' = .inl e) : zrparts t (n + 1) v s = .inl e := by
  unfold zrparts
  rw [if_pos h, h1]
  simp only [h2]
theorem zrparts_e3 {t : zT} {n s s' s'' : Nat} {v v' v'' : zV} (h : s < t.2) (h1 : zrpart t v s = .inr (v', s')) (h2 : zrtree t (t.2 + 1) v' none s' = .inr (v'', s'')) : zrparts t (n + 1) v s = zrparts t n v'' s'' := by
  rw [zrparts, if_pos h, h1]
  simp only [h2]
section
variable {L : Nat} {xs : Nat → Int32} {I : Nat → Nat → Int32} {R : Nat → Nat → Option Nat} {A : Nat → Nat → Int32} {lo : Int64} {dd : UInt64} {Φ : zPo} {t : zT} {s g : Nat} {v : zV}
theorem s3_adj (hR : R 2 0 = some 1) (hg : z_ib g) (hi : zRj g t v s I A) (k : ∀ I' : Nat → Nat → Int32, zAd I I' → zRj g t v (znx t s) I' A → Φ (.inl none) (I', R, A, lo, dd) 0) : zC L xs mX3_advance [.ref 2] (I, R, A, lo, dd) Φ := s3_advance hR hi.1 (ztx_le hi.2.1.1.1) hi.2.1.2.2.1 (fun I' g1 g2 => k I' g1 (zRj_ad hg hi (zAd_rd g1) g2))
theorem s3_readPartition (hR : R 2 0 = some 1) (hRg : R 2 2 = some g) (hg : z_ib g) (hi : zRj g t v s I A) (hw : zwf v) (h1 : ∀ I' A' v' s', zrpart t v s = .inr (v', s') → zRf g I A I' A' → zRj g t v' s' I' A' → Φ (.inl (some (.int 1))) (I', R, A', lo, dd) 0) (h0 : ∀ I' A' c p, zrpart t v s = .inl (c, p) → zRe g I A I' A' → I' 2 8 = nI c → I' 2 9 = nI p → Φ (.inl (some (.int 0))) (I', R, A', lo, dd) 0) : zC L xs mX3_readPartition [.ref 2] (I, R, A, lo, dd) Φ := by
  have h45 := z_ib_45 hg
  have hs1 := hi.2.1.1.1
  have hP4 := hw.1
  have err : ∀ (c s' : Nat) (I1 : Nat → Nat → Int32), zrpart t v s = .inl (c, s') → zRf g I A I1 A → I1 2 5 = nI s' → Φ (.inl (some (.int 0))) (z_up (z_up I1 2 8 (nI c)) 2 9 ((z_up I1 2 8 (nI c)) 2 5), R, A, lo, dd) 0 := by
    intro c s' I1 hc F e5
    exact h0 _ A c s' hc (zRe_tr F (zRe_rd (zRd_up (zRd_up (zRd_rf _) (by decide)) (by decide)))) (by rw [zup_n (by omega), zup_s]) (by rw [zup_s, zup_n (by omega)]; exact e5)
  refine zC_en (vc_X3_readPartition_0 ?_)
  refine s3_isWord hR hi.1 hi.2.1 (by decide) (fun q => zk_r (vc_X3_readPartition_6 hg hRg ⟨fun z => absurd z (by decide), fun _ => ?_⟩)) (fun q => zk_r (vc_X3_readPartition_6 hg hRg ⟨fun _ => ?_, fun z => absurd rfl z⟩))
  · rw [hi.2.2.2.1]
    refine ⟨fun qP => ?_, fun qP => err 5 s I (by unfold zrpart; rw [zif_t q, if_pos (Nat.le_of_not_lt (fun z => qP (nI_lt z (by decide))))]) (zRf_rf _ _ _) hi.2.1.2.1⟩
    have qP' : vP v < 4 := (nI_ltI (by omega) (by decide)).mp qP
    have hz0 : ∀ r, zrname t (znx t s) = r → zrpart t v s = (match r with
      | .inl e => .inl e
      | .inr lb => zif (zdupL v (nI lb)) (.inl (3, znx t s)) (zrp2 t v (nI lb) (znx t (znx t s)))) := fun r hr => by
      unfold zrpart
      rw [zif_t q, if_neg (by omega), hr]
      cases r <;> rfl
    refine s3_adj hR hg hi (fun I1 a1 i1 => zk_r (vc_X3_readPartition_36 ?_))
    have F1 : zRf g I A I1 A := zRf_ad a1
    refine s3_checkName hR i1.1 i1.2.1 (fun I2 lb hn v2 e7 hok => zk_r (vc_X3_readPartition_40 hg hRg ⟨fun z => absurd z (by decide), fun _ => ?_⟩)) (fun I2 c p hn e2 => zk_r (vc_X3_readPartition_40 hg hRg ⟨fun _ => ?_, fun z => absurd rfl z⟩))
    · have i2 := zRj_ad hg i1 (zVl_rd v2) (zVl_tk v2 i1.2.1)
      have F2 : zRf g I A I2 A := zRf_tr F1 (zRf_vl v2)
      have hz1 := hz0 _ hn
      rw [e7]
      refine s2_hasLabel hg i2.2.2 hP4 (fun qd => zk_r (vc_X3_readPartition_58 ⟨fun z => absurd z (by decide), fun _ => ?_⟩)) (fun qd => zk_r (vc_X3_readPartition_58 ⟨fun _ => ?_, fun z => absurd rfl z⟩))
      · exact err 3 (znx t s) I2 (by rw [hz1]; exact zif_t qd) F2 i2.2.1.2.1
      · replace hz1 : zrpart t v s = zrp2 t v (nI lb) (znx t (znx t s)) := by rw [hz1]; exact zif_f qd
        refine s3_adj hR hg i2 (fun I3 a3 i3 => zk_r (vc_X3_readPartition_71 ?_))
        have F3 := zRf_tr F2 (zRf_ad (A := A) a3)
        refine s3_checkNumber hR i3.1 i3.2.1 (lw := 0) (hi := 99999) (by decide) (by decide) (fun I4 fs hfs v4 e7' _ _ => zk_r (vc_X3_readPartition_78 ⟨fun z => absurd z (by decide), fun _ => ?_⟩)) (fun I4 c p hfs e4 => zk_r (vc_X3_readPartition_78 ⟨fun _ => ?_, fun z => absurd rfl z⟩))
        · have i4 := zRj_ad hg i3 (zVl_rd v4) (zVl_tk v4 i3.2.1)
          have F4 := zRf_tr F3 (zRf_vl (A := A) v4)
          have hz2 : zrpart t v s = zrp3 t v (nI lb) (nI fs) (znx t (znx t (znx t s))) := by rw [hz1]; unfold zrp2; rw [hfs]
          rw [e7']
          refine s3_adj hR hg i4 (fun I5 a5 i5 => zk_r (vc_X3_readPartition_92 ?_))
          have F5 := zRf_tr F4 (zRf_ad (A := A) a5)
          refine s3_checkNumber hR i5.1 i5.2.1 (lw := 1) (hi := 99999) (by decide) (by decide) (fun I6 ln hln v6 e7'' _ _ => zk_r (vc_X3_readPartition_99 hg hRg ⟨fun z => absurd z (by decide), fun _ => ?_⟩)) (fun I6 c p hln e6 => zk_r (vc_X3_readPartition_99 hg hRg ⟨fun _ => ?_, fun z => absurd rfl z⟩))
          · have i6 := zRj_ad hg i5 (zVl_rd v6) (zVl_tk v6 i5.2.1)
            have F6 := zRf_tr F5 (zRf_vl (A := A) v6)
            have hz3 : zrpart t v s = zif (zroom v (nI fs) (nI ln)) (if ztk t (znx t (znx t (znx t (znx t s)))) = 3 ∧ t.1 (znx t (znx t (znx t (znx t s)))) = 123 then .inr (zadp v (nI lb) (nI fs) (nI ln), znx t (znx t (znx t (znx t (znx t s))))) else .inl (1, znx t (znx t (znx t (znx t s))))) (.inl (6, znx t (znx t (znx t s)))) := by rw [hz2]; unfold zrp3; rw [hln]
            rw [e7'']
            refine s2_hasFreeSectors hg i6.2.2 hP4 (fun qr => zk_r (vc_X3_readPartition_116 hg hRg ⟨fun z => absurd z (by decide), fun _ => ?_⟩)) (fun qr => zk_r (vc_X3_readPartition_116 hg hRg ⟨fun _ => ?_, fun z => absurd rfl z⟩))
            · rw [zif_t (show zroom v (nI fs) (nI ln) from qr)] at hz3
              rw [i6.2.2.2.1]
              refine ⟨fun _ => ?_, fun z => absurd qP z⟩
              rw [nI_clamp (by omega), e7'', nI_1]
              refine ⟨nI_in qP' (by decide), nI_in qP' (by decide), nI_in qP' (by decide), ?_⟩
              have i7 : zRj g t (zadp v (nI lb) (nI fs) (nI ln)) (znx t (znx t (znx t s))) (z_up I6 g 1 (nI (vP v + 1))) (z_up (z_up (z_up A (g + 1) (vP v) (nI lb)) (g + 2) (vP v) (nI fs)) (g + 3) (vP v) (nI ln)) := by
                obtain ⟨hT, hK, hS, hP, hN, p0, p1, p2, n0, n1, n2, n3, n4, n5, n6⟩ := i6
                have hup : ∀ c j, ¬ (c = g ∧ j = 1) → z_up I6 g 1 (nI (vP v + 1)) c j = I6 c j := fun c j q => zup_n q
                have hnA : ∀ c, c ≠ g + 1 → c ≠ g + 2 → c ≠ g + 3 → (z_up (z_up (z_up A (g + 1) (vP v) (nI lb)) (g + 2) (vP v) (nI fs)) (g + 3) (vP v) (nI ln)) c = A c := fun c c1 c2 c3 => by
                  funext j
                  rw [zup_n (fun q => c3 q.1), zup_n (fun q => c2 q.1), zup_n (fun q => c1 q.1)]
                refine ⟨⟨by rw [hup 2 1 (by omega)]; exact hT.1, hT.2.1, fun i hi => by rw [hnA 1 (by omega) (by omega) (by omega)]; exact hT.2.2 i hi⟩, ⟨hK.1, by rw [hup 2 5 (by omega)]; exact hK.2.1, by rw [hup 2 6 (by omega)]; exact hK.2.2.1, by rw [hup 2 4 (by omega)]; exact hK.2.2.2⟩, by rw [hup g 0 (by omega)]; exact hS, zup_s, by rw [hup g 5 (by omega)]; exact hN, fun p hp => ?_, fun p hp => ?_, fun p hp => ?_, fun k hk => ?_, fun k hk => ?_, fun k hk => ?_, fun k hk => ?_, fun k hk => ?_, fun k hk => ?_, fun k hk => ?_⟩
                · replace hp : p < vP v + 1 := hp
                  show _ = zse (vpt v 0) (vP v) (nI lb) p
                  rw [zup_n (by omega), zup_n (by omega)]
                  by_cases e : p = vP v
                  · rw [e, zup_s, zse_s]
                  · rw [zup_n (by omega), zse_n e]; exact p0 p (by omega)
                · replace hp : p < vP v + 1 := hp
                  show _ = zse (vpt v 1) (vP v) (nI fs) p
                  rw [zup_n (by omega)]
                  by_cases e : p = vP v
                  · rw [e, zup_s, zse_s]
                  · rw [zup_n (by omega), zup_n (by omega), zse_n e]; exact p1 p (by omega)
                · replace hp : p < vP v + 1 := hp
                  show _ = zse (vpt v 2) (vP v) (nI ln) p
                  by_cases e : p = vP v
                  · rw [e, zup_s, zse_s]
                  · rw [zup_n (by omega), zup_n (by omega), zup_n (by omega), zse_n e]; exact p2 p (by omega)
                · rw [hnA _ (by omega) (by omega) (by omega)]; exact n0 k hk
                · rw [hnA _ (by omega) (by omega) (by omega)]; exact n1 k hk
                · rw [hnA _ (by omega) (by omega) (by omega)]; exact n2 k hk
                · rw [hnA _ (by omega) (by omega) (by omega)]; exact n3 k hk
                · rw [hnA _ (by omega) (by omega) (by omega)]; exact n4 k hk
                · rw [hnA _ (by omega) (by omega) (by omega)]; exact n5 k hk
                · rw [hnA _ (by omega) (by omega) (by omega)]; exact n6 k hk
              have F7 : zRf g I A (z_up I6 g 1 (nI (vP v + 1))) (z_up (z_up (z_up A (g + 1) (vP v) (nI lb)) (g + 2) (vP v) (nI fs)) (g + 3) (vP v) (nI ln)) := by
                refine zRf_tr F6 ⟨fun c j c1 c2 => zup_n (fun z => c2 z.1), fun j hj => zup_n (by omega), fun c hc => ?_⟩
                funext j
                rw [zup_n (by omega), zup_n (by omega), zup_n (by omega)]
              refine s3_adj hR hg i7 (fun I8 a8 i8 => zk_r (vc_X3_readPartition_143 ?_))
              have F8 := zRf_tr F7 (zRf_ad a8)
              refine s3_readSymbol hR i8.1 i8.2.1 (c := 123) (by decide) (fun I9 qs a9 k9 => zk_r (vc_X3_readPartition_149 ⟨Or.inr rfl, ?_⟩)) (fun I9 qs e9 => zk_r (vc_X3_readPartition_149 ⟨Or.inl rfl, ?_⟩))
              · exact h1 I9 _ _ _ (by rw [hz3]; exact if_pos qs) (zRf_tr F8 (zRf_ad a9)) (zRj_ad hg i8 (zAd_rd a9) k9)
              · exact h0 I9 _ 1 _ (by rw [hz3]; exact if_neg qs) (zRe_tr F8 (zRe_rd e9.1)) e9.2.1 e9.2.2
            · exact err 6 (znx t (znx t (znx t s))) I6 (by rw [hz3]; exact zif_f qr) F6 i6.2.1.2.1
          · exact h0 I6 A c p (by rw [hz2]; unfold zrp3; rw [hln]) (zRe_tr F5 (zRe_rd e6.1)) e6.2.1 e6.2.2
        · exact h0 I4 A c p (by rw [hz1]; unfold zrp2; rw [hfs]) (zRe_tr F3 (zRe_rd e4.1)) e4.2.1 e4.2.2
    · exact h0 I2 A c p (hz0 _ hn) (zRe_tr F1 (zRe_rd e2.1)) e2.2.1 e2.2.2
  · exact err 1 s I (by unfold zrpart; rw [zif_f q]) (zRf_rf _ _ _) hi.2.1.2.1
theorem s3_readDisk (hR : R 2 0 = some 1) (hRg : R 2 2 = some g) (hg : z_ib g) (hi : zRj g t (zem 1) s I A) (h1 : ∀ I' A' v' s', zrdisk t s = .inr (v', s') → zRf g I A I' A' → zRj g t v' s' I' A' → Φ (.inl (some (.int 1))) (I', R, A', lo, dd) 0) (h0 : ∀ I' A' c p, zrdisk t s = .inl (c, p) → zRe g I A I' A' → I' 2 8 = nI c → I' 2 9 = nI p → Φ (.inl (some (.int 0))) (I', R, A', lo, dd) 0) : zC L xs mX3_readDisk [.ref 2] (I, R, A, lo, dd) Φ := by
  have h45 := z_ib_45 hg
  refine zC_en (vc_X3_readDisk_0 ?_)
  refine s3_isWord hR hi.1 hi.2.1 (by decide) (fun q => zk_r (vc_X3_readDisk_6 ⟨fun z => absurd z (by decide), fun _ => ?_⟩)) (fun q => zk_r (vc_X3_readDisk_6 ⟨fun _ => ?_, fun z => absurd rfl z⟩))
  · refine s3_adj hR hg hi (fun I1 a1 i1 => zk_r (vc_X3_readDisk_19 ?_))
    have F1 : zRf g I A I1 A := zRf_ad a1
    refine s3_checkNumber hR i1.1 i1.2.1 (lw := 1) (hi := 99999) (by decide) (by decide) (fun I2 sz hsz v2 e7 _ _ => zk_r (vc_X3_readDisk_26 hg hRg ⟨fun z => absurd z (by decide), fun _ => ?_⟩)) (fun I2 c p hsz e2 => zk_r (vc_X3_readDisk_26 hg hRg ⟨fun _ => ?_, fun z => absurd rfl z⟩))
    · have i2 := zRj_ad hg i1 (zVl_rd v2) (zVl_tk v2 i1.2.1)
      have F2 : zRf g I A I2 A := zRf_tr F1 (zRf_vl v2)
      rw [e7]
      have hup : ∀ c j, ¬ (c = g ∧ j = 0) → z_up I2 g 0 (nI sz) c j = I2 c j := fun c j q => zup_n q
      have i3 : zRj g t (zem (nI sz)) (znx t s) (z_up I2 g 0 (nI sz)) A := by
        obtain ⟨hT, hK, hS, hP, hN, hr⟩ := i2
        exact ⟨⟨by rw [hup 2 1 (by omega)]; exact hT.1, hT.2⟩, ⟨hK.1, by rw [hup 2 5 (by omega)]; exact hK.2.1, by rw [hup 2 6 (by omega)]; exact hK.2.2.1, by rw [hup 2 4 (by omega)]; exact hK.2.2.2⟩, zup_s, by rw [hup g 1 (by omega)]; exact hP, by rw [hup g 5 (by omega)]; exact hN, hr⟩
      have F3 : zRf g I A (z_up I2 g 0 (nI sz)) A := zRf_tr F2 ⟨fun c j c1 c2 => hup c j (fun z => c2 z.1), fun j hj => hup 2 j (by omega), fun _ _ => rfl⟩
      refine s3_adj hR hg i3 (fun I4 a4 i4 => zk_r (vc_X3_readDisk_46 ?_))
      have F4 := zRf_tr F3 (zRf_ad a4)
      have hz : zrdisk t s = (if ztk t (znx t (znx t s)) = 3 ∧ t.1 (znx t (znx t s)) = 59 then .inr (zem (nI sz), znx t (znx t (znx t s))) else .inl (1, znx t (znx t s))) := by unfold zrdisk; rw [zif_t q, hsz]
      refine s3_readSymbol hR i4.1 i4.2.1 (c := 59) (by decide) (fun I5 qs a5 k5 => zk_r (vc_X3_readDisk_52 ⟨Or.inr rfl, ?_⟩)) (fun I5 qs e5 => zk_r (vc_X3_readDisk_52 ⟨Or.inl rfl, ?_⟩))
      · exact h1 I5 _ _ _ (by rw [hz]; exact if_pos qs) (zRf_tr F4 (zRf_ad a5)) (zRj_ad hg i4 (zAd_rd a5) k5)
      · exact h0 I5 _ 1 _ (by rw [hz]; exact if_neg qs) (zRe_tr F4 (zRe_rd e5.1)) e5.2.1 e5.2.2
    · exact h0 I2 A c p (by unfold zrdisk; rw [zif_t q, hsz]) (zRe_tr F1 (zRe_rd e2.1)) e2.2.1 e2.2.2
  · refine h0 _ A 1 s (by unfold zrdisk; rw [zif_f q]) (zRe_rd (zRd_up (zRd_up (zRd_rf _) (by decide)) (by decide))) (by rw [zup_n (by omega), zup_s]; rfl) (by rw [zup_s, zup_n (by omega)]; exact hi.2.1.2.1)
theorem s3_readImage (hg : z_ib g) (hT : t.2 ≤ 800 ∧ ∀ i, i < t.2 → A 1 i = nI (t.1 i) ∧ t.1 i < 256) (h1 : ∀ I' R' A' v', zrimg t = .inr v' → (∀ c j, c ≠ 2 → c ≠ g → I' c j = I c j) → (∀ c, c ≠ 2 → R' c = R c) → (∀ c, ¬ (g + 1 ≤ c ∧ c ≤ g + 10) → A' c = A c) → I' 2 8 = 0 → I' 2 9 = -1 → cIm g v' I' A' → Φ (.inl (some (.int 1))) (I', R', A', lo, dd) 0) (h0 : ∀ I' R' A' c p, zrimg t = .inl (c, p) → (∀ c j, c ≠ 2 → c ≠ g → I' c j = I c j) → (∀ c, c ≠ 2 → R' c = R c) → (∀ c, ¬ (g + 1 ≤ c ∧ c ≤ g + 10) → A' c = A c) → I' 2 8 = nI c → I' 2 9 = nI p → Φ (.inl (some (.int 0))) (I', R', A', lo, dd) 0) : zC L xs mX3_readImage [.ref 2, .ref 1, .int (nI t.2), .ref g] (I, R, A, lo, dd) Φ := by
  have h45 := z_ib_45 hg
  refine zC_en (vc_X3_readImage_0 hg hg ?_)
  rw [if_neg (show ¬ (800 : Int32) < nI t.2 from nI_nlt (a := 800) (b := t.2) hT.1 (by omega))]
  generalize hR' : z_up (z_up R 2 0 (some 1)) 2 2 (some g) = R'
  have hR0 : R' 2 0 = some 1 := by rw [← hR', zup_n (by omega), zup_s]
  have hRg : R' 2 2 = some g := by rw [← hR', zup_s]
  have hRc : ∀ c, c ≠ 2 → R' c = R c := fun c hc => by
    rw [← hR']
    funext j
    rw [zup_n (fun q => hc q.1), zup_n (fun q => hc q.1)]
  have e21 : (z_up (z_up (z_up (z_up (z_up (z_up (z_up I 2 1 (nI t.2)) g 0 1) g 1 0) g 5 0) 2 8 0) 2 9 (-1)) 2 6 0) 2 1 = nI t.2 := by rw [zup_n (by omega), zup_n (by omega), zup_n (by omega), zup_n (by omega), zup_n (by omega), zup_n (by omega), zup_s]
  have e28 : (z_up (z_up (z_up (z_up (z_up (z_up (z_up I 2 1 (nI t.2)) g 0 1) g 1 0) g 5 0) 2 8 0) 2 9 (-1)) 2 6 0) 2 8 = 0 := by rw [zup_n (by omega), zup_n (by omega), zup_s]
  have e29 : (z_up (z_up (z_up (z_up (z_up (z_up (z_up I 2 1 (nI t.2)) g 0 1) g 1 0) g 5 0) 2 8 0) 2 9 (-1)) 2 6 0) 2 9 = -1 := by rw [zup_n (by omega), zup_s]
  have e26 : (z_up (z_up (z_up (z_up (z_up (z_up (z_up I 2 1 (nI t.2)) g 0 1) g 1 0) g 5 0) 2 8 0) 2 9 (-1)) 2 6 0) 2 6 = nI 0 := zup_s
  have eg0 : (z_up (z_up (z_up (z_up (z_up (z_up (z_up I 2 1 (nI t.2)) g 0 1) g 1 0) g 5 0) 2 8 0) 2 9 (-1)) 2 6 0) g 0 = 1 := by rw [zup_n (by omega), zup_n (by omega), zup_n (by omega), zup_n (by omega), zup_n (by omega), zup_s]
  have eg1 : (z_up (z_up (z_up (z_up (z_up (z_up (z_up I 2 1 (nI t.2)) g 0 1) g 1 0) g 5 0) 2 8 0) 2 9 (-1)) 2 6 0) g 1 = 0 := by rw [zup_n (by omega), zup_n (by omega), zup_n (by omega), zup_n (by omega), zup_s]
  have eg5 : (z_up (z_up (z_up (z_up (z_up (z_up (z_up I 2 1 (nI t.2)) g 0 1) g 1 0) g 5 0) 2 8 0) 2 9 (-1)) 2 6 0) g 5 = 0 := by rw [zup_n (by omega), zup_n (by omega), zup_n (by omega), zup_s]
  have hIc : ∀ c j, c ≠ 2 → c ≠ g → (z_up (z_up (z_up (z_up (z_up (z_up (z_up I 2 1 (nI t.2)) g 0 1) g 1 0) g 5 0) 2 8 0) 2 9 (-1)) 2 6 0) c j = I c j := fun c j c1 c2 => by rw [zup_n (fun q => c1 q.1), zup_n (fun q => c1 q.1), zup_n (fun q => c1 q.1), zup_n (fun q => c2 q.1), zup_n (fun q => c2 q.1), zup_n (fun q => c2 q.1), zup_n (fun q => c1 q.1)]
  generalize (z_up (z_up (z_up (z_up (z_up (z_up (z_up I 2 1 (nI t.2)) g 0 1) g 1 0) g 5 0) 2 8 0) 2 9 (-1)) 2 6 0) = I0 at e21 e28 e29 e26 eg0 eg1 eg5 hIc ⊢
  have hc0 : cTx t I0 A := ⟨e21, hT.1, hT.2⟩
  have hv0 : cIm g (zem 1) I0 A := ⟨eg0, eg1, eg5, fun p hp => absurd hp (Nat.not_lt_zero _), fun p hp => absurd hp (Nat.not_lt_zero _), fun p hp => absurd hp (Nat.not_lt_zero _), fun p hp => absurd hp (Nat.not_lt_zero _), fun p hp => absurd hp (Nat.not_lt_zero _), fun p hp => absurd hp (Nat.not_lt_zero _), fun p hp => absurd hp (Nat.not_lt_zero _), fun p hp => absurd hp (Nat.not_lt_zero _), fun p hp => absurd hp (Nat.not_lt_zero _), fun p hp => absurd hp (Nat.not_lt_zero _)⟩
  refine s3_advance hR0 hc0 (Nat.zero_le _) e26 (fun I1 a1 k1 => zk_r (vc_X3_readImage_46 hg ?_))
  have i1 : zRj g t (zem 1) (zsk t 0) I1 A := ⟨cTx_fr hc0 (zAd_rd a1) rfl, k1, cIm_fr hv0 (by funext j; exact a1 g j (by omega)) (fun _ _ => rfl)⟩
  -- errors are set only where something fails
  have hE0 : I1 2 8 = 0 ∧ I1 2 9 = -1 := ⟨by rw [a1 2 8 (by omega)]; exact e28, by rw [a1 2 9 (by omega)]; exact e29⟩
  have F1 : zRf g I0 A I1 A := zRf_ad a1
  have ok0 : ∀ I' A' c p, zrimg t = .inl (c, p) → zRe g I0 A I' A' → I' 2 8 = nI c → I' 2 9 = nI p → Φ (.inl (some (.int 0))) (I', R', A', lo, dd) 0 := fun I' A' c p e F e8 e9 => h0 I' R' A' c p e (fun c j c1 c2 => by rw [F.1 c j c1 c2, hIc c j c1 c2]) hRc F.2.2 e8 e9
  have ok1 : ∀ I' A' v', zrimg t = .inr v' → zRf g I0 A I' A' → cIm g v' I' A' → Φ (.inl (some (.int 1))) (I', R', A', lo, dd) 0 := fun I' A' v' e F hv => h1 I' R' A' v' e (fun c j c1 c2 => by rw [F.1 c j c1 c2, hIc c j c1 c2]) hRc F.2.2 (by rw [F.2.1 8 (by omega)]; exact e28) (by rw [F.2.1 9 (by omega)]; exact e29) hv
  have key : ∀ n, n ≤ 5 → ∀ (v : zV) (s : Nat) (I2 A2 : Nat → Nat → Int32), zRf g I0 A I2 A2 → zRj g t v s I2 A2 → zwf v → zrimg t = zrparts t n v s → zW L xs mX3_readImage 55 [some (.ref 2), some (.ref 1), some (.int (nI t.2)), some (.ref g), some (.int 1), some (.int (nI (5 - n)))] [] (I2, R', A2, lo, dd) Φ := by
    intro n
    induction n with
    | zero =>
      intro _ v s I2 A2 F i hw hz
      have hok := ok1 I2 A2 v hz F i.2.2
      refine vc_X3_readImage_55 hg ⟨fun z => absurd z (by decide), fun _ => ⟨fun _ => ⟨Or.inr rfl, hok⟩, fun _ => ⟨fun _ => ⟨Or.inr rfl, hok⟩, fun z => absurd (by decide) z⟩⟩⟩
    | succ n ih =>
      intro hn v s I2 A2 F i hw hz
      have hs1 := i.2.1.1.1
      have htk : ztk t s ≤ 5 := by
        unfold ztk
        have := zbk_le (t.1 s)
        split
        · split <;> omega
        · omega
      have hend : (ztk t s = 0) ↔ ¬ s < t.2 := by
        unfold ztk
        have := zbk_le (t.1 s)
        constructor
        · intro q z
          rw [if_pos z] at q
          split at q <;> omega
        · intro q
          rw [if_neg q]
      refine vc_X3_readImage_55 hg ⟨fun z => absurd z (by decide), fun _ => ⟨fun q => ⟨Or.inr rfl, ?_⟩, fun q => ⟨fun z => absurd z (nI_nlt (a := 4) (b := 5 - (n + 1)) (by omega) (by omega)), fun _ => ?_⟩⟩⟩
      · rw [i.2.1.2.2.2] at q
        have q' : ztk t s = 0 := (nI_eq (b := 0) (by omega) (by decide)).mp q
        refine ok1 I2 A2 v ?_ F i.2.2
        rw [hz]
        show (if s < t.2 then _ else _) = _
        rw [if_neg (hend.mp q')]
      · have q' : s < t.2 := by
          refine Decidable.byContradiction (fun z => q ?_)
          rw [i.2.1.2.2.2, hend.mpr z]
          rfl
        refine s3_readPartition hR0 hRg hg i hw (fun I3 A3 v3 s3 e F3 i3 => zk_r (vc_X3_readImage_77 hg ⟨fun z => absurd z (by decide), fun _ => ?_⟩)) (fun I3 A3 c p e F3 e8 e9 => zk_r (vc_X3_readImage_77 hg ⟨fun _ => ?_, fun z => absurd rfl z⟩))
        · obtain ⟨a1', a2', a3', a4', a5', a6'⟩ := zrpart_ok hs1 hw e
          have F3' := zRf_tr F F3
          refine s3_readNodes hR0 hRg hg i3 a1' a2' (fun I4 A4 v4 h4 s4 e4 F4 i4 => zk_r (vc_X3_readImage_84 hg ⟨fun z => absurd z (by decide), fun _ => ?_⟩)) (fun I4 A4 c p e4 F4 e8 e9 => zk_r (vc_X3_readImage_84 hg ⟨fun _ => ?_, fun z => absurd rfl z⟩))
          · obtain ⟨b1, b2, b3, b4⟩ := zrtree_ok _ a6' a1' a2' e4
            rw [nI_1, show 5 - (n + 1) + 1 = 5 - n by omega]
            refine ih (by omega) v4 s4 I4 A4 (zRf_tr F3' F4) (zRj_of i4) b1 ?_
            exact hz.trans (zrparts_e3 q' e e4)
          · have hzz : zrimg t = .inl (c, p) := hz.trans (zrparts_e2 q' e e4)
            exact vc_X3_readImage_55 hg ⟨fun _ => ⟨Or.inl rfl, ok0 I4 A4 c p hzz (zRe_tr F3' F4) e8 e9⟩, fun z => absurd rfl z⟩
        · have hzz : zrimg t = .inl (c, p) := hz.trans (zrparts_e1 q' e)
          exact vc_X3_readImage_55 hg ⟨fun _ => ⟨Or.inl rfl, ok0 I3 A3 c p hzz (zRe_tr F F3) e8 e9⟩, fun z => absurd rfl z⟩
  refine s3_readDisk hR0 hRg hg i1 (fun I2 A2 v2 s2 e F2 i2 => zk_r (vc_X3_readImage_50 hg ?_)) (fun I2 A2 c p e F2 e8 e9 => zk_r (vc_X3_readImage_50 hg ?_))
  · obtain ⟨⟨sz, rfl⟩, h2⟩ := zrdisk_ok k1.1.1 e
    exact key 5 (Nat.le_refl _) _ s2 I2 A2 (zRf_tr F1 F2) i2 (zwf_em _) (by unfold zrimg; rw [e])
  · have hzz : zrimg t = .inl (c, p) := by unfold zrimg; rw [e]
    exact vc_X3_readImage_55 hg ⟨fun _ => ⟨Or.inl rfl, ok0 I2 A2 c p hzz (zRe_tr F1 F2) e8 e9⟩, fun z => absurd rfl z⟩
end
