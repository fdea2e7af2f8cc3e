/-! throws over the words as the classes have them: java/util/NoSuchElementException hands on by link 13 -/
def z_six13 : ByteArray := ⟨#[0x2a, 0x2b, 0xb7, 0x00, 0x0d, 0xb1]⟩
theorem z_six13_0 : decode z_six13 0 = .ok (.aload_n 0, 1) := by decide +kernel
theorem z_six13_1 : decode z_six13 1 = .ok (.aload_n 1, 1) := by decide +kernel
theorem z_six13_2 : decode z_six13 2 = .ok (.invokespecial 13, 3) := by decide +kernel
theorem z_six13_5 : decode z_six13 5 = .ok (.return_, 1) := by decide +kernel
def z_atx (i : Nat) : List Jvm.Cond := if i = 3 then zx_at RX5 (z_ic i) (z_EX i) "java/lang/RuntimeException" ["java/lang/Exception"] 13 z_six13 else vx_atS RX5 (z_ic i) (z_EX i) z_nms
def z_XSy : Prop := ∀ i, i < 4 → (∀ w ∈ z_atx i, goodWord w = true → w ∈ z_wl) ∧ (∀ w ∈ z_atx i, goodWord w = false → w ∈ z_xw) ∧ (∀ w ∈ z_atx i, vx_ot w = true) ∧ Bundle.fit (z_EX i) = true ∧ (∀ n ∈ z_nms, Bundle.fit n = true)
section ZW
variable {p : Program} {l : Launch} {e : Env} {R : Room} {s : State} {mi : MethodId} {args : Array Value} {below : List Frame} {meth : Method} {c : Code} {Q : State → Prop} {D : va_G} {kc : Nat → ClassId} {ad adV : Nat → Nat} {nL : Nat} {o : Option Value ⊕ Nat} {τ : zSt} {MC MS : Nat} {k : Nat → zL → List Value → zSt → Option zOut} {pc : Nat} {lv : zL} {st : List Value} {σ : zSt} {L : Nat} {xs : Nat → Int32} {m : Nat}
theorem zw_newy (C : z_Cx D kc ad adV L xs m p R s mi args meth c) (hsT : l.stackTraces = false) (hXS : z_XSy) (hnl : nL = z_maxL m) (hMC : MC ≤ R.cells) (hMS : MS ≤ R.slots) (hEnd : z_End p l e R s mi args below meth c Q D kc ad m o τ MC MS) {a : Nat × Nat × Nat} {v : Value} {sw : List (Int32 × Nat)} {ik : Nat} (hB : z_eB m pc (.new ik, 3, a, v, sw) = true) (hw : ∀ w ∈ z_need m (.new ik, 3, a, v, sw), w ∈ z_wl) (cl : Nat → zL → zSt → Option zOut) : z_Wg p l e R s mi args below meth c Q D kc ad nL o τ MC MS pc lv st σ (z_stp L xs 3 a v sw pc lv st σ k cl (.new ik)) := by
  obtain ⟨hx, hb, hml, hown, hts, hlk, hE, hfr, hlo, htb⟩ := C
  intro t H locs ls cells slots h hP hS hl hn hc hs
  dsimp only [z_stp] at h
  split at h
  · cases h
    unfold z_eB at hB
    simp only [Bool.and_eq_true, decide_eq_true_eq] at hB
    obtain ⟨hd0, hst⟩ := hB
    unfold z_stB at hst
    simp only [Bool.and_eq_true, Bool.or_eq_true, decide_eq_true_eq] at hst
    obtain ⟨-, ⟨⟨⟨⟨⟨⟨⟨h4, hO⟩, hhh⟩, hd6⟩, hl90⟩, hic⟩, hth⟩, hd3⟩, hcode⟩ := hst
    rw [List.any_eq_true] at hth
    obtain ⟨q, hq, hqi⟩ := hth
    have hqi : q.1 = a.2.1 := by simpa using hqi
    obtain ⟨sa, hsa⟩ := hE.2.2.2.2.1 q hq
    rw [hqi] at hsa
    obtain ⟨x1, x2, x3, x4, x5⟩ := hXS a.1 h4
    rw [hO] at hown
    have w1 : (Jvm.Cond.classLink RX5 ik (z_EX a.1)).before args s = true := by
      rw [← hO]
      exact hts _ (hw _ (by simp [z_need]))
    have w2 : (Jvm.Cond.initialized (z_EX a.1)).before args s = true := hts _ (hw _ (by simp [z_need]))
    have hat : ∀ w ∈ z_atx a.1, w.before args s = true := by
      intro w hww
      cases hg : goodWord w with
      | true => exact hts _ (x1 w hww hg)
      | false =>
        have hxw := x2 w hww hg
        exact z_facemv (Vm.Alike.refl _) (z_xw_f _ hxw).1 (z_xw_f _ hxw).2 (hE.2.2.2.2.2.2.1 w hxw)
    have hgd : ∀ w ∈ Jvm.Cond.classLink RX5 ik (z_EX a.1) :: Jvm.Cond.initialized (z_EX a.1) :: z_atx a.1, vx_ot w = true := by
      intro w hww
      rcases List.mem_cons.mp hww with rfl | hww
      · rfl
      · rcases List.mem_cons.mp hww with rfl | hww
        · rfl
        · exact x3 w hww
    have hdec : ∀ {pc' : Nat} {q : Instr × Nat}, z_dcs m pc' = some q → decode (z_bytes m) pc' = .ok q := fun h => z_dcs_ok h
    obtain ⟨Qc, hQ⟩ := hEnd.2 _ rfl
    rw [hQ]
    have hXX : ∀ t : State, s.vm.Alike t.vm → H.size ≤ t.heap.size → (∀ q : Nat, q < H.size → t.heap[q]? = H[q]?) → z_Xc D kc ad s.heap.size (.inr a.1) τ (z_EX a.1) s t := by
      intro t _ hz hkp
      refine ⟨⟨a.1, h4, rfl, rfl, hP.kept (fun kk q hq => hkp _ ((hP kk q hq).lt))⟩, Nat.le_trans hS.1 hz, fun q h1 h2 => ?_⟩
      rw [hkp q (Nat.lt_of_lt_of_le h1 hS.1)]
      exact hS.2.1 q h1 h2
    have hout : ∀ y, ∀ z ∈ c.exceptionTable.toList, covers z y = false := by
      rw [htb, hhh]
      intro y z hz
      cases hz
    by_cases h3 : a.1 = 3
    · have e3 : z_atx a.1 = zx_at RX5 a.2.2 (z_EX a.1) "java/lang/RuntimeException" ["java/lang/Exception"] 13 z_six13 := by
        rw [hic, h3]
        exact if_pos rfl
      rw [e3] at hat hgd
      rcases hcode with ⟨⟨c1, c2⟩, c3⟩ | ⟨⟨c1, c2⟩, c3⟩
      · exact zx_throwS hx hb hsT hown x4 x5 z_six13_0 z_six13_1 z_six13_2 z_six13_5 w1 w2 hsa hat hgd hE.2.1 hE.2.2.1 hS (by rw [hl.1, hn, hnl, hml]) (hdec hd0) (hdec hd3) (hdec c1) (hdec c2) (hdec c3) (hout _) (by show (1 + 1) + 3 < R.frames; omega) (by show 0 + (13 * ((1 + 1) + 1) + 43) ≤ R.locals; omega) (by omega) (by omega) hlk hXX hS.2.2 (by omega) (by omega)
      · exact zx_throwSW hx hb hsT hown x4 x5 z_six13_0 z_six13_1 z_six13_2 z_six13_5 w1 w2 hsa hat hgd hE.2.1 hE.2.2.1 hS (by rw [hl.1, hn, hnl, hml]) (hdec hd0) (hdec hd3) (hdec c1) (hdec c2) (hdec c3) (hout _) (by show (1 + 1) + 3 < R.frames; omega) (by show 0 + (13 * ((1 + 1) + 1) + 43) ≤ R.locals; omega) (by omega) (by omega) hlk hXX hS.2.2 (by omega) (by omega)
    · have e3 : z_atx a.1 = vx_atS RX5 a.2.2 (z_EX a.1) z_nms := by
        rw [hic]
        exact if_neg h3
      rw [e3] at hat hgd
      rcases hcode with ⟨⟨c1, c2⟩, c3⟩ | ⟨⟨c1, c2⟩, c3⟩
      · exact vx_throwS hx hb hsT hown x4 x5 w1 w2 hsa hat hgd hE.2.1 hE.2.2.1 hS (by rw [hl.1, hn, hnl, hml]) (hdec hd0) (hdec hd3) (hdec c1) (hdec c2) (hdec c3) (hout _) (by show 2 + 3 < R.frames; omega) (by show 0 + (13 * (2 + 1) + 43) ≤ R.locals; omega) (by omega) (by omega) hlk hXX hS.2.2 (by omega) (by omega)
      · exact vx_throwSW hx hb hsT hown x4 x5 w1 w2 hsa hat hgd hE.2.1 hE.2.2.1 hS (by rw [hl.1, hn, hnl, hml]) (hdec hd0) (hdec hd3) (hdec c1) (hdec c2) (hdec c3) (hout _) (by show 2 + 3 < R.frames; omega) (by show 0 + (13 * (2 + 1) + 43) ≤ R.locals; omega) (by omega) (by omega) hlk hXX hS.2.2 (by omega) (by omega)
  · cases h
end ZW
