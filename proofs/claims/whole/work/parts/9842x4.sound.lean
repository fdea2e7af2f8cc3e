section
variable {l : Launch} {D : va_G} {kc : Nat → ClassId} {ad adV : Nat → Nat} {L : Nat} {xs : Nat → Int32}
theorem z_soundy (hLK : z_LK) (hUI : z_UI) (hXS : z_XSy) (hsT : l.stackTraces = false) (hinj : ∀ i j, i < 125 → j < 125 → ad i = ad j → i = j) (hJ : z_JS l D kc ad adV L xs) : ∀ n, z_P l D kc ad adV L xs n := by
  intro n
  induction n with
  | zero =>
    intro m p e R s mi args below meth c Q nL o τ MC MS _ _ _ _ _ pc lv st σ t H locs ls cells slots h
    cases h
  | succ n ih =>
    intro m p e R s mi args below meth c Q nL o τ MC MS C hnl hMC hMS hEnd pc lv st σ
    have hk := ih m p e R s mi args below meth c Q nL o τ MC MS C hnl hMC hMS hEnd
    show z_Wg p l e R s mi args below meth c Q D kc ad nL o τ MC MS pc lv st σ (match z_at m pc with
      | none => none
      | some e => z_stp L xs e.2.1 e.2.2.1 e.2.2.2.1 e.2.2.2.2 pc lv st σ (z_run L xs n m) (fun c args τ => z_run L xs n c 0 args [] τ) e.1)
    cases hat : z_at m pc with
    | none =>
      intro t H locs ls cells slots h
      cases h
    | some q =>
      obtain ⟨i, len, a, v, sw⟩ := q
      obtain ⟨h1, h2⟩ := hLK m pc _ hat
      exact z_stepy C hinj hsT hXS hUI hJ hnl hMC hMS hEnd hk _ (fun c0 vals σ1 r σ2 u sz g1 g2 g3 => z_metOf ih g1 g2 g3) h1 h2
end
