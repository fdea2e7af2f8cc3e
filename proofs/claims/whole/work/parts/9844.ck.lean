theorem zk_w_0 : (zk_wds 0 = ([350, 140, 141, 181, 353, 181, 354, 355, 356, 357, 351, 181, 358, 181, 359, 181, 360, 181, 361, 181, 362, 181, 363, 390, 364] : List Nat).filterMap (fun i : Nat => lw_tbl[i]?)) ∧ (zk_wds 0).all goodWord = true := by decide +kernel
theorem zk_s_0 : zk_all 0 = true := by decide +kernel
theorem zk_w_1 : (zk_wds 1 = ([279, 140, 141, 181, 286, 181, 290, 181, 292, 181, 296, 181, 298] : List Nat).filterMap (fun i : Nat => lw_tbl[i]?)) ∧ (zk_wds 1).all goodWord = true := by decide +kernel
theorem zk_s_1 : zk_all 1 = true := by decide +kernel
theorem zk_w_2 : (zk_wds 2 = ([187, 140, 141, 188, 192, 181, 197, 181, 201, 181, 205, 208, 181, 214, 181, 217, 181, 220, 181, 223, 181, 226, 181, 230, 181, 235, 181, 238, 181, 239, 181, 240] : List Nat).filterMap (fun i : Nat => lw_tbl[i]?)) ∧ (zk_wds 2).all goodWord = true := by decide +kernel
theorem zk_s_2 : zk_all 2 = true := by decide +kernel
theorem zk_w_3 : (zk_wds 3 = ([147, 140, 141, 181, 148, 149, 151, 152, 153, 154, 155, 156, 158] : List Nat).filterMap (fun i : Nat => lw_tbl[i]?)) ∧ (zk_wds 3).all goodWord = true := by decide +kernel
theorem zk_s_3 : zk_all 3 = true := by decide +kernel
theorem zk_w_4 : (zk_wds 4 = ([320, 140, 141, 321, 181, 323, 181, 325, 181, 327, 181, 329, 181, 330] : List Nat).filterMap (fun i : Nat => lw_tbl[i]?)) ∧ (zk_wds 4).all goodWord = true := by decide +kernel
theorem zk_s_4 : zk_all 4 = true := by decide +kernel
theorem zk_w_5 : (zk_wds 5 = ([139, 140, 141, 181, 391, 392, 393, 394, 142, 143, 115, 145, 115, 146, 395, 182, 183, 116, 185, 116, 186, 396, 182, 183, 116, 185, 116, 186, 397, 182, 183, 116, 185, 116, 186, 398, 181, 399, 400, 181, 401, 274, 275, 117, 277, 117, 278, 402, 315, 316, 118, 318, 118, 319, 403, 404, 274, 275, 117, 277, 117, 278, 405, 315, 316, 118, 318, 118, 319, 406, 345, 346, 119, 348, 119, 349, 407] : List Nat).filterMap (fun i : Nat => lw_tbl[i]?)) ∧ (zk_wds 5).all goodWord = true := by decide +kernel
theorem zk_s_5 : zk_all 5 = true := by decide +kernel
theorem zk_w_6 : (zk_wds 6 = ([1218, 140, 141, 181, 1220, 181, 1221, 181, 1222, 1226, 181, 1230, 181, 1232, 1234, 181, 1235, 181, 1236, 181, 1237, 181, 1238, 181, 1239, 181, 1240, 181, 1242, 181, 1243, 181, 1244, 181, 1245, 1220, 1220] : List Nat).filterMap (fun i : Nat => lw_tbl[i]?)) ∧ (zk_wds 6).all goodWord = true := by decide +kernel
theorem zk_s_6 : zk_all 6 = true := by decide +kernel
theorem zk_allm : ∀ c, c < 7 → zk_all c = true
  | 0, _ => zk_s_0
  | 1, _ => zk_s_1
  | 2, _ => zk_s_2
  | 3, _ => zk_s_3
  | 4, _ => zk_s_4
  | 5, _ => zk_s_5
  | 6, _ => zk_s_6
  | n + 7, h => absurd h (by omega)
theorem zk_wm : ∀ c, c < 7 → ∀ w ∈ zk_wds c, w ∈ z_wl
  | 0, _ => zp_one zk_w_0
  | 1, _ => zp_one zk_w_1
  | 2, _ => zp_one zk_w_2
  | 3, _ => zp_one zk_w_3
  | 4, _ => zp_one zk_w_4
  | 5, _ => zp_one zk_w_5
  | 6, _ => zp_one zk_w_6
  | n + 7, h => absurd h (by omega)
theorem zk_lk : zk_LK := by
  intro c pc e hc h
  have hg : ((zk_tab c).getD (pc / 16) [])[pc % 16]? = some (some e) := by
    unfold zk_at at h
    rw [List.getD_eq_getElem?_getD] at h
    cases hh : ((zk_tab c).getD (pc / 16) [])[pc % 16]? with
    | none => rw [hh] at h; cases h
    | some q =>
      rw [hh] at h
      replace h : q = some e := h
      rw [h]
  have hl : pc / 16 < (zk_tab c).length := by
    apply Classical.byContradiction
    intro hno
    have e0 : (zk_tab c)[pc / 16]? = none := List.getElem?_eq_none (by omega)
    rw [List.getD_eq_getElem?_getD, e0] at hg
    simp at hg
  refine ⟨?_, fun w hw => zk_wm c hc w ?_⟩
  · have := List.all_eq_true.mp (List.all_eq_true.mp (zk_allm c hc) (pc / 16) (List.mem_range.mpr hl)) _ (z_zip hg)
    have e1 : 16 * (pc / 16) + pc % 16 = pc := Nat.div_add_mod pc 16
    dsimp only at this
    rw [e1] at this
    exact this
  · unfold zk_wds
    exact List.mem_flatMap.mpr ⟨_, List.mem_range.mpr hl, List.mem_flatMap.mpr ⟨_, List.mem_of_getElem? hg, hw⟩⟩
