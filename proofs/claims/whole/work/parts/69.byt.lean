/-! bytes -/
theorem zsh_b (b : BitVec 32) (k : Nat) (hk : k ≤ 24) : (b >>> k) &&& 255#32 = (b.sshiftRight k) &&& 255#32 := by
  refine BitVec.eq_of_getLsbD_eq (fun i hi => ?_)
  rw [BitVec.getLsbD_and, BitVec.getLsbD_and, BitVec.getLsbD_ushiftRight, BitVec.getLsbD_sshiftRight]
  by_cases q : i < 8
  · rw [decide_eq_false (show ¬ 32 ≤ i by omega), if_pos (show k + i < 32 by omega)]
    simp
  · have : (255#32 : BitVec 32).getLsbD i = false := by
      have key : ∀ j, j < 32 → ¬ j < 8 → (255#32 : BitVec 32).getLsbD j = false := by decide +kernel
      exact key i hi q
    rw [this, Bool.and_false, Bool.and_false]
theorem zsh_e {x k : Int32} (hk : k = 0 ∨ k = 8 ∨ k = 16 ∨ k = 24) : ((x.toUInt32 >>> (Int32.toUInt32 k &&& Int32.toUInt32 31)).toInt32 &&& 255) = ((x >>> (k &&& 31)) &&& 255) := by
  rcases hk with rfl | rfl | rfl | rfl
  · exact Int32.toBitVec.inj (zsh_b x.toBitVec 0 (by decide))
  · exact Int32.toBitVec.inj (zsh_b x.toBitVec 8 (by decide))
  · exact Int32.toBitVec.inj (zsh_b x.toBitVec 16 (by decide))
  · exact Int32.toBitVec.inj (zsh_b x.toBitVec 24 (by decide))
def zby (x k : Int32) : Nat := ((x >>> (k &&& 31)) &&& 255).toBitVec.toNat
theorem zby_lt (x k : Int32) : zby x k < 256 := by
  unfold zby
  rw [Int32.toBitVec_and, BitVec.toNat_and]
  exact Nat.lt_of_le_of_lt Nat.and_le_right (by decide)
theorem zby_n (x k : Int32) : ((x >>> (k &&& 31)) &&& 255) = nI (zby x k) := by
  refine Int32.toBitVec.inj ?_
  show _ = BitVec.ofNat 32 (zby x k)
  unfold zby
  rw [BitVec.ofNat_toNat, BitVec.setWidth_eq]
