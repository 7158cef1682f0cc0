-- text, take, back, count: class and reference alike
def bt (b j : Nat) : Nat := b / 2 ^ (8 * j) % 256
theorem and255 (c : Nat) : nI c &&& 255 = nI (c % 256) := by
  rw [pk_and (nI c) (m := 255) 8 (by decide)]
  congr 1
  have : (nI c).toBitVec.toNat = c % 4294967296 := un_mod c
  rw [this]
  omega
theorem bt_c {b j : Nat} (hb : b < 2 ^ 64) (hj : j < 8) : ((((lN b).toUInt64 >>> ((nI (8 * j)).toInt64.toUInt64 &&& Int64.toUInt64 63)).toInt64).toInt32) &&& 255 = nI (bt b j) := by
  rw [wb_shr hb (by omega), lN_i, and255]
  rfl
theorem bt_m {b j : Nat} (hb : b < 2 ^ 64) (hj : j < 8) : ((lN b >>> ((nI (8 * j)).toInt64 &&& 63)).toInt32) &&& 255 = nI (bt b j) := by
  obtain ⟨c, hc, e2⟩ := wb_of (lN b >>> ((nI (8 * j)).toInt64 &&& 63))
  have e3 : (lN b >>> ((nI (8 * j)).toInt64 &&& 63)).toInt = (lN b).toInt >>> (8 * j) := by
    rw [wb_c (8 * j) (by omega)]
    have h1 : ((lN (8 * j)).toBitVec.smod 64).toNat = 8 * j := by
      rw [wb_tb, wb_sm (8 * j) (by omega), BitVec.toNat_ofNat, Nat.mod_eq_of_lt (by omega)]
    conv => rhs; rw [← h1]
    exact BitVec.toInt_sshiftRight ..
  rw [e2] at e3
  rw [e2, lN_i, and255]
  congr 1
  rw [l_ti hc, l_ti hb, Int.shiftRight_eq_div_pow] at e3
  unfold bt
  have hj8 : j = 0 ∨ j = 1 ∨ j = 2 ∨ j = 3 ∨ j = 4 ∨ j = 5 ∨ j = 6 ∨ j = 7 := by omega
  rcases hj8 with rfl | rfl | rfl | rfl | rfl | rfl | rfl | rfl <;>
  · simp only [Nat.mul_zero, Nat.reduceMul, Nat.reducePow, Int.reducePow] at e3 ⊢
    by_cases q1 : c < 9223372036854775808
    · rw [if_pos q1] at e3
      by_cases q2 : b < 9223372036854775808
      · rw [if_pos q2] at e3; omega
      · rw [if_neg q2] at e3; omega
    · rw [if_neg q1] at e3
      by_cases q2 : b < 9223372036854775808
      · rw [if_pos q2] at e3; omega
      · rw [if_neg q2] at e3; omega
