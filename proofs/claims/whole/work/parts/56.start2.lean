-- the class's shortest digits: the start, all of it
/-- the start: what is known of rest, unit and halfGap -/
def sst (m : Nat) (q : Int) (w : Int32) (P0 : Int) (R0 U H0 : Nat) : Prop :=
  R0 < U ∧ U ≤ 10 * R0 ∧ 0 < H0 ∧ U * 1000 < 4294967296 ^ 40 ∧ -324 ≤ P0 ∧ P0 ≤ 400 ∧
  ((w = 0 ∧ R0 = 2 * m * H0 ∧ ∀ K : Nat, 2000 ≤ K → 2 * H0 * tA K P0 = U * tB P0 * 2 ^ (q + K).toNat) ∨ (¬ w = 0 ∧ R0 = 4 * m * H0 ∧ ∀ K : Nat, 2000 ≤ K → 4 * H0 * tA K P0 = U * tB P0 * 2 ^ (q + K).toNat))
theorem st_id {q p0 : Int} {c K : Nat} (h1 : -1074 ≤ q) (h2 : -400 ≤ p0) (hK : 2000 ≤ K) : 4 * 2 ^ q.toNat * 10 ^ (-p0).toNat * tA K (p0 + c) = 4 * 2 ^ (-q).toNat * 10 ^ p0.toNat * 10 ^ c * tB (p0 + c) * 2 ^ (q + K).toNat := by
  unfold tA tB
  have e10 : ∀ n : Nat, 10 ^ n = 2 ^ n * 5 ^ n := fun n => by rw [← Nat.mul_pow]
  rw [e10, e10, e10]
  have f5 : 5 ^ (-p0).toNat * 5 ^ (p0 + c).toNat = 5 ^ p0.toNat * 5 ^ c * 5 ^ (-(p0 + c)).toNat := by
    rw [← Nat.pow_add, ← Nat.pow_add, ← Nat.pow_add]
    congr 1
    omega
  have f2 : 2 ^ q.toNat * 2 ^ (-p0).toNat * 2 ^ (p0 + c + K).toNat = 2 ^ (-q).toNat * 2 ^ p0.toNat * 2 ^ c * 2 ^ (q + K).toNat := by
    rw [← Nat.pow_add, ← Nat.pow_add, ← Nat.pow_add, ← Nat.pow_add, ← Nat.pow_add]
    congr 1
    omega
  generalize 5 ^ (-p0).toNat = a1 at *
  generalize 5 ^ (p0 + c).toNat = a2 at *
  generalize 5 ^ p0.toNat = a3 at *
  generalize 5 ^ c = a4 at *
  generalize 5 ^ (-(p0 + c)).toNat = a5 at *
  generalize 2 ^ q.toNat = b1 at *
  generalize 2 ^ (-p0).toNat = b2 at *
  generalize 2 ^ (p0 + c + K).toNat = b3 at *
  generalize 2 ^ (-q).toNat = b4 at *
  generalize 2 ^ p0.toNat = b5 at *
  generalize 2 ^ c = b6 at *
  generalize 2 ^ (q + K).toNat = b7 at *
  have l : 4 * b1 * (b2 * a1) * (a2 * b3) = 4 * (a1 * a2) * (b1 * b2 * b3) := by grind
  have r : 4 * b4 * (b5 * a3) * (b6 * a4) * a5 * b7 = 4 * (a3 * a4 * a5) * (b4 * b5 * b6 * b7) := by grind
  rw [l, r, f5, f2]
theorem st_sz {m : Nat} {q p0 : Int} (hm : m < 2 ^ 53) (hq : q ≤ 972) (hp : -324 ≤ p0) (hqp : 0 ≤ q → 0 ≤ p0) : 4 * m * 2 ^ q.toNat * 10 ^ (-p0).toNat * 100000 < 4294967296 ^ 39 := by
  have hX : 2 ^ q.toNat * 10 ^ (-p0).toNat ≤ 10 ^ 324 := by
    by_cases h : 0 ≤ q
    · have e : (-p0).toNat = 0 := by have := hqp h; omega
      rw [e, Nat.pow_zero, Nat.mul_one]
      exact Nat.le_trans (Nat.pow_le_pow_right (by decide) (show q.toNat ≤ 972 by omega)) (by decide +kernel)
    · have e : q.toNat = 0 := by omega
      rw [e, Nat.pow_zero, Nat.one_mul]
      exact Nat.pow_le_pow_right (by decide) (by omega)
  have h1 : 4 * m * (2 ^ q.toNat * 10 ^ (-p0).toNat) ≤ 2 ^ 55 * 10 ^ 324 := Nat.mul_le_mul (by omega) hX
  rw [← Nat.mul_assoc] at h1
  have h2 : 2 ^ 55 * 10 ^ 324 * 100000 < 4294967296 ^ 39 := by decide +kernel
  exact Nat.lt_of_le_of_lt (Nat.mul_le_mul_right 100000 h1) h2
/-- the guess of the power is right, or too low by at most three -/
theorem st_gs {m L : Nat} {q k : Int} (hb : bln (4 * m) L) (hm0 : 0 < m) (hm : m < 2 ^ 53) (hq1 : -1074 ≤ q) (hq2 : q ≤ 972) (hk : k = L - 3 + q) : 3 ≤ L ∧ -1074 ≤ k ∧ k ≤ 1025 ∧
    4 * 2 ^ (-q).toNat * 10 ^ (k * 30103 / 100000).toNat ≤ 10 * (4 * m * 2 ^ q.toNat * 10 ^ (-(k * 30103 / 100000)).toNat) ∧ 4 * m * 2 ^ q.toNat * 10 ^ (-(k * 30103 / 100000)).toNat < 4 * 2 ^ (-q).toNat * 10 ^ (k * 30103 / 100000).toNat * 1000 := by
  obtain ⟨b1, b2, b3⟩ := hb
  have b2 := b2 (by omega)
  have hL3 : 3 ≤ L := by
    rcases Nat.lt_or_ge L 3 with g | g
    · have : 2 ^ L ≤ 2 ^ 2 := Nat.pow_le_pow_right (by decide) (by omega)
      omega
    · exact g
  have hL : L ≤ 55 := by
    rcases Nat.lt_or_ge 55 L with g | g
    · have : 2 ^ 55 ≤ 2 ^ (L - 1) := Nat.pow_le_pow_right (by decide) (by omega)
      omega
    · exact g
  have k1 : -1074 ≤ k := by omega
  have k2 : k ≤ 1025 := by omega
  obtain ⟨_, t1, t2⟩ := ten_k k1 k2
  obtain ⟨B, rfl⟩ : ∃ B, L = B + 3 := ⟨L - 3, by omega⟩
  have m1 : 2 ^ B ≤ m := by
    have e : 2 ^ (B + 3 - 1) = 2 ^ B * 4 := by rw [show B + 3 - 1 = B + 2 by omega, Nat.pow_add]
    omega
  have m2 : m < 2 * 2 ^ B := by
    have e : 2 ^ (B + 3) = 2 ^ B * 8 := by rw [Nat.pow_add]
    omega
  have e1 : 2 ^ B * 2 ^ q.toNat * 2 ^ (-k).toNat = 2 ^ k.toNat * 2 ^ (-q).toNat := by
    rw [← Nat.pow_add, ← Nat.pow_add, ← Nat.pow_add]
    congr 1
    omega
  refine ⟨by omega, k1, k2, ?_, ?_⟩
  · have hz := Nat.two_pow_pos (-k).toNat
    generalize 2 ^ (-k).toNat = z1 at *
    generalize 2 ^ k.toNat = z2 at *
    generalize 2 ^ q.toNat = z3 at *
    generalize 2 ^ (-q).toNat = z4 at *
    generalize 10 ^ (k * 30103 / 100000).toNat = z5 at *
    generalize 10 ^ (-(k * 30103 / 100000)).toNat = z6 at *
    generalize 2 ^ B = z7 at *
    apply Nat.le_of_mul_le_mul_right _ hz
    have a1 : 4 * z4 * z5 * z1 = 4 * z4 * (z5 * z1) := by grind
    have a2 : 4 * z4 * (z5 * z1) ≤ 4 * z4 * (10 * z2 * z6) := Nat.mul_le_mul_left _ t1
    have a3 : 4 * z4 * (10 * z2 * z6) = 40 * z6 * (z2 * z4) := by grind
    have a4 : 40 * z6 * (z7 * z3 * z1) = (40 * z6 * z3 * z1) * z7 := by grind
    have a5 : (40 * z6 * z3 * z1) * z7 ≤ (40 * z6 * z3 * z1) * m := Nat.mul_le_mul_left _ m1
    have a6 : (40 * z6 * z3 * z1) * m = 10 * (4 * m * z3 * z6) * z1 := by grind
    rw [a1]
    rw [a3, ← e1, a4] at a2
    rw [← a6]
    exact Nat.le_trans a2 a5
  · have hz := Nat.two_pow_pos (-k).toNat
    have h3 := Nat.two_pow_pos q.toNat
    have h6 : 0 < 10 ^ (-(k * 30103 / 100000)).toNat := Nat.pow_pos (by decide)
    generalize 2 ^ (-k).toNat = z1 at *
    generalize 2 ^ k.toNat = z2 at *
    generalize 2 ^ q.toNat = z3 at *
    generalize 2 ^ (-q).toNat = z4 at *
    generalize 10 ^ (k * 30103 / 100000).toNat = z5 at *
    generalize 10 ^ (-(k * 30103 / 100000)).toNat = z6 at *
    generalize 2 ^ B = z7 at *
    apply Nat.lt_of_mul_lt_mul_right (a := z1)
    have a1 : 4 * m * z3 * z6 * z1 = (4 * z3 * z6 * z1) * m := by grind
    have hp : 0 < 4 * z3 * z6 * z1 := Nat.mul_pos (Nat.mul_pos (Nat.mul_pos (by decide) h3) h6) hz
    have a2 : (4 * z3 * z6 * z1) * m < (4 * z3 * z6 * z1) * (2 * z7) := Nat.mul_lt_mul_of_pos_left m2 hp
    have a3 : (4 * z3 * z6 * z1) * (2 * z7) = 8 * z6 * (z7 * z3 * z1) := by grind
    have a4 : 8 * z6 * (z2 * z4) = 4 * z4 * (2 * z2 * z6) := by grind
    have a5 : 4 * z4 * (2 * z2 * z6) ≤ 4 * z4 * (1000 * z5 * z1) := Nat.mul_le_mul_left _ t2
    have a6 : 4 * z4 * (1000 * z5 * z1) = 4 * z4 * z5 * 1000 * z1 := by grind
    rw [a1]
    rw [a3, e1, a4] at a2
    rw [← a6]
    exact Nat.lt_of_lt_of_le a2 a5
