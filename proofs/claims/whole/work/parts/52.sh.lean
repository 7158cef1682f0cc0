-- powers of ten as fractions; the digits of a number
def tA (K : Nat) (P : Int) : Nat := 5 ^ P.toNat * 2 ^ (P + K).toNat
def tB (P : Int) : Nat := 5 ^ (-P).toNat
theorem tB_pos (P : Int) : 0 < tB P := Nat.pow_pos (by decide)
theorem tA_pos (K : Nat) (P : Int) : 0 < tA K P := Nat.mul_pos (Nat.pow_pos (by decide)) (Nat.two_pow_pos _)
theorem tn {K n : Nat} {P : Int} (h : 0 ≤ P - n + K) : tA K P * tB (P - n) = 10 ^ n * tA K (P - n) * tB P := by
  unfold tA tB
  have a1 : 5 ^ P.toNat * 5 ^ (-(P - n)).toNat = 5 ^ n * 5 ^ (P - n).toNat * 5 ^ (-P).toNat := by
    rw [← Nat.pow_add, ← Nat.pow_add, ← Nat.pow_add]
    congr 1
    omega
  have a2 : 2 ^ (P + K).toNat = 2 ^ n * 2 ^ (P - n + K).toNat := by
    rw [← Nat.pow_add]
    congr 1
    omega
  rw [show (10 : Nat) = 5 * 2 from rfl, Nat.mul_pow, a2]
  generalize 5 ^ P.toNat = y1 at *
  generalize 5 ^ (-(P - n)).toNat = y2 at *
  generalize 5 ^ n = y3 at *
  generalize 5 ^ (P - n).toNat = y4 at *
  generalize 5 ^ (-P).toNat = y5 at *
  generalize 2 ^ n = y6 at *
  generalize 2 ^ (P - n + K).toNat = y7 at *
  have a3 : y1 * (y6 * y7) * y2 = (y6 * y7) * (y1 * y2) := by grind
  rw [a3, a1]
  grind
/-- what is known of rest, unit, halfGap and power at the start -/
def stt (K V g : Nat) (P0 : Int) (R0 U H0 : Nat) : Prop := tB P0 * V * U = R0 * tA K P0 ∧ R0 < U ∧ U ≤ 10 * R0 ∧ 2 * H0 * tA K P0 = U * tB P0 * g
section Dig
variable {K V g R0 U H0 : Nat} {P0 : Int}
theorem st_n (h : stt K V g P0 R0 U H0) (n : Nat) (hK : 0 ≤ P0 - n + K) : tB (P0 - n) * V * U = 10 ^ n * R0 * tA K (P0 - n) ∧ 2 * (10 ^ n * H0) * tA K (P0 - n) = U * tB (P0 - n) * g := by
  obtain ⟨h1, _, _, h4⟩ := h
  have ht := tn (K := K) (n := n) (P := P0) hK
  have hb := tB_pos P0
  generalize tA K P0 = A at *
  generalize tB P0 = B at *
  generalize tA K (P0 - n) = A' at *
  generalize tB (P0 - n) = B' at *
  generalize 10 ^ n = p at *
  constructor
  · apply Nat.eq_of_mul_eq_mul_right hb
    have e1 : B' * V * U * B = B' * (B * V * U) := by grind
    have e2 : B' * (R0 * A) = R0 * (A * B') := by grind
    rw [e1, h1, e2, ht]
    grind
  · apply Nat.eq_of_mul_eq_mul_right hb
    have e1 : U * B' * g * B = B' * (U * B * g) := by grind
    have e2 : B' * (2 * H0 * A) = 2 * H0 * (A * B') := by grind
    rw [e1, ← h4, e2, ht]
    grind
/-- the digits so far are the whole part -/
theorem st_fl (h : stt K V g P0 R0 U H0) (n : Nat) (hK : 0 ≤ P0 - n + K) : 10 ^ n * R0 / U * tA K (P0 - n) ≤ tB (P0 - n) * V ∧ tB (P0 - n) * V < (10 ^ n * R0 / U + 1) * tA K (P0 - n) := by
  obtain ⟨h1, _⟩ := st_n h n hK
  have hU : 0 < U := by have := h.2.1; omega
  have hA := tA_pos K (P0 - n)
  have hdm := Nat.div_add_mod (10 ^ n * R0) U
  have hm := Nat.mod_lt (10 ^ n * R0) hU
  generalize 10 ^ n * R0 = X at *
  generalize tA K (P0 - n) = A at *
  generalize tB (P0 - n) * V = Y at *
  generalize X / U = q at *
  generalize X % U = r at *
  constructor
  · apply Nat.le_of_mul_le_mul_right _ hU
    rw [h1, ← hdm]
    have : q * A * U = U * q * A := by grind
    rw [this]
    exact Nat.mul_le_mul_right _ (by omega)
  · apply Nat.lt_of_mul_lt_mul_right (a := U)
    rw [h1, ← hdm]
    have : (q + 1) * A * U = (U * q + U) * A := by grind
    rw [this]
    exact Nat.mul_lt_mul_of_pos_right (by omega) hA
theorem st_lt (h : stt K V g P0 R0 U H0) (n : Nat) : 10 ^ n * R0 / U < 10 ^ n := by
  have hU : 0 < U := by have := h.2.1; omega
  rw [Nat.div_lt_iff_lt_mul hU]
  exact Nat.mul_lt_mul_of_pos_left h.2.1 (Nat.pow_pos (by decide))
/-- below: 2 d 10^P against 2 V - g -/
theorem st_dn (h : stt K V g P0 R0 U H0) (n : Nat) (hK : 0 ≤ P0 - n + K) {m : Nat} (hm : m + g = 2 * V) : (m * tB (P0 - n) < 2 * (10 ^ n * R0 / U * tA K (P0 - n)) ↔ 10 ^ n * R0 % U < 10 ^ n * H0) ∧ (2 * (10 ^ n * R0 / U * tA K (P0 - n)) = m * tB (P0 - n) ↔ 10 ^ n * R0 % U = 10 ^ n * H0) := by
  obtain ⟨h1, h2⟩ := st_n h n hK
  have hU : 0 < U := by have := h.2.1; omega
  have hA := tA_pos K (P0 - n)
  have hdm := Nat.div_add_mod (10 ^ n * R0) U
  generalize 10 ^ n * R0 = X at *
  generalize 10 ^ n * H0 = Hn at *
  generalize tA K (P0 - n) = A at *
  generalize tB (P0 - n) = B at *
  generalize X / U = q at *
  generalize X % U = r at *
  -- U * (m * B) + 2 * Hn * A = 2 * (U * q + r) * A
  have key : m * B * U + 2 * Hn * A = 2 * (q * A) * U + 2 * r * A := by
    have e1 : (m + g) * B * U = 2 * (B * V * U) := by rw [hm]; grind
    have e2 : (m + g) * B * U = m * B * U + U * B * g := by grind
    rw [h1, ← hdm] at e1
    have e3 : 2 * ((U * q + r) * A) = 2 * (q * A) * U + 2 * r * A := by grind
    omega
  have c1 : r < Hn ↔ 2 * r * A < 2 * Hn * A := ⟨fun q => Nat.mul_lt_mul_of_pos_right (by omega) hA, fun q => by have := Nat.lt_of_mul_lt_mul_right q; omega⟩
  have c2 : r = Hn ↔ 2 * r * A = 2 * Hn * A := ⟨fun q => by rw [q], fun q => by have := Nat.eq_of_mul_eq_mul_right hA q; omega⟩
  have c3 : m * B < 2 * (q * A) ↔ m * B * U < 2 * (q * A) * U := ⟨fun q => Nat.mul_lt_mul_of_pos_right q hU, fun q => Nat.lt_of_mul_lt_mul_right q⟩
  have c4 : 2 * (q * A) = m * B ↔ 2 * (q * A) * U = m * B * U := ⟨fun q => by rw [q], fun q => Nat.eq_of_mul_eq_mul_right hU q⟩
  rw [c1, c2, c3, c4]
  omega
/-- above: 2 (d + 1) 10^P against 2 V + t g -/
theorem st_up (h : stt K V g P0 R0 U H0) (n : Nat) (hK : 0 ≤ P0 - n + K) {m t : Nat} (hm : m = 2 * V + t * g) : (2 * ((10 ^ n * R0 / U + 1) * tA K (P0 - n)) < m * tB (P0 - n) ↔ U < 10 ^ n * R0 % U + t * (10 ^ n * H0)) ∧ (2 * ((10 ^ n * R0 / U + 1) * tA K (P0 - n)) = m * tB (P0 - n) ↔ U = 10 ^ n * R0 % U + t * (10 ^ n * H0)) := by
  obtain ⟨h1, h2⟩ := st_n h n hK
  have hU : 0 < U := by have := h.2.1; omega
  have hA := tA_pos K (P0 - n)
  have hdm := Nat.div_add_mod (10 ^ n * R0) U
  generalize 10 ^ n * R0 = X at *
  generalize 10 ^ n * H0 = Hn at *
  generalize tA K (P0 - n) = A at *
  generalize tB (P0 - n) = B at *
  generalize X / U = q at *
  generalize X % U = r at *
  have key : m * B * U + 2 * U * A = 2 * ((q + 1) * A) * U + 2 * (r + t * Hn) * A := by
    have e1 : m * B * U = 2 * (B * V * U) + t * (U * B * g) := by rw [hm]; grind
    rw [h1, ← hdm, ← h2] at e1
    rw [e1]
    grind
  have c1 : U < r + t * Hn ↔ 2 * U * A < 2 * (r + t * Hn) * A := ⟨fun q => Nat.mul_lt_mul_of_pos_right (by omega) hA, fun q => by have := Nat.lt_of_mul_lt_mul_right q; omega⟩
  have c2 : U = r + t * Hn ↔ 2 * U * A = 2 * (r + t * Hn) * A := ⟨fun q => by rw [q], fun q => by have := Nat.eq_of_mul_eq_mul_right hA q; omega⟩
  have c3 : 2 * ((q + 1) * A) < m * B ↔ 2 * ((q + 1) * A) * U < m * B * U := ⟨fun q => Nat.mul_lt_mul_of_pos_right q hU, fun q => Nat.lt_of_mul_lt_mul_right q⟩
  have c4 : 2 * ((q + 1) * A) = m * B ↔ 2 * ((q + 1) * A) * U = m * B * U := ⟨fun q => by rw [q], fun q => Nat.eq_of_mul_eq_mul_right hU q⟩
  rw [c1, c2, c3, c4]
  omega
/-- the middle: (2 d + 1) 10^P against 2 V -/
theorem st_md (h : stt K V g P0 R0 U H0) (n : Nat) (hK : 0 ≤ P0 - n + K) : (tB (P0 - n) * (2 * V) < (2 * (10 ^ n * R0 / U) + 1) * tA K (P0 - n) ↔ 2 * (10 ^ n * R0 % U) < U) ∧ ((2 * (10 ^ n * R0 / U) + 1) * tA K (P0 - n) = tB (P0 - n) * (2 * V) ↔ 2 * (10 ^ n * R0 % U) = U) := by
  obtain ⟨h1, h2⟩ := st_n h n hK
  have hU : 0 < U := by have := h.2.1; omega
  have hA := tA_pos K (P0 - n)
  have hdm := Nat.div_add_mod (10 ^ n * R0) U
  generalize 10 ^ n * R0 = X at *
  generalize tA K (P0 - n) = A at *
  generalize tB (P0 - n) = B at *
  generalize X / U = q at *
  generalize X % U = r at *
  have key : B * (2 * V) * U + U * A = (2 * q + 1) * A * U + 2 * r * A := by
    have e1 : B * (2 * V) * U = 2 * (B * V * U) := by grind
    rw [h1, ← hdm] at e1
    rw [e1]
    grind
  have c1 : 2 * r < U ↔ 2 * r * A < U * A := ⟨fun q => Nat.mul_lt_mul_of_pos_right (by omega) hA, fun q => Nat.lt_of_mul_lt_mul_right q⟩
  have c2 : 2 * r = U ↔ 2 * r * A = U * A := ⟨fun q => by rw [q], fun q => Nat.eq_of_mul_eq_mul_right hA q⟩
  have c3 : B * (2 * V) < (2 * q + 1) * A ↔ B * (2 * V) * U < (2 * q + 1) * A * U := ⟨fun q => Nat.mul_lt_mul_of_pos_right q hU, fun q => Nat.lt_of_mul_lt_mul_right q⟩
  have c4 : (2 * q + 1) * A = B * (2 * V) ↔ (2 * q + 1) * A * U = B * (2 * V) * U := ⟨fun q => by rw [q], fun q => Nat.eq_of_mul_eq_mul_right hU q⟩
  rw [c1, c2, c3, c4]
  omega
end Dig
/-- down and up fine after n digits; the digits that are written -/
def dnF (R0 U H0 : Nat) (ev : Bool) (n : Nat) : Prop := 10 ^ n * R0 % U < 10 ^ n * H0 ∨ (10 ^ n * R0 % U = 10 ^ n * H0 ∧ ev = true)
def upF (R0 U H0 t : Nat) (ev : Bool) (n : Nat) : Prop := U < 10 ^ n * R0 % U + t * (10 ^ n * H0) ∨ (U = 10 ^ n * R0 % U + t * (10 ^ n * H0) ∧ ev = true)
def mdF (R0 U n : Nat) : Prop := U < 2 * (10 ^ n * R0 % U) ∨ (2 * (10 ^ n * R0 % U) = U ∧ (10 ^ n * R0 / U) % 2 = 1)
/-- n digits are needed, and D is their number -/
def shR (R0 U H0 t : Nat) (ev : Bool) (n D : Nat) : Prop := 2 ≤ n ∧ (∀ j, 2 ≤ j → j < n → ¬ dnF R0 U H0 ev j ∧ ¬ upF R0 U H0 t ev j) ∧ (dnF R0 U H0 ev n ∨ upF R0 U H0 t ev n) ∧
  ((upF R0 U H0 t ev n ∧ (¬ dnF R0 U H0 ev n ∨ mdF R0 U n)) → D = 10 ^ n * R0 / U + 1) ∧ (¬ (upF R0 U H0 t ev n ∧ (¬ dnF R0 U H0 ev n ∨ mdF R0 U n)) → D = 10 ^ n * R0 / U)
theorem shR_eq {R0 U H0 t n D n' D' : Nat} {ev : Bool} (h : shR R0 U H0 t ev n D) (h' : shR R0 U H0 t ev n' D') : n = n' ∧ D = D' := by
  obtain ⟨a1, a2, a3, a4, a5⟩ := h
  obtain ⟨b1, b2, b3, b4, b5⟩ := h'
  have hn : n = n' := by
    rcases Nat.lt_trichotomy n n' with q | q | q
    · have := b2 n a1 q; rcases a3 with g | g; exact absurd g this.1; exact absurd g this.2
    · exact q
    · have := a2 n' b1 q; rcases b3 with g | g; exact absurd g this.1; exact absurd g this.2
  subst hn
  refine ⟨rfl, ?_⟩
  by_cases q : upF R0 U H0 t ev n ∧ (¬ dnF R0 U H0 ev n ∨ mdF R0 U n)
  · rw [a4 q, b4 q]
  · rw [a5 q, b5 q]
