theorem and62 (a k : Nat) : a &&& 2 ^ k = if a.testBit k then 2 ^ k else 0 := by
  apply Nat.eq_of_testBit_eq
  intro i
  rw [Nat.testBit_and, Nat.testBit_two_pow]
  by_cases h : k = i
  · subst h
    cases h2 : a.testBit k
    · simp
    · simp [Nat.testBit_two_pow_self]
  · cases h2 : a.testBit k
    · simp [h]
    · simp [h, Nat.testBit_two_pow_of_ne h]
theorem fmt_near_9 {fu x lead : Nat} {x1 : Int64} {x3 x4 : Int32} {p : Int} (h0 : 0 < lead) : ∀ (d n i : Nat), i + d = 63 → d < n → lead * 2 ^ i < 2 ^ 63 → (i = 0 ∨ lead * 2 ^ (i - 1) < 2 ^ 62) →
    ∃ j : Nat, j ≤ 62 ∧ 2 ^ 62 ≤ lead * 2 ^ j ∧ lead * 2 ^ j < 2 ^ 63 ∧ (j = 0 ∨ lead * 2 ^ (j - 1) < 2 ^ 62) ∧ f_Fmt_nearest_9 fu x x1 x3 x4 n (lN (lead * 2 ^ i)) (iI (p - i)) (nI i) = f_Fmt_nearest_42 fu x x1 x3 x4 (lN (lead * 2 ^ j)) (iI (p - j))
  | d, 0, _, _, h, _, _ => by omega
  | 0, n + 1, i, hi, _, hlt, _ => by
    exfalso
    have : i = 63 := by omega
    subst this
    have := Nat.mul_le_mul_right (2 ^ 63) (show 1 ≤ lead from h0)
    omega
  | d + 1, n + 1, i, hi, hn, hlt, hpr => by
    have hbit : lN (lead * 2 ^ i) &&& 4611686018427387904 = lN (if 2 ^ 62 ≤ lead * 2 ^ i then 2 ^ 62 else 0) := by
      rw [show (4611686018427387904 : Int64) = lN (2 ^ 62) from rfl, wb_and (by omega) (by decide), and62, Nat.testBit_eq_decide_div_mod_eq]
      by_cases g : 2 ^ 62 ≤ lead * 2 ^ i
      · rw [if_pos g]
        have : lead * 2 ^ i / 2 ^ 62 = 1 := by omega
        rw [this]
        rfl
      · rw [if_neg g]
        have : lead * 2 ^ i / 2 ^ 62 = 0 := by omega
        rw [this]
        rfl
    rw [f_Fmt_nearest_9_s, if_neg (show ¬ 63 ≤ nI i from nI_ge (b := 63) (by omega) (by decide)), hbit]
    by_cases g : 2 ^ 62 ≤ lead * 2 ^ i
    · refine ⟨i, by omega, g, hlt, hpr, ?_⟩
      rw [if_pos g, if_neg]
      rw [lg_cmp_eq, show (0 : Int64) = lN 0 from rfl, pk_lEQ (by decide) (by decide)]
      decide
    · have e : lN (lead * 2 ^ i) <<< ((1 : Int32).toInt64 &&& 63) = lN (lead * 2 ^ (i + 1)) := by
        rw [show (1 : Int32) = nI 1 from rfl, wb_shl _ (by decide), Nat.pow_one, Nat.mul_assoc, ← Nat.pow_succ]
      have hlt2 : lead * 2 ^ (i + 1) < 2 ^ 63 := by rw [Nat.pow_succ, ← Nat.mul_assoc]; omega
      obtain ⟨j, j1, j2, j3, j4, j5⟩ := fmt_near_9 (fu := fu) (x := x) (x1 := x1) (x3 := x3) (x4 := x4) (p := p) h0 d n (i + 1) (by omega) (by omega) hlt2 (Or.inr (by rw [Nat.add_sub_cancel]; omega))
      refine ⟨j, j1, j2, j3, j4, ?_⟩
      rw [← j5, if_neg g, if_pos (by rw [lg_cmp_eq]; rfl)]
      show f_Fmt_nearest_9 fu x x1 x3 x4 n (lN (lead * 2 ^ i) <<< ((1 : Int32).toInt64 &&& 63)) _ _ = _
      rw [e, nI_1, show (-1 : Int32) = iI (-1) from rfl, iI_add]
      congr 2
      omega
/-- the class's nearest at lead * 2^p, or a little more -/
theorem fmt_near {fu x f M lead more : Nat} {lp p : Int} {K X B : Nat} (h : fm x f lp M) (hfu : 63 < fu) (hlp : 0 ≤ lp + K) (h0 : 0 < lead) (hl : lead < 2 ^ 63) (hp1 : -2 ^ 27 < p) (hp2 : p < 2 ^ 27) (hpK : 63 ≤ p + K) (hm : more ≤ 1) (hB : 0 < B) (hml : more = 1 → 2 ^ 53 ≤ lead)
    (h3 : more = 0 → X = lead * 2 ^ (p + K).toNat * B) (h1 : more = 1 → lead * 2 ^ (p + K).toNat * B < X) (h2 : more = 1 → X < (lead + 1) * 2 ^ (p + K).toNat * B) :
    ∃ low, pm_low f (lp + K).toNat X B low ∧ f_Fmt_nearest fu x (lN lead) (iI p) (nI more) = some (if pm_near f (lp + K).toNat X B low = 0 ∨ M * 2 ^ f ≤ pm_near f (lp + K).toNat X B low then -2 else lN (pm_near f (lp + K).toNat X B low)) := by
  obtain ⟨j, j1, j2, j3, j4, j5⟩ := fmt_near_9 (fu := fu) (x := x) (x1 := lN lead) (x3 := iI p) (x4 := nI more) (p := p) h0 63 fu 0 (by omega) (by omega) (by simpa using hl) (Or.inl rfl)
  rw [Nat.pow_zero, Nat.mul_one, show p - (0 : Nat) = p by omega] at j5
  unfold f_Fmt_nearest
  have e : f_Fmt_nearest_9 fu x (lN lead) (iI p) (nI more) fu (lN lead) (iI p) 0 = f_Fmt_nearest_9 fu x (lN lead) (iI p) (nI more) fu (lN lead) (iI p) (nI 0) := rfl
  rw [e, j5]
  have hE : 2 ^ (p + K).toNat = 2 ^ j * 2 ^ (p - j + K).toNat := by rw [← Nat.pow_add]; congr 1; omega
  have e1 : ∀ a, a * 2 ^ j * 2 ^ (p - j + K).toNat * B = a * 2 ^ (p + K).toNat * B := fun a => by rw [hE]; simp only [Nat.mul_assoc]
  have hj9 : more = 1 → j ≤ 9 := by
    intro g
    have a1 := hml g
    rcases j4 with q | q
    · omega
    · rcases Nat.lt_or_ge 9 j with q2 | q2
      · exfalso
        have a2 : 2 ^ 9 ≤ 2 ^ (j - 1) := Nat.pow_le_pow_right (by decide) (by omega)
        have a3 := Nat.mul_le_mul a1 a2
        have : (2 : Nat) ^ 53 * 2 ^ 9 = 2 ^ 62 := by decide
        omega
      · exact q2
  refine fmt_near_42 (w := if more = 1 then j else 0) (p0 := 0) h hlp j2 j3 (by omega) (by omega) (by omega) hm hB ?_ ?_ ?_ ?_ ?_
  · by_cases g : more = 1
    · rw [if_pos g]; exact hj9 g
    · rw [if_neg g]; omega
  · intro g
    rw [if_pos g]
    exact ⟨lead, Nat.mul_comm _ _⟩
  · intro g; rw [e1]; exact h3 g
  · intro g; rw [e1]; exact h1 g
  · intro g
    rw [if_pos g, show lead * 2 ^ j + 2 ^ j = (lead + 1) * 2 ^ j by rw [Nat.add_mul, Nat.one_mul], e1]
    exact h2 g
