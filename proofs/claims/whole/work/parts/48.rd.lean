-- what is read: the class's answer and the reference's bits
def rdC (f M E0 X B : Nat) (r : Int64) : Prop := ∃ low, pm_low f E0 X B low ∧ r = (if pm_near f E0 X B low = 0 ∨ M * 2 ^ f ≤ pm_near f E0 X B low then -2 else lN (pm_near f E0 X B low))
def rdM (f M E0 X B b : Nat) : Prop := ∃ low, b = pm_near f E0 X B low ∧ low ≤ M * 2 ^ f - 1 ∧ pm_val f E0 low * B ≤ X ∧ (low < M * 2 ^ f - 1 → X < pm_val f E0 (low + 1) * B)
theorem ratio_le {X B X' B' y : Nat} (h : X * B' = X' * B) (hB : 0 < B) (hB' : 0 < B') : y * B ≤ X ↔ y * B' ≤ X' := by
  constructor
  · intro q
    have := Nat.mul_le_mul_right B' q
    rw [h] at this
    apply Nat.le_of_mul_le_mul_right _ hB
    have e : y * B' * B = y * B * B' := by grind
    omega
  · intro q
    have := Nat.mul_le_mul_right B q
    rw [← h] at this
    apply Nat.le_of_mul_le_mul_right _ hB'
    have e : y * B' * B = y * B * B' := by grind
    omega
theorem ratio_2 {X B X' B' : Nat} (h : X * B' = X' * B) : 2 * X * B' = 2 * X' * B := by grind
theorem pm_low_ratio {f E0 X B X' B' b : Nat} (h : X * B' = X' * B) (hB : 0 < B) (hB' : 0 < B') : pm_low f E0 X B b ↔ pm_low f E0 X' B' b := by
  unfold pm_low
  have h1 := ratio_le (y := pm_val f E0 b) h hB hB'
  have h2 := ratio_le (y := pm_val f E0 (b + 1)) h hB hB'
  omega
theorem pm_near_ratio {f E0 X B X' B' b : Nat} (h : X * B' = X' * B) (hB : 0 < B) (hB' : 0 < B') : pm_near f E0 X B b = pm_near f E0 X' B' b := by
  unfold pm_near
  have h2 := ratio_2 h
  have h1 := ratio_le (y := pm_mid f E0 b) h2 hB hB'
  have h3 := ratio_le (y := pm_mid f E0 b) (X := 2 * X') (B := B') (X' := 2 * X) (B' := B) h2.symm hB' hB
  have h4 : pm_mid f E0 b * B = 2 * X ↔ pm_mid f E0 b * B' = 2 * X' := by
    constructor
    · intro q
      have a1 : pm_mid f E0 b * B * B' = 2 * X * B' := by rw [q]
      rw [h2] at a1
      apply Nat.eq_of_mul_eq_mul_right hB
      rw [← a1]
      grind
    · intro q
      have a1 : pm_mid f E0 b * B' * B = 2 * X' * B := by rw [q]
      rw [← h2] at a1
      apply Nat.eq_of_mul_eq_mul_right hB'
      rw [← a1]
      grind
  have h5 : (pm_mid f E0 b * B < 2 * X ∨ pm_mid f E0 b * B = 2 * X ∧ b % 2 = 1) ↔ (pm_mid f E0 b * B' < 2 * X' ∨ pm_mid f E0 b * B' = 2 * X' ∧ b % 2 = 1) := by omega
  by_cases q : pm_mid f E0 b * B < 2 * X ∨ pm_mid f E0 b * B = 2 * X ∧ b % 2 = 1
  · rw [if_pos q, if_pos (h5.mp q)]
  · rw [if_neg q, if_neg (fun g => q (h5.mpr g))]
theorem rdC_ratio {f M E0 X B X' B' : Nat} {r : Int64} (h : X * B' = X' * B) (hB : 0 < B) (hB' : 0 < B') (hr : rdC f M E0 X B r) : rdC f M E0 X' B' r := by
  obtain ⟨low, h1, h2⟩ := hr
  refine ⟨low, (pm_low_ratio h hB hB').mp h1, ?_⟩
  rw [← pm_near_ratio h hB hB']
  exact h2
theorem pm_near_ge (f E0 X B b : Nat) : b ≤ pm_near f E0 X B b ∧ pm_near f E0 X B b ≤ b + 1 := by
  unfold pm_near
  split <;> omega
theorem rdC_hi {f M E0 X B : Nat} {r : Int64} (hr : rdC f M E0 X B r) (h : pm_val f E0 (M * 2 ^ f) * B ≤ X) : r = -2 := by
  obtain ⟨low, h1, h2⟩ := hr
  have hn := pm_near_ge f E0 X B low
  have hl : M * 2 ^ f ≤ low := by
    rcases Nat.lt_or_ge low (M * 2 ^ f) with q | q
    · have := Nat.mul_le_mul_right B (pm_mono f E0 (show low + 1 ≤ M * 2 ^ f from q))
      have := h1.2
      omega
    · exact q
  rw [h2, if_pos (Or.inr (by omega))]
theorem pm_0 (f E0 : Nat) : pm_val f E0 0 = 0 ∧ pm_val f E0 1 = 2 ^ E0 ∧ pm_mid f E0 0 = 2 ^ E0 := by
  have hp := Nat.two_pow_pos f
  have v0 := pm_form f E0 0 0 (Nat.zero_le _) (Or.inl rfl)
  have v1 := pm_form f E0 0 1 (by rw [Nat.pow_succ]; omega) (Or.inl rfl)
  have m0 := pm_form2 (f := f) (E0 := E0) (s := 0) (k := 0) (Nat.two_pow_pos _) (Or.inl rfl)
  simp only [Nat.zero_mul, Nat.zero_add, Nat.add_zero, Nat.one_mul] at v0 v1 m0
  refine ⟨v0, v1, ?_⟩
  unfold pm_mid
  rw [m0.1, m0.2]
  simp
theorem rdC_lo {f M E0 X B : Nat} {r : Int64} (hr : rdC f M E0 X B r) (h : 2 * X < 2 ^ E0 * B) : r = -2 := by
  obtain ⟨low, h1, h2⟩ := hr
  obtain ⟨p0, p1, p2⟩ := pm_0 f E0
  have hl0 : pm_low f E0 X B 0 := ⟨by rw [p0]; omega, by rw [Nat.zero_add, p1]; omega⟩
  have := pm_low_eq h1 hl0
  subst this
  have hn : pm_near f E0 X B 0 = 0 := by
    unfold pm_near
    rw [p2, if_neg (by omega)]
  rw [h2, if_pos (Or.inl hn)]
theorem rdCM {f M E0 X B b : Nat} {r : Int64} (hM : 0 < M) (hB : 0 < B) (hC : rdC f M E0 X B r) (hm : rdM f M E0 X B b) : b ≤ M * 2 ^ f ∧ r = (if b = 0 ∨ M * 2 ^ f ≤ b then -2 else lN b) := by
  obtain ⟨low, h1, h2⟩ := hC
  obtain ⟨lm, m1, m2, m3, m4⟩ := hm
  have hG : 0 < M * 2 ^ f := Nat.mul_pos hM (Nat.two_pow_pos f)
  have hbm := pm_near_ge f E0 X B lm
  refine ⟨by omega, ?_⟩
  rcases Nat.lt_or_ge low (M * 2 ^ f) with q | q
  · have he : lm = low := by
      rcases Nat.lt_or_ge lm (M * 2 ^ f - 1) with g | g
      · exact pm_low_eq ⟨m3, m4 g⟩ h1
      · have hlm : lm = M * 2 ^ f - 1 := by omega
        rcases Nat.lt_or_ge low lm with g2 | g2
        · exfalso
          have := Nat.mul_le_mul_right B (pm_mono f E0 (show low + 1 ≤ lm from g2))
          have := h1.2
          omega
        · omega
    rw [he] at m1
    rw [m1, h2]
  · have hlm : lm = M * 2 ^ f - 1 := by
      rcases Nat.lt_or_ge lm (M * 2 ^ f - 1) with g | g
      · exfalso
        have := m4 g
        have := Nat.mul_le_mul_right B (pm_mono f E0 (show lm + 1 ≤ low by omega))
        have := h1.1
        omega
      · omega
    have hb : b = M * 2 ^ f := by
      have hval : pm_val f E0 (lm + 1) * B ≤ X := by
        have := Nat.mul_le_mul_right B (pm_mono f E0 (show lm + 1 ≤ low by omega))
        have := h1.1
        omega
      have hmid : pm_mid f E0 lm * B < 2 * (pm_val f E0 (lm + 1) * B) := by
        rw [pm_next]
        unfold pm_mid pm_val
        have hp : 0 < 2 ^ pm_exp f E0 lm * B := Nat.mul_pos (Nat.two_pow_pos _) hB
        have e : 2 * ((pm_man f lm * 2 ^ pm_exp f E0 lm + 2 ^ pm_exp f E0 lm) * B) = (2 * pm_man f lm + 1) * 2 ^ pm_exp f E0 lm * B + 2 ^ pm_exp f E0 lm * B := by
          generalize 2 ^ pm_exp f E0 lm = x
          grind
        omega
      rw [m1]
      unfold pm_near
      rw [if_pos (Or.inl (by omega))]
      omega
    have hn := pm_near_ge f E0 X B low
    rw [h2, if_pos (Or.inr (by omega)), if_pos (Or.inr (by omega))]
/-! hexadecimal -/
theorem hex_27 {fu D x w : Nat} {fr ex : Int32} {arr : Nat → Int32} {p0 : Int} {Q : Int64 → Prop} (hw : w ≤ D) (hD2 : D < 2 ^ 31) (hd : ∀ i, i < w → un (arr i) < 16)
    (kk : ∀ lead k r : Nat, k ≤ w → dgv 16 arr w = lead * 16 ^ k + r → r < 16 ^ k → lead < 2 ^ 63 → (0 < k → 2 ^ 59 ≤ lead) → ok (f_Fmt_nearest fu x (lN lead) (iI (p0 + 4 * k)) (nI (if r = 0 then 0 else 1))) Q) :
    ∀ (d m i lead k r : Nat), i + d = w → d < m → k ≤ i → dgv 16 arr i = lead * 16 ^ k + r → r < 16 ^ k → lead < 2 ^ 63 → (0 < k → 2 ^ 59 ≤ lead) →
    ok (f_RT_bitsOfHex_27 fu D x (nI w) fr ex arr m (lN lead) (iI (p0 + 4 * k)) (nI (if r = 0 then 0 else 1)) (nI i)) Q
  | d, 0, _, _, _, _, _, q, _, _, _, _, _ => by omega
  | 0, m + 1, i, lead, k, r, hi, _, hk, hv, hr, hl, hkl => by
    have hie : i = w := by omega
    subst hie
    rw [f_RT_bitsOfHex_27_s]
    refine ok_t (nI_le (Nat.le_refl _) (by omega)) ?_
    exact ok_b (kk lead k r hk hv hr hl hkl) (fun v hv => ok_s hv)
  | d + 1, m + 1, i, lead, k, r, hi, hm, hk, hv, hr, hl, hkl => by
    have hu := hd i (by omega)
    rw [f_RT_bitsOfHex_27_s]
    refine ok_f (nI_ge (by omega) (by omega)) (ok_t (in_N (by omega) hD2) ?_)
    rw [nI_clamp (by omega)]
    refine ok_l ?_
    rw [show (59 : Int32) = nI 59 from rfl, wb_shr (by omega) (by decide), nI_1]
    have hdv : dgv 16 arr (i + 1) = dgv 16 arr i * 16 + un (arr i) := rfl
    refine ok_ii ((lg_cmp_eq _ _).trans (pk_lEQ (b := 0) (by omega) (by decide))) (fun q => ?_) (fun q => ?_)
    · have hk0 : k = 0 := by
        rcases Nat.eq_zero_or_pos k with g | g
        · exact g
        · have := hkl g; omega
      subst hk0
      have hr0 : r = 0 := by simp at hr; exact hr
      subst hr0
      rw [show (4 : Int32) = nI 4 from rfl, wb_shl _ (by decide), un_l (by omega), g_or (k := 4) (p := 2 ^ 4) rfl hu (by omega)]
      refine ok_l (hex_27 hw hD2 hd kk d m (i + 1) _ 0 0 (by omega) (by omega) (by omega) ?_ hr (by omega) (fun g => by omega))
      rw [hdv, hv]
      simp
    · have e4 : iI (p0 + 4 * k) + 4 = iI (p0 + 4 * (k + 1 : Nat)) := by
        rw [show (4 : Int32) = iI 4 from rfl, iI_add]
        congr 1
        omega
      rw [e4]
      have hv2 : dgv 16 arr (i + 1) = lead * 16 ^ (k + 1) + (r * 16 + un (arr i)) := by
        rw [hdv, hv, Nat.pow_succ]
        generalize 16 ^ k = y
        grind
      have hr2 : r * 16 + un (arr i) < 16 ^ (k + 1) := by rw [Nat.pow_succ]; omega
      have next := hex_27 (fr := fr) (ex := ex) hw hD2 hd kk d m (i + 1) lead (k + 1) (r * 16 + un (arr i)) (by omega) (by omega) (by omega) hv2 hr2 hl (fun _ => by omega)
      by_cases g : r = 0
      · rw [if_pos g]
        refine ok_t rfl ?_
        by_cases g2 : arr i = 0
        · have hu0 : un (arr i) = 0 := by rw [g2]; rfl
          rw [if_pos (by omega)] at next
          exact ok_t g2 next
        · have hu0 : ¬ un (arr i) = 0 := fun q2 => g2 ((un_z _).mpr q2)
          rw [if_neg (by omega)] at next
          refine ok_f g2 ?_
          unfold f_RT_bitsOfHex_84
          rw [nI_1]
          exact next
      · rw [if_neg g]
        rw [if_neg (by omega)] at next
        refine ok_f (by decide) ?_
        unfold f_RT_bitsOfHex_84
        rw [nI_1]
        exact next
theorem hex_c {fu D x f M w : Nat} {lp : Int} {arr : Nat → Int32} {F ce : Int} {K : Nat} (h : fm x f lp M) (hfu : 1300 < fu) (hw : w ≤ D) (hw2 : w ≤ 1200) (hD2 : D < 2 ^ 31) (hd : ∀ i, i < w → un (arr i) < 16) (h0 : 0 < dgv 16 arr w) (hF1 : -2000 ≤ F) (hF2 : F ≤ 2000) (hc1 : -1000000 ≤ ce) (hc2 : ce ≤ 1000000) (hK : 3000000 ≤ K) :
    ok (f_RT_bitsOfHex fu D x (nI w) (iI F) (iI ce) arr) (rdC f M (lp + K).toNat (dgv 16 arr w * 2 ^ (ce - 4 * F + K).toNat) 1) := by
  have hb := fm_b h
  unfold f_RT_bitsOfHex
  have e : iI ce - 4 * iI F = iI (ce - 4 * F) := by
    rw [show (4 : Int32) = iI 4 from rfl, iI_mul, iI_sub]
  rw [e]
  refine ok_l ?_
  have := hex_27 (fu := fu) (D := D) (x := x) (fr := iI F) (ex := iI ce) (p0 := ce - 4 * F) (Q := rdC f M (lp + K).toNat (dgv 16 arr w * 2 ^ (ce - 4 * F + K).toNat) 1) hw hD2 hd ?_ w fu 0 0 0 0 (by omega) (by omega) (by omega) (by simp [dgv]) (by decide) (by decide) (fun g => by omega)
  · simp only [if_pos] at this
    rw [show ce - 4 * F + 4 * ((0 : Nat) : Int) = ce - 4 * F by omega] at this
    exact this
  · intro lead k r hk hv hr hl hkl
    have hpe : (ce - 4 * F + 4 * k + K).toNat = (ce - 4 * F + K).toNat + 4 * k := by omega
    have hx : 2 ^ (ce - 4 * F + 4 * k + K).toNat = 16 ^ k * 2 ^ (ce - 4 * F + K).toNat := by
      rw [hpe, Nat.pow_add, Nat.pow_mul, Nat.mul_comm]
    have hl0 : 0 < lead := by
      rcases Nat.eq_zero_or_pos k with g | g
      · subst g
        simp at hr
        subst hr
        simp at hv
        omega
      · have := hkl g; omega
    have hG := Nat.two_pow_pos (ce - 4 * F + K).toNat
    have hnr := fmt_near (fu := fu) (lead := lead) (more := if r = 0 then 0 else 1) (p := ce - 4 * F + 4 * k) (K := K) (X := dgv 16 arr w * 2 ^ (ce - 4 * F + K).toNat) (B := 1) h (by omega) (by omega) hl0 hl (by omega) (by omega) (by omega) (by split <;> omega) (by decide) ?_ ?_ ?_ ?_
    · obtain ⟨low, n1, n2⟩ := hnr
      rw [n2]
      exact ok_s ⟨low, n1, rfl⟩
    · intro g
      rcases Nat.eq_zero_or_pos k with g2 | g2
      · subst g2; simp at hr; subst hr; simp at g
      · have := hkl g2; omega
    · intro g
      have hr0 : r = 0 := by
        by_cases q : r = 0
        · exact q
        · rw [if_neg q] at g; omega
      rw [hv, hr0, hx, Nat.add_zero, Nat.mul_one]
      grind
    · intro g
      have hr0 : 0 < r := by
        by_cases q : r = 0
        · rw [if_pos q] at g; omega
        · omega
      rw [hv, hx, Nat.mul_one, ← Nat.mul_assoc]
      exact Nat.mul_lt_mul_of_pos_right (by omega) hG
    · intro g
      rw [hv, hx, Nat.mul_one, ← Nat.mul_assoc]
      refine Nat.mul_lt_mul_of_pos_right ?_ hG
      rw [Nat.add_mul, Nat.one_mul]
      omega
