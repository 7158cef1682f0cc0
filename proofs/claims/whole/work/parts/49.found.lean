-- the reference's found; values far out
theorem rdM_hi {f M E0 X B b : Nat} (hM : 0 < M) (hB : 0 < B) (hr : rdM f M E0 X B b) (h : pm_val f E0 (M * 2 ^ f) * B ≤ X) : M * 2 ^ f ≤ b := by
  obtain ⟨lm, m1, m2, m3, m4⟩ := hr
  have hG : 0 < M * 2 ^ f := Nat.mul_pos hM (Nat.two_pow_pos f)
  have hlm : lm = M * 2 ^ f - 1 := by
    rcases Nat.lt_or_ge lm (M * 2 ^ f - 1) with g | g
    · exfalso
      have := m4 g
      have := Nat.mul_le_mul_right B (pm_mono f E0 (show lm + 1 ≤ M * 2 ^ f by omega))
      omega
    · omega
  have e1 : lm + 1 = M * 2 ^ f := by omega
  rw [← e1] at h
  have hmid : pm_mid f E0 lm * B < 2 * (pm_val f E0 (lm + 1) * B) := by
    rw [pm_next]
    unfold pm_mid pm_val
    have hp : 0 < 2 ^ pm_exp f E0 lm * B := Nat.mul_pos (Nat.two_pow_pos _) hB
    have e : 2 * ((pm_man f lm * 2 ^ pm_exp f E0 lm + 2 ^ pm_exp f E0 lm) * B) = (2 * pm_man f lm + 1) * 2 ^ pm_exp f E0 lm * B + 2 ^ pm_exp f E0 lm * B := by
      generalize 2 ^ pm_exp f E0 lm = x
      grind
    omega
  rw [m1]
  unfold pm_near
  rw [if_pos (Or.inl (by omega))]
  omega
theorem rdM_lo {f M E0 X B b : Nat} (hM : 2 ≤ M) (hr : rdM f M E0 X B b) (h : 2 * X < 2 ^ E0 * B) : b = 0 := by
  obtain ⟨lm, m1, m2, m3, m4⟩ := hr
  obtain ⟨p0, p1, p2⟩ := pm_0 f E0
  have hG : 2 ≤ M * 2 ^ f := Nat.le_trans hM (Nat.le_mul_of_pos_right _ (Nat.two_pow_pos f))
  have hlm : lm = 0 := by
    rcases Nat.eq_zero_or_pos lm with g | g
    · exact g
    · exfalso
      have := Nat.mul_le_mul_right B (pm_mono f E0 (show 1 ≤ lm from g))
      rw [p1] at this
      omega
  subst hlm
  rw [m1]
  unfold pm_near
  rw [p2, if_neg (by omega)]
theorem pm_top {f M K : Nat} {lp : Int} (hM : 1 ≤ M) (hlp : 0 ≤ lp + K) : pm_val f (lp + K).toNat (M * 2 ^ f) = 2 ^ (f + (M - 1) + (lp + K).toNat) := by
  have h1 : M * 2 ^ f = (M - 1) * 2 ^ f + 2 ^ f := by
    obtain ⟨m, rfl⟩ : ∃ m, M = m + 1 := ⟨M - 1, by omega⟩
    rw [Nat.add_sub_cancel, Nat.add_mul, Nat.one_mul]
  rw [h1, pm_form f _ (M - 1) (2 ^ f) (Nat.pow_le_pow_right (by decide) (by omega)) (Or.inr (Nat.le_refl _)), ← Nat.pow_add, Nat.add_assoc]
theorem pm_topL {x : Int32} {f M K : Nat} {lp : Int} (h : fs x f lp M) (hK : 2000 ≤ K) : pm_val f (lp + K).toNat (M * 2 ^ f) ≤ 2 ^ (1024 + K) := by
  have hb := fs_b h
  rw [pm_top (by omega) (by omega)]
  apply Nat.pow_le_pow_right (by decide)
  rcases h with ⟨_, rfl, rfl, rfl⟩ | ⟨_, rfl, rfl, rfl⟩ <;> omega
theorem hex_hi {x : Int32} {f M K v z : Nat} {lp T : Int} (h : fs x f lp M) (hK : 3000000 ≤ K) (hv : 16 ^ (z - 1) ≤ v) (hz : 0 < z) (hT : -2000000 < T) (hf : 1100 < T + 4 * z) : pm_val f (lp + K).toNat (M * 2 ^ f) * 1 ≤ v * 2 ^ (T + K).toNat := by
  rw [Nat.mul_one]
  refine Nat.le_trans (pm_topL h (by omega)) ?_
  refine Nat.le_trans ?_ (Nat.mul_le_mul_right _ hv)
  rw [show (16 : Nat) = 2 ^ 4 from rfl, ← Nat.pow_mul, ← Nat.pow_add]
  exact Nat.pow_le_pow_right (by decide) (by omega)
theorem hex_lo {x : Int32} {f M K v z : Nat} {lp T : Int} (h : fs x f lp M) (hK : 3000000 ≤ K) (hv : v < 16 ^ z) (hT : -2000000 < T) (hf : T + 4 * z < -1200) : 2 * (v * 2 ^ (T + K).toNat) < 2 ^ (lp + K).toNat * 1 := by
  have hb := fs_b h
  rw [Nat.mul_one]
  have h1 : v * 2 ^ (T + K).toNat < 16 ^ z * 2 ^ (T + K).toNat := Nat.mul_lt_mul_of_pos_right hv (Nat.two_pow_pos _)
  have h2 : 2 * (16 ^ z * 2 ^ (T + K).toNat) ≤ 2 ^ (lp + K).toNat := by
    rw [show (16 : Nat) = 2 ^ 4 from rfl, ← Nat.pow_mul, ← Nat.pow_add, Nat.mul_comm, ← Nat.pow_succ]
    exact Nat.pow_le_pow_right (by decide) (by omega)
  omega
theorem dec_hi {x : Int32} {f M K v z : Nat} {lp T : Int} (h : fs x f lp M) (hK : 3000000 ≤ K) (hv : 10 ^ (z - 1) ≤ v) (hz : 0 < z) (hT : -2000000 < T) (hf : 310 < T + z) : pm_val f (lp + K).toNat (M * 2 ^ f) * 5 ^ (-T).toNat ≤ v * 5 ^ T.toNat * 2 ^ (T + K).toNat := by
  refine Nat.le_trans (Nat.mul_le_mul_right _ (pm_topL h (by omega))) ?_
  refine Nat.le_trans ?_ (Nat.mul_le_mul_right _ (Nat.mul_le_mul_right _ hv))
  obtain ⟨e, he⟩ : ∃ e : Nat, (e : Int) = T + z - 1 := ⟨(T + z - 1).toNat, by omega⟩
  have h1 : 10 ^ (z - 1) * 5 ^ T.toNat * 2 ^ (T + K).toNat = 5 ^ (-T).toNat * (10 ^ e * 2 ^ K) := by
    rw [show (10 : Nat) = 5 * 2 from rfl, Nat.mul_pow, Nat.mul_pow]
    have a1 : 5 ^ (z - 1) * 5 ^ T.toNat = 5 ^ (-T).toNat * 5 ^ e := by rw [← Nat.pow_add, ← Nat.pow_add]; congr 1; omega
    have a2 : 2 ^ (z - 1) * 2 ^ (T + K).toNat = 2 ^ e * 2 ^ K := by rw [← Nat.pow_add, ← Nat.pow_add]; congr 1; omega
    generalize 5 ^ (z - 1) = y1 at *
    generalize 2 ^ (z - 1) = y2 at *
    generalize 5 ^ T.toNat = y3 at *
    generalize 2 ^ (T + K).toNat = y4 at *
    generalize 5 ^ (-T).toNat = y5 at *
    generalize 5 ^ e = y6 at *
    generalize 2 ^ e = y7 at *
    generalize 2 ^ K = y8 at *
    grind
  rw [h1, Nat.mul_comm, Nat.pow_add]
  refine Nat.mul_le_mul_left _ (Nat.mul_le_mul_right _ ?_)
  have h2 : (10 : Nat) ^ 310 ≤ 10 ^ e := Nat.pow_le_pow_right (by decide) (by omega)
  have h3 : (2 : Nat) ^ 1024 ≤ 10 ^ 310 := by decide +kernel
  exact Nat.le_trans h3 h2
theorem dec_lo {x : Int32} {f M K v z : Nat} {lp T : Int} (h : fs x f lp M) (hK : 3000000 ≤ K) (hv : v < 10 ^ z) (hT : -2000000 < T) (hf : T + z < -330) : 2 * (v * 5 ^ T.toNat * 2 ^ (T + K).toNat) < 2 ^ (lp + K).toNat * 5 ^ (-T).toNat := by
  have hb := fs_b h
  obtain ⟨g, hg⟩ : ∃ g : Nat, (g : Int) = -(T + z) := ⟨(-(T + z)).toNat, by omega⟩
  have p1 : 0 < 5 ^ T.toNat := Nat.pow_pos (by decide)
  have p2 : 0 < 2 ^ (T + K).toNat := Nat.two_pow_pos _
  have h1 : v * 5 ^ T.toNat * 2 ^ (T + K).toNat < 10 ^ z * 5 ^ T.toNat * 2 ^ (T + K).toNat := Nat.mul_lt_mul_of_pos_right (Nat.mul_lt_mul_of_pos_right hv p1) p2
  have h2 : 10 ^ z * 5 ^ T.toNat * 2 ^ (T + K).toNat = 5 ^ (z + T.toNat) * 2 ^ (z + (T + K).toNat) := by
    rw [show (10 : Nat) = 5 * 2 from rfl, Nat.mul_pow, Nat.pow_add, Nat.pow_add]
    generalize 5 ^ z = y1
    generalize 2 ^ z = y2
    grind
  have e1 : (-T).toNat = (z + T.toNat) + g := by omega
  have h3 : 2 * (5 ^ (z + T.toNat) * 2 ^ (z + (T + K).toNat)) ≤ 2 ^ (lp + K).toNat * 5 ^ (-T).toNat := by
    rw [e1, Nat.pow_add 5 _ g]
    have h4 : (2 : Nat) ^ 1075 ≤ 10 ^ 331 := by decide +kernel
    have h5 : (10 : Nat) ^ 331 ≤ 10 ^ g := Nat.pow_le_pow_right (by decide) (by omega)
    have h6 : 2 ^ 1075 * 2 ^ (z + (T + K).toNat) ≤ 10 ^ g * 2 ^ (z + (T + K).toNat) := Nat.mul_le_mul_right _ (Nat.le_trans h4 h5)
    have h7 : 10 ^ g * 2 ^ (z + (T + K).toNat) = 5 ^ g * 2 ^ K := by
      rw [show (10 : Nat) = 5 * 2 from rfl, Nat.mul_pow, Nat.mul_assoc, ← Nat.pow_add]
      congr 2
      omega
    -- 2 * 2^(z+T+K) <= 2^(lp+K) * 5^g
    have h8 : 2 * 2 ^ (z + (T + K).toNat) ≤ 2 ^ (lp + K).toNat * 5 ^ g := by
      apply Nat.le_of_mul_le_mul_right _ (Nat.two_pow_pos 1074)
      have a1 : 2 * 2 ^ (z + (T + K).toNat) * 2 ^ 1074 = 2 ^ 1075 * 2 ^ (z + (T + K).toNat) := by
        rw [Nat.mul_assoc, Nat.mul_comm (2 ^ (z + (T + K).toNat)), ← Nat.mul_assoc, ← Nat.pow_succ']
      have a2 : 5 ^ g * 2 ^ K ≤ 2 ^ (lp + K).toNat * 5 ^ g * 2 ^ 1074 := by
        rw [Nat.mul_comm (2 ^ (lp + K).toNat), Nat.mul_assoc, ← Nat.pow_add]
        exact Nat.mul_le_mul_left _ (Nat.pow_le_pow_right (by decide) (by omega))
      rw [a1]
      omega
    have h9 := Nat.mul_le_mul_left (5 ^ (z + T.toNat)) h8
    generalize 5 ^ (z + T.toNat) = y1 at *
    generalize 2 ^ (z + (T + K).toNat) = y2 at *
    generalize 2 ^ (lp + K).toNat = y3 at *
    generalize 5 ^ g = y4 at *
    have b1 : 2 * (y1 * y2) = y1 * (2 * y2) := by grind
    have b2 : y3 * (y1 * y4) = y1 * (y3 * y4) := by grind
    omega
  omega
theorem iI_p {z : Int} (h : 0 ≤ z) : iI z = nI z.toNat := by
  rw [← iI_nat]
  congr 1
  omega
section Found
variable {fu : Nat} {x : Int32} {f M : Nat} {lp : Int}
theorem mod_found {h : Bool} {v K : Nat} {T : Int} {aM bM lM rM tw : Int32} {aa ba L R : Nat → Int32} (hf : fs x f lp M) (hfu : 3000 < fu) (hK : 10000 ≤ K) (ha : bm 520 v aM aa) (hT1 : -6100 < T) (hT2 : T < 1200)
    (hh : h = true → v < 2 ^ 4800) (hd : h = false → T ≤ 400 ∧ -1601 < T ∧ v < 2 ^ 4000 ∧ v * 5 ^ T.toNat < 2 ^ 4000) :
    ok (f_Mod_found fu 520 520 520 520 (hI h) x aM bM lM rM tw (iI T) aa ba L R) (fun u => ∃ b, u.1 = lN b ∧ rdM f M (lp + K).toNat (v * (if h then 1 else 5 ^ T.toNat) * 2 ^ (T + K).toNat) (if h then 1 else 5 ^ (-T).toNat) b) := by
  have hb := fs_b hf
  have hW : (65536 : Nat) ^ (520 - 1) = 2 ^ 8304 := by decide +kernel
  have hW5 : (65536 : Nat) ^ (520 - 5) = 2 ^ 8240 := by decide +kernel
  have t81 : ∀ (y av bv : Nat) (aM bM : Int32) (aa ba : Nat → Int32), bm 520 av aM aa → bm 520 bv bM ba → fits3 520 av bv T → ok (f_Mod_found_81 fu 520 520 520 520 (hI h) x (iI T) aM bM lM rM (iI T) aa ba L R) (fun u => ∃ b, u.1 = lN b ∧ rdM f M (lp + K).toNat (av * 2 ^ (T + K).toNat) bv b) := by
    intro y av bv aM bM aa ba h1 h2 h3
    unfold f_Mod_found_81
    refine ok_b (mod_near (K := K) hf (by decide) (by decide) (by omega) (by omega) h1 h2 h3 (by omega) (by omega)) (fun r hr => ok_s ?_)
    obtain ⟨low, l1, l2, l3, l4⟩ := hr
    exact ⟨_, l1, low, rfl, l2, l3, l4⟩
  unfold f_Mod_found
  refine ok_b (mod_set (m := 1) (by decide) (by decide) (by omega) (by decide)) (fun r1 hr1 => ?_)
  cases h with
  | true =>
    refine ok_f (by decide) ?_
    unfold f_Mod_found_50
    refine ok_f (by decide) ?_
    simp only [if_true, Nat.mul_one]
    have hv := hh rfl
    refine t81 0 v 1 _ _ _ _ ha hr1 ⟨by omega, by omega, by rw [hW5]; decide +kernel, ?_, ?_⟩
    · rw [hW, Nat.one_mul]
      exact Nat.pow_lt_pow_right (by decide) (by omega)
    · rw [hW]
      calc v * 2 ^ (T + 1100).toNat < 2 ^ 4800 * 2 ^ (T + 1100).toNat := Nat.mul_lt_mul_of_pos_right hv (Nat.two_pow_pos _)
        _ = 2 ^ (4800 + (T + 1100).toNat) := by rw [Nat.pow_add]
        _ ≤ 2 ^ 8304 := Nat.pow_le_pow_right (by decide) (by omega)
  | false =>
    obtain ⟨d1, d2, d3, d4⟩ := hd rfl
    refine ok_t rfl ?_
    simp only [Bool.false_eq_true, if_false]
    have hfit : ∀ av bv : Nat, av < 2 ^ 4000 → bv < 2 ^ 3800 → fits3 520 av bv T := by
      intro av bv g1 g2
      refine ⟨by omega, by omega, ?_, ?_, ?_⟩
      · rw [hW5]; exact Nat.lt_trans g2 (Nat.pow_lt_pow_right (by decide) (by decide))
      · rw [hW]
        calc bv * 2 ^ (64 + (1000 - T).toNat) < 2 ^ 3800 * 2 ^ (64 + (1000 - T).toNat) := Nat.mul_lt_mul_of_pos_right g2 (Nat.two_pow_pos _)
          _ = 2 ^ (3800 + (64 + (1000 - T).toNat)) := by rw [Nat.pow_add 2 3800]
          _ ≤ 2 ^ 8304 := Nat.pow_le_pow_right (by decide) (by omega)
      · rw [hW]
        calc av * 2 ^ (T + 1100).toNat < 2 ^ 4000 * 2 ^ (T + 1100).toNat := Nat.mul_lt_mul_of_pos_right g1 (Nat.two_pow_pos _)
          _ = 2 ^ (4000 + (T + 1100).toNat) := by rw [Nat.pow_add]
          _ ≤ 2 ^ 8304 := Nat.pow_le_pow_right (by decide) (by omega)
    have h5 : 5 ^ (-T).toNat < 2 ^ 3800 := by
      have a1 : (5 : Nat) ^ (-T).toNat ≤ 5 ^ 1600 := Nat.pow_le_pow_right (by decide) (by omega)
      have a2 : (5 : Nat) ^ 1600 < 2 ^ 3800 := by decide +kernel
      omega
    have hb1 : (2 : Nat) ^ 4000 ≤ 2 ^ 8304 := Nat.pow_le_pow_right (by decide) (by decide)
    have hb2 : (2 : Nat) ^ 3800 ≤ 2 ^ 8304 := Nat.pow_le_pow_right (by decide) (by decide)
    have h13800 : 1 < (2 : Nat) ^ 3800 := by decide +kernel
    refine ok_ii (iI_le (b := 0) (by omega) (by omega) (by omega) (by omega)) (fun q => ?_) (fun q => ?_)
    · have e0 : T.toNat = 0 := by omega
      rw [e0, Nat.pow_zero, Nat.mul_one]
      unfold f_Mod_found_50
      refine ok_t rfl (ok_ii (iI_le (a := 0) (by omega) (by omega) (by omega) (by omega)) (fun q2 => ?_) (fun q2 => ?_))
      · have e1 : (-T).toNat = 0 := by omega
        rw [e1, Nat.pow_zero]
        exact t81 0 v 1 _ _ _ _ ha hr1 (hfit v 1 d3 h13800)
      · rw [iI_neg, iI_p (z := -T) (by omega)]
        have hfv := mod_fives (fu := fu) (N := 520) (c := (-T).toNat) (by decide) (by decide) (by omega) (by omega) (by omega) hr1 (by rw [hW, Nat.one_mul]; omega)
        refine ok_b hfv (fun r2 hr2 => ?_)
        rw [Nat.one_mul] at hr2
        exact t81 0 v _ _ _ _ _ ha hr2 (hfit v _ d3 h5)
    · rw [iI_p (z := T) (by omega)] at *
      have hfv := mod_fives (fu := fu) (N := 520) (c := T.toNat) (by decide) (by decide) (by omega) (by omega) (by omega) ha (by rw [hW]; omega)
      refine ok_b hfv (fun r2 hr2 => ?_)
      unfold f_Mod_found_50
      refine ok_t rfl (ok_t (nI_pos' (by omega)) ?_)
      have e1 : (-T).toNat = 0 := by omega
      rw [e1, Nat.pow_zero]
      exact t81 0 _ 1 _ _ _ _ hr2 hr1 (hfit _ 1 d4 h13800)
end Found
