-- the class's Decimal: set, putOn
theorem mat_min_i {a b : Int} (h1 : -2 ^ 31 ≤ a) (h2 : a < 2 ^ 31) (h3 : -2 ^ 31 ≤ b) (h4 : b < 2 ^ 31) : f_Mat_min (iI a) (iI b) = some (iI (min a b)) := by
  unfold f_Mat_min
  by_cases q : b < a
  · rw [if_pos ((iI_lt h3 h4 h1 h2).mpr q), Int.min_eq_right (by omega)]
  · rw [if_neg (fun g => q ((iI_lt h3 h4 h1 h2).mp g)), Int.min_eq_left (by omega)]
theorem mat_max_i {a b : Int} (h1 : -2 ^ 31 ≤ a) (h2 : a < 2 ^ 31) (h3 : -2 ^ 31 ≤ b) (h4 : b < 2 ^ 31) : f_Mat_max (iI a) (iI b) = some (iI (max a b)) := by
  unfold f_Mat_max
  by_cases q : a < b
  · rw [if_pos ((iI_lt h1 h2 h3 h4).mpr q), Int.max_eq_right (by omega)]
  · rw [if_neg (fun g => q ((iI_lt h1 h2 h3 h4).mp g)), Int.max_eq_left (by omega)]
/-- the letters of the digits D (w of them), the point behind pt of them -/
def dcl (D w : Nat) (pt : Int) : List Nat :=
  if pt < -2 ∨ 7 < pt then dgs D w 0 1 ++ ([46] ++ (dgs D w 1 (max w 2 - 1) ++ ([69] ++ ((if pt - 1 < 0 then [45] else []) ++ expo (pt - 1).natAbs))))
  else dgs D w (min (pt - 1) 0) (pt - min (pt - 1) 0).toNat ++ ([46] ++ dgs D w pt (max (w : Int) (pt + 1) - pt).toNat)
section DecPut
variable {fu N D w : Nat} {rev : Nat → Int32} {pt : Int}
theorem dec_put_18 {l : List Nat} {k : Int32} {a : Nat → Int32} (hfu : 100 < fu) (hw : w ≤ 18) (hN : N < 2 ^ 31) (hr : ∀ i, i < w → rev i = nI (D / 10 ^ i % 10)) (h1 : -900 ≤ pt) (h2 : pt ≤ 900) (hl : tl l k a) (hb : l.length + 24 ≤ N) :
    ok (f_Dec_putOn_18 fu 20 N (nI w) (iI pt) rev k a) (fun r => tl (l ++ (dgs D w 0 1 ++ ([46] ++ (dgs D w 1 (max w 2 - 1) ++ ([69] ++ ((if pt - 1 < 0 then [45] else []) ++ expo (pt - 1).natAbs)))))) r.1 r.2) := by
  unfold f_Dec_putOn_18
  refine ok_b (dec_digits (lo := 0) (to := 1) (d := 1) hfu (by omega) hN hr (by decide) (by decide) (by decide) (by decide) hl (by omega)) (fun v1 hv1 => ?_)
  refine ok_b (row_put (c := 46) hv1 (by decide) (by simp only [List.length_append, dgs_len]; omega) hN) (fun v2 hv2 => ?_)
  refine ok_be (big_max (l := 2) (by omega) (by decide)) ?_
  have hm : ((1 : Int) + (max w 2 - 1 : Nat)) = ((max w 2 : Nat) : Int) := by omega
  have hd := dec_digits (lo := 1) (to := ((max w 2 : Nat) : Int)) (d := max w 2 - 1) hfu (by omega) hN hr (by omega) hm (by omega) (by decide) hv2 (by simp only [List.length_append, dgs_len, List.length_singleton]; omega)
  rw [iI_nat] at hd
  refine ok_b hd (fun v4 hv4 => ?_)
  refine ok_b (row_put (c := 69) hv4 (by decide) (by simp only [List.length_append, dgs_len, List.length_singleton]; omega) hN) (fun v5 hv5 => ?_)
  rw [show (1 : Int32) = iI 1 from rfl, iI_sub]
  refine ok_b (dec_exp hfu hN (by omega) (by omega) hv5 (by simp only [List.length_append, dgs_len, List.length_singleton]; omega)) (fun v6 hv6 => ok_s ?_)
  simp only [List.append_assoc] at hv6 ⊢
  exact hv6
theorem dec_put {l : List Nat} {k : Int32} {a : Nat → Int32} (hfu : 100 < fu) (hw : w ≤ 18) (hw0 : 0 < w) (hN : N < 2 ^ 31) (hr : ∀ i, i < w → rev i = nI (D / 10 ^ i % 10)) (h1 : -900 ≤ pt) (h2 : pt ≤ 900) (hl : tl l k a) (hb : l.length + 24 ≤ N) :
    ok (f_Dec_putOn fu 20 N (nI w) (iI pt) rev k a) (fun r => tl (l ++ dcl D w pt) r.1 r.2) := by
  unfold f_Dec_putOn dcl
  refine ok_ii (iI_lt (b := -2) (by omega) (by omega) (by decide) (by decide)) (fun g => ?_) (fun g => ?_)
  · rw [if_pos (Or.inl g)]
    exact dec_put_18 hfu hw hN hr h1 h2 hl hb
  · refine ok_ii (iI_le (b := 7) (by omega) (by omega) (by decide) (by decide)) (fun g2 => ?_) (fun g2 => ?_)
    · rw [if_neg (by omega), show (1 : Int32) = iI 1 from rfl, iI_sub, iI_add]
      refine ok_be (mat_min_i (b := 0) (by omega) (by omega) (by decide) (by decide)) ?_
      refine ok_b (dec_digits (lo := min (pt - 1) 0) (to := pt) (d := (pt - min (pt - 1) 0).toNat) hfu (by omega) hN hr (by omega) (by omega) (by omega) (by omega) hl (by omega)) (fun v1 hv1 => ?_)
      refine ok_b (row_put (c := 46) hv1 (by decide) (by simp only [List.length_append, dgs_len]; omega) hN) (fun v2 hv2 => ?_)
      rw [← iI_nat]
      refine ok_be (mat_max_i (by omega) (by omega) (by omega) (by omega)) ?_
      rw [iI_nat]
      refine ok_b (dec_digits (lo := pt) (to := max (w : Int) (pt + 1)) (d := (max (w : Int) (pt + 1) - pt).toNat) hfu (by omega) hN hr (by omega) (by omega) (by omega) (by omega) hv2 (by simp only [List.length_append, dgs_len, List.length_singleton]; omega)) (fun v3 hv3 => ok_s ?_)
      simp only [List.append_assoc] at hv3 ⊢
      exact hv3
    · rw [if_pos (by omega)]
      exact dec_put_18 hfu hw hN hr h1 h2 hl hb
theorem byte_d : ∀ d, d < 10 → vp_nar .byte (nI d).toInt8.toInt32 = nI d := by decide
theorem l_rem10 {y : Nat} (h : y < 2 ^ 63) : lN y - lN y / 10 * 10 = lN (y % 10) := pk_lRem (b := 10) h (by decide) (by decide)
theorem l_div10 {y : Nat} (h : y < 2 ^ 63) : lN y / 10 = lN (y / 10) := pk_lDiv (b := 10) h (by decide) (by decide)
/-- D has w digits, and its last isn't 0 -/
def dig (D w : Nat) : Prop := 0 < w ∧ 10 ^ (w - 1) ≤ D ∧ D < 10 ^ w ∧ ¬ D % 10 = 0
theorem dig_div {k : Nat} (h : dig D w) (hk : k < w) : 0 < D / 10 ^ k := by
  apply Nat.div_pos _ (Nat.pow_pos (by decide))
  exact Nat.le_trans (Nat.pow_le_pow_right (by decide) (by omega)) h.2.1
theorem dec_set_2 {x1 : Int64} {x3 : Int32} {z : Nat} {P : Int} (hd : dig D w) (hzw : z + w ≤ 19) (hD : D < 2 ^ 63) :
    ∀ (d m k : Nat) (rv : Nat → Int32), k + d = w → d < m → (∀ i, i < k → rv i = nI (D / 10 ^ i % 10)) →
    ok (f_Dec_set_16 fu 20 x1 x3 m (lN (D / 10 ^ k)) (nI (z + k)) (nI k) (iI (P + z + k)) rv) (fun r => r.1 = nI w ∧ r.2.1 = iI (P + z + w) ∧ ∀ i, i < w → r.2.2 i = nI (D / 10 ^ i % 10))
  | d, 0, _, _, _, h, _ => by omega
  | 0, m + 1, k, rv, hk, _, hr => by
    have e : k = w := by omega
    subst e
    rw [f_Dec_set_16_s, Nat.div_eq_of_lt hd.2.2.1]
    refine ok_if (fun _ => ok_s ⟨rfl, rfl, hr⟩) (fun _ => ?_)
    exact ok_t (by decide) (ok_s ⟨rfl, rfl, hr⟩)
  | d + 1, m + 1, k, rv, hk, hm, hr => by
    have hp := dig_div hd (k := k) (by omega)
    have hle : D / 10 ^ k ≤ D := Nat.div_le_self _ _
    have e1 : D / 10 ^ k / 10 = D / 10 ^ (k + 1) := by rw [Nat.div_div_eq_div_mul, Nat.pow_succ]
    rw [f_Dec_set_16_s]
    refine ok_f (by rw [show (20 : Int32) = nI 20 from rfl, nI_leI (by decide) (by omega)]; omega) ?_
    refine ok_ii ((lg_cmp_le _ _).trans (pk_lLE (b := 0) (by omega) (by decide))) (fun g => by omega) (fun g => ?_)
    rw [l_rem10 (by omega), l_div10 (by omega), lN_i, e1]
    refine ok_l (ok_l ?_)
    have eP : iI (P + z + k) + 1 = iI (P + z + (k + 1 : Nat)) := by
      rw [show (1 : Int32) = iI 1 from rfl, iI_add]
      congr 1
      omega
    rw [eP]
    have t69 : ok (f_Dec_set_69 fu 20 x1 x3 (f_Dec_set_16 fu 20 x1 x3 m) (lN (D / 10 ^ (k + 1))) (nI (z + k)) (nI (D / 10 ^ k % 10)) (nI k) (iI (P + z + (k + 1 : Nat))) rv) (fun r => r.1 = nI w ∧ r.2.1 = iI (P + z + w) ∧ ∀ i, i < w → r.2.2 i = nI (D / 10 ^ i % 10)) := by
      unfold f_Dec_set_69
      rw [if_pos (in_N (by omega) (by decide)), nI_clamp (by omega), byte_d _ (by omega), nI_1, nI_1]
      refine dec_set_2 hd hzw hD d m (k + 1) _ (by omega) (by omega) (fun i hi => ?_)
      by_cases q : i = k
      · subst q; rw [pk_us]
      · rw [pk_un q, hr i (by omega)]
    refine ok_ii (nI_eq (b := 0) (by omega) (by decide)) (fun g2 => ?_) (fun g2 => t69)
    refine ok_ii (nI_leI (b := 0) (by omega) (by decide)) (fun g3 => ?_) (fun g3 => t69)
    have e0 : k = 0 := by omega
    subst e0
    rw [Nat.pow_zero, Nat.div_one] at g2
    exact absurd g2 hd.2.2.2
theorem dec_set_1 {x1 : Int64} {x3 : Int32} {z : Nat} {P : Int} (hd : dig D w) (hzw : z + w ≤ 19) (hD : D * 10 ^ z < 2 ^ 63) :
    ∀ (c m i : Nat) (rv : Nat → Int32), c + i = z → c + w < m →
    ok (f_Dec_set_16 fu 20 x1 x3 m (lN (D * 10 ^ c)) (nI i) (nI 0) (iI (P + i)) rv) (fun r => r.1 = nI w ∧ r.2.1 = iI (P + z + w) ∧ ∀ i, i < w → r.2.2 i = nI (D / 10 ^ i % 10))
  | c, 0, _, _, _, h => by omega
  | 0, m + 1, i, rv, hi, hm => by
    have e : i = z := by omega
    subst e
    have hD2 : D < 2 ^ 63 := Nat.lt_of_le_of_lt (Nat.le_mul_of_pos_right _ (Nat.pow_pos (by decide))) hD
    have := dec_set_2 (fu := fu) (x1 := x1) (x3 := x3) (P := P) hd hzw hD2 w (m + 1) 0 rv (by omega) (by omega) (fun i hi => by omega)
    rw [Nat.pow_zero, Nat.div_one, Nat.add_zero, show P + (i : Int) + ((0 : Nat) : Int) = P + i by omega] at this
    rw [Nat.pow_zero, Nat.mul_one]
    exact this
  | c + 1, m + 1, i, rv, hi, hm => by
    have hle : D * 10 ^ (c + 1) ≤ D * 10 ^ z := Nat.mul_le_mul_left _ (Nat.pow_le_pow_right (by decide) (by omega))
    have h0 : 0 < D * 10 ^ (c + 1) := Nat.mul_pos (by have := hd.2.2.2; rcases Nat.eq_zero_or_pos D with q | q; subst q; exact absurd rfl this; exact q) (Nat.pow_pos (by decide))
    have e10 : D * 10 ^ (c + 1) = D * 10 ^ c * 10 := by rw [Nat.pow_succ, Nat.mul_assoc]
    rw [f_Dec_set_16_s]
    refine ok_f (by rw [show (20 : Int32) = nI 20 from rfl, nI_leI (by decide) (by omega)]; omega) ?_
    refine ok_ii ((lg_cmp_le _ _).trans (pk_lLE (b := 0) (by omega) (by decide))) (fun g => by omega) (fun g => ?_)
    rw [l_rem10 (by omega), l_div10 (by omega), lN_i, e10, Nat.mul_mod_left, Nat.mul_div_cancel _ (by decide)]
    refine ok_l (ok_l ?_)
    refine ok_t rfl (ok_t (by decide) ?_)
    have eP : iI (P + i) + 1 = iI (P + (i + 1 : Nat)) := by
      rw [show (1 : Int32) = iI 1 from rfl, iI_add]
      congr 1
      omega
    rw [eP, nI_1]
    exact dec_set_1 hd hzw hD c m (i + 1) rv (by omega) (by omega)
theorem dec_set {z : Nat} {P : Int} {dc p0 : Int32} {rv : Nat → Int32} (hfu : 100 < fu) (hd : dig D w) (hzw : z + w ≤ 19) (hD : D * 10 ^ z < 2 ^ 63) :
    ok (f_Dec_set fu 20 (lN (D * 10 ^ z)) (iI P) dc p0 rv) (fun r => r.1 = nI w ∧ r.2.1 = iI (P + z + w) ∧ ∀ i, i < w → r.2.2 i = nI (D / 10 ^ i % 10)) := by
  unfold f_Dec_set
  have := dec_set_1 (fu := fu) (x1 := lN (D * 10 ^ z)) (x3 := iI P) (P := P) hd hzw hD z fu 0 rv (by omega) (by omega)
  rw [show P + ((0 : Nat) : Int) = P by omega, nI_0] at this
  exact this
end DecPut
