-- the law answers 1
theorem lg0 {x y : Int64} (h : x = y) : lg_cmp x y = 0 := (lg_cmp_eq x y).mpr h
set_option maxHeartbeats 4000000 in
theorem law_23 {fu L : Nat} {xs : Nat → Int32} (hL : L ≤ 2048) (hfu : 6000 < fu) : ∀ (n i : Nat) {w1_readCount : Int32} {w1_noLiteralCount : Int32} {w1_outOfRangeCount : Int32} {w1_theText_start : Int32} {w1_theText_end : Int32} {w1_theText_letters_a : (Nat → Int32)} {w1_written_start : Int32} {w1_written_end : Int32} {w1_written_letters_a : (Nat → Int32)} {w1_literal_digitCount : Int32} {w1_literal_fraction : Int32} {w1_literal_exponent : Int32} {w1_literal_isHex : Int32} {w1_literal_digits_a : (Nat → Int32)} {w1_quotient_lead : Int64} {w1_quotient_power : Int32} {w1_quotient_more : Int32} {w1_quotient_numerator_size : Int32} {w1_quotient_numerator_limbs_a : (Nat → Int32)} {w1_quotient_denominator_size : Int32} {w1_quotient_denominator_limbs_a : (Nat → Int32)} {w1_shortest_isNarrowBelow : Int32} {w1_shortest_isEven : Int32} {w1_shortest_number : Int64} {w1_shortest_power : Int32} {w1_shortest_rest_size : Int32} {w1_shortest_rest_limbs_a : (Nat → Int32)} {w1_shortest_unit_size : Int32} {w1_shortest_unit_limbs_a : (Nat → Int32)} {w1_shortest_halfGap_size : Int32} {w1_shortest_halfGap_limbs_a : (Nat → Int32)} {w1_shortest_sum_size : Int32} {w1_shortest_sum_limbs_a : (Nat → Int32)} {w1_decimal_digitCount : Int32} {w1_decimal_point : Int32} {w1_decimal_reversed_a : (Nat → Int32)} {w2_length : Int32} {w2_laid : Int32} {w2_gone : Int32} {w2_thrown : Int32} {w2_were : Int32} {w2_none : Int32} {w2_beyond : Int32} {w2_aMany : Int32} {w2_bMany : Int32} {w2_fiveMany : Int32} {w2_leftMany : Int32} {w2_rightMany : Int32} {w2_twos : Int32} {w2_at : Int32} {w2_digits : Int32} {w2_power : Int32} {w2_good : Int32} {w2_text_a : (Nat → Int32)} {w2_written_a : (Nat → Int32)} {w2_a_a : (Nat → Int32)} {w2_b_a : (Nat → Int32)} {w2_five_a : (Nat → Int32)} {w2_left_a : (Nat → Int32)} {w2_right_a : (Nat → Int32)} {w3_a : (Nat → Int64)}, i ≤ L → L < i + 4 * n → JJ w1_readCount w1_noLiteralCount w1_outOfRangeCount w1_theText_start w1_theText_end w1_theText_letters_a w1_written_start w1_written_end w1_written_letters_a w2_length w2_laid w2_gone w2_were w2_none w2_beyond w2_text_a w2_written_a →
    ok (f_Law_lawp_23 fu L xs 1200 32 1200 128 128 40 40 40 40 20 1200 40 520 520 520 520 520 1 n (nI i) w1_readCount w1_noLiteralCount w1_outOfRangeCount w1_theText_start w1_theText_end w1_theText_letters_a w1_written_start w1_written_end w1_written_letters_a w1_literal_digitCount w1_literal_fraction w1_literal_exponent w1_literal_isHex w1_literal_digits_a w1_quotient_lead w1_quotient_power w1_quotient_more w1_quotient_numerator_size w1_quotient_numerator_limbs_a w1_quotient_denominator_size w1_quotient_denominator_limbs_a w1_shortest_isNarrowBelow w1_shortest_isEven w1_shortest_number w1_shortest_power w1_shortest_rest_size w1_shortest_rest_limbs_a w1_shortest_unit_size w1_shortest_unit_limbs_a w1_shortest_halfGap_size w1_shortest_halfGap_limbs_a w1_shortest_sum_size w1_shortest_sum_limbs_a w1_decimal_digitCount w1_decimal_point w1_decimal_reversed_a w2_length w2_laid w2_gone w2_thrown w2_were w2_none w2_beyond w2_aMany w2_bMany w2_fiveMany w2_leftMany w2_rightMany w2_twos w2_at w2_digits w2_power w2_good w2_text_a w2_written_a w2_a_a w2_b_a w2_five_a w2_left_a w2_right_a w3_a) (fun r => r = 1) := by
  intro n
  induction n with
  | zero =>
    intro i w1_readCount w1_noLiteralCount w1_outOfRangeCount w1_theText_start w1_theText_end w1_theText_letters_a w1_written_start w1_written_end w1_written_letters_a w1_literal_digitCount w1_literal_fraction w1_literal_exponent w1_literal_isHex w1_literal_digits_a w1_quotient_lead w1_quotient_power w1_quotient_more w1_quotient_numerator_size w1_quotient_numerator_limbs_a w1_quotient_denominator_size w1_quotient_denominator_limbs_a w1_shortest_isNarrowBelow w1_shortest_isEven w1_shortest_number w1_shortest_power w1_shortest_rest_size w1_shortest_rest_limbs_a w1_shortest_unit_size w1_shortest_unit_limbs_a w1_shortest_halfGap_size w1_shortest_halfGap_limbs_a w1_shortest_sum_size w1_shortest_sum_limbs_a w1_decimal_digitCount w1_decimal_point w1_decimal_reversed_a w2_length w2_laid w2_gone w2_thrown w2_were w2_none w2_beyond w2_aMany w2_bMany w2_fiveMany w2_leftMany w2_rightMany w2_twos w2_at w2_digits w2_power w2_good w2_text_a w2_written_a w2_a_a w2_b_a w2_five_a w2_left_a w2_right_a w3_a h1 h2
    omega
  | succ n ih =>
    intro i w1_readCount w1_noLiteralCount w1_outOfRangeCount w1_theText_start w1_theText_end w1_theText_letters_a w1_written_start w1_written_end w1_written_letters_a w1_literal_digitCount w1_literal_fraction w1_literal_exponent w1_literal_isHex w1_literal_digits_a w1_quotient_lead w1_quotient_power w1_quotient_more w1_quotient_numerator_size w1_quotient_numerator_limbs_a w1_quotient_denominator_size w1_quotient_denominator_limbs_a w1_shortest_isNarrowBelow w1_shortest_isEven w1_shortest_number w1_shortest_power w1_shortest_rest_size w1_shortest_rest_limbs_a w1_shortest_unit_size w1_shortest_unit_limbs_a w1_shortest_halfGap_size w1_shortest_halfGap_limbs_a w1_shortest_sum_size w1_shortest_sum_limbs_a w1_decimal_digitCount w1_decimal_point w1_decimal_reversed_a w2_length w2_laid w2_gone w2_thrown w2_were w2_none w2_beyond w2_aMany w2_bMany w2_fiveMany w2_leftMany w2_rightMany w2_twos w2_at w2_digits w2_power w2_good w2_text_a w2_written_a w2_a_a w2_b_a w2_five_a w2_left_a w2_right_a w3_a h1 h2 hJ
    rw [f_Law_lawp_23_s]
    have hJ0 := hJ
    obtain ⟨rfl, rfl, rfl, rfl, ⟨tn, rfl, rfl, hT⟩, g, e, rfl, rfl, rfl, rfl, hW⟩ := hJ
    have hle : (nI L - 4 < nI i) ↔ L < i + 4 := by
      rw [← iI_nat, ← iI_nat, show (4 : Int32) = iI 4 from rfl, iI_sub, iI_lt (by omega) (by omega) (by omega) (by omega)]
      omega
    refine ok_ii hle (fun _ => ok_s rfl) (fun hi => ?_)
    have z0 : zz_in (nI i) L = true := in_N (by omega) (by omega)
    have z1 : zz_in (nI i + 1) L = true := by rw [nI_1]; exact in_N (by omega) (by omega)
    have z2 : zz_in (nI i + 2) L = true := by rw [show (2 : Int32) = nI 2 from rfl, nI_add]; exact in_N (by omega) (by omega)
    have z3 : zz_in (nI i + 3) L = true := by rw [show (3 : Int32) = nI 3 from rfl, nI_add]; exact in_N (by omega) (by omega)
    have e4 : nI i + 4 = nI (i + 4) := by rw [show (4 : Int32) = nI 4 from rfl, nI_add]
    rw [e4]
    refine ok_t z0 (ok_if (fun _ => ?_) (fun _ => ok_if (fun _ => ?_) (fun _ => ok_if (fun _ => ?_) (fun _ => ok_if (fun _ => ?_) (fun _ => ok_if (fun _ => ?_) (fun _ => ok_if (fun _ => ?_) (fun _ => ?_)))))))
    · -- text
      obtain ⟨u, w, h1, h2, h3, h4, n', h5, h6, h7⟩ := law_text (fu := fu) (w3 := w3_a) (x1 := (((xs (nI i + 1).toNatClampNeg).toInt64) <<< ((32 : Int32).toInt64 &&& 63)) ||| (((xs (nI i + 2).toNatClampNeg).toInt64) &&& 4294967295)) (th := w2_thrown) (by omega) hT
      have jj : JJ w1_readCount w1_noLiteralCount w1_outOfRangeCount 0 u.2.1 u.2.2.1 (nI g) (nI e) w1_written_letters_a w.2.1 (nI e) (nI g) w1_readCount w1_noLiteralCount w1_outOfRangeCount w.2.2.2 w2_written_a := ⟨rfl, rfl, rfl, rfl, ⟨n', h5, h6, h7⟩, g, e, rfl, rfl, rfl, rfl, hW⟩
      refine ok_t z1 (ok_t z2 (ok_be h1 (ok_t z1 (ok_t z2 (ok_be h2 (ok_be (v := w.2.2.1) rfl (ok_t h3 ?_)))))))
      refine ok_if (fun q => ok_t z01 (ok_t (lg0 (h4 q)) ?_)) (fun q => ?_)
      · exact ih (i + 4) (by omega) (by omega) jj
      · exact ih (i + 4) (by omega) (by omega) jj
    · -- read
      have rd : ∀ x1 : Int32, ∃ u w, _ := fun x1 => law_read (fu := fu) (w3 := w3_a) (x1 := x1) (rc := w1_readCount) (nc := w1_noLiteralCount) (oc := w1_outOfRangeCount) (dc := w1_literal_digitCount) (fr := w1_literal_fraction) (ex := w1_literal_exponent) (ih := w1_literal_isHex) (ds := w1_literal_digits_a) (ql := w1_quotient_lead) (qp := w1_quotient_power) (qm := w1_quotient_more) (qn := w1_quotient_numerator_size) (qa := w1_quotient_numerator_limbs_a) (qd := w1_quotient_denominator_size) (qb := w1_quotient_denominator_limbs_a) (th := w2_thrown) (aM := w2_aMany) (bM := w2_bMany) (lM := w2_leftMany) (rM := w2_rightMany) (tw := w2_twos) (at0 := w2_at) (dgs := w2_digits) (pw := w2_power) (gd := w2_good) (aa := w2_a_a) (ba := w2_b_a) (L := w2_left_a) (R := w2_right_a) hfu hT
      refine ok_t z1 (ok_if (fun q => ?_) (fun q => ?_))
      · obtain ⟨u, w, h1, h2, h3, h4, h5, h6, h7, h8, h9, h10⟩ := rd 0
        have jj : JJ u.2.1 u.2.2.1 u.2.2.2.1 u.2.2.2.2.1 u.2.2.2.2.2.1 w1_theText_letters_a (nI g) (nI e) w1_written_letters_a w.2.1 (nI e) (nI g) w.2.2.2.1 w.2.2.2.2.1 w.2.2.2.2.2.1 w2_text_a w2_written_a := ⟨h5, h6, h7, h8, ⟨0, h9, h10, JT_0 _ _⟩, g, e, rfl, rfl, rfl, rfl, hW⟩
        refine ok_be h1 (ok_t z1 (ok_t q (ok_be h2 (ok_be (v := w.2.2.1) rfl (ok_t h3 ?_)))))
        refine ok_if (fun q => ok_t z01 (ok_t (lg0 (h4 q)) ?_)) (fun q => ?_)
        · exact ih (i + 4) (by omega) (by omega) jj
        · exact ih (i + 4) (by omega) (by omega) jj
      · obtain ⟨u, w, h1, h2, h3, h4, h5, h6, h7, h8, h9, h10⟩ := rd 1
        have jj : JJ u.2.1 u.2.2.1 u.2.2.2.1 u.2.2.2.2.1 u.2.2.2.2.2.1 w1_theText_letters_a (nI g) (nI e) w1_written_letters_a w.2.1 (nI e) (nI g) w.2.2.2.1 w.2.2.2.2.1 w.2.2.2.2.2.1 w2_text_a w2_written_a := ⟨h5, h6, h7, h8, ⟨0, h9, h10, JT_0 _ _⟩, g, e, rfl, rfl, rfl, rfl, hW⟩
        refine ok_be h1 (ok_t z1 (ok_f q (ok_be h2 (ok_be (v := w.2.2.1) rfl (ok_t h3 ?_)))))
        refine ok_if (fun q => ok_t z01 (ok_t (lg0 (h4 q)) ?_)) (fun q => ?_)
        · exact ih (i + 4) (by omega) (by omega) jj
        · exact ih (i + 4) (by omega) (by omega) jj
    · -- write
      have wr : ∀ x3 : Int32, ∃ u w e, _ := fun x3 => law_write (fu := fu) (x1 := (((xs (nI i + 1).toNatClampNeg).toInt64) <<< ((32 : Int32).toInt64 &&& 63)) ||| (((xs (nI i + 2).toNatClampNeg).toInt64) &&& 4294967295)) (x3 := x3) (ws := nI g) (we := nI e) (nb := w1_shortest_isNarrowBelow) (ev := w1_shortest_isEven) (pw := w1_shortest_power) (rs := w1_shortest_rest_size) (us := w1_shortest_unit_size) (hs := w1_shortest_halfGap_size) (ss := w1_shortest_sum_size) (dc := w1_decimal_digitCount) (pt := w1_decimal_point) (num := w1_shortest_number) (wa := w1_written_letters_a) (ra := w1_shortest_rest_limbs_a) (ua := w1_shortest_unit_limbs_a) (ha := w1_shortest_halfGap_limbs_a) (sa := w1_shortest_sum_limbs_a) (rev := w1_decimal_reversed_a) (laid := nI e) (gone := nI g) (thr := w2_thrown) (aM := w2_aMany) (bM := w2_bMany) (fM := w2_fiveMany) (lM := w2_leftMany) (rM := w2_rightMany) (tw := w2_twos) (pw' := w2_power) (wa' := w2_written_a) (aa := w2_a_a) (ba := w2_b_a) (fa := w2_five_a) (L := w2_left_a) (R := w2_right_a) (by omega)
      refine ok_t z1 (ok_t z2 (ok_t z3 (ok_if (fun q => ?_) (fun q => ?_))))
      · obtain ⟨u, w, e', h1, h2, h3, h4, h5, h6, h7, h8⟩ := wr 0
        have jj : JJ w1_readCount w1_noLiteralCount w1_outOfRangeCount 0 (nI tn) w1_theText_letters_a u.2.1 u.2.2.1 u.2.2.2.1 (nI tn) w.2.1 w.2.2.1 w1_readCount w1_noLiteralCount w1_outOfRangeCount w2_text_a w.2.2.2.2.2.2.2.2.2.2.2.1 := ⟨rfl, rfl, rfl, rfl, ⟨tn, rfl, rfl, hT⟩, 0, e', h4, h5, h7, h6, h8⟩
        exact ok_be h1 (ok_t z1 (ok_t z2 (ok_t z3 (ok_t q (ok_be h2 (ok_t h3 (ih (i + 4) (by omega) (by omega) jj)))))))
      · obtain ⟨u, w, e', h1, h2, h3, h4, h5, h6, h7, h8⟩ := wr 1
        have jj : JJ w1_readCount w1_noLiteralCount w1_outOfRangeCount 0 (nI tn) w1_theText_letters_a u.2.1 u.2.2.1 u.2.2.2.1 (nI tn) w.2.1 w.2.2.1 w1_readCount w1_noLiteralCount w1_outOfRangeCount w2_text_a w.2.2.2.2.2.2.2.2.2.2.2.1 := ⟨rfl, rfl, rfl, rfl, ⟨tn, rfl, rfl, hT⟩, 0, e', h4, h5, h7, h6, h8⟩
        exact ok_be h1 (ok_t z1 (ok_t z2 (ok_t z3 (ok_f q (ok_be h2 (ok_t h3 (ih (i + 4) (by omega) (by omega) jj)))))))
    · -- take
      obtain ⟨v, g', h1, h2, h3⟩ := take_eq (fu := fu) (th := w2_thrown) (by omega) hW
      have jj : JJ w1_readCount w1_noLiteralCount w1_outOfRangeCount 0 (nI tn) w1_theText_letters_a (nI g') (nI e) w1_written_letters_a (nI tn) (nI e) (nI g') w1_readCount w1_noLiteralCount w1_outOfRangeCount w2_text_a w2_written_a := ⟨rfl, rfl, rfl, rfl, ⟨tn, rfl, rfl, hT⟩, g', e, rfl, rfl, rfl, rfl, h3⟩
      exact ok_be h1 (ok_be h2 (ok_t (lg0 rfl) (ih (i + 4) (by omega) (by omega) jj)))
    · -- back
      obtain ⟨ta', tt', h1, h2, h3⟩ := back_eq (fu := fu) (th := w2_thrown) (s0 := 0) (e0 := nI tn) (l0 := nI tn) (ta := w1_theText_letters_a) (tt := w2_text_a) (by omega) hW
      have jj : JJ w1_readCount w1_noLiteralCount w1_outOfRangeCount 0 (nI (e - g)) ta' 0 0 w1_written_letters_a (nI (e - g)) 0 0 w1_readCount w1_noLiteralCount w1_outOfRangeCount tt' w2_written_a := ⟨rfl, rfl, rfl, rfl, ⟨e - g, rfl, rfl, h3⟩, 0, 0, rfl, rfl, rfl, rfl, Nat.le_refl 0, by decide, fun i hi => by omega⟩
      exact ok_be h1 (ok_be h2 (ok_t rfl (ih (i + 4) (by omega) (by omega) jj)))
    · -- count
      obtain ⟨u, w, h1, h2, h3, h4⟩ := law_count (w3 := w3_a) (x1 := xs (nI i + 1).toNatClampNeg) (rc := w1_readCount) (nc := w1_noLiteralCount) (oc := w1_outOfRangeCount) (th := w2_thrown) (n := tn) hW.1
      refine ok_t z1 (ok_be h1 (ok_t z1 (ok_be h2 (ok_be (v := w.2) rfl (ok_t h3 ?_)))))
      refine ok_if (fun q => ok_t z01 (ok_t (lg0 (h4 q)) ?_)) (fun q => ?_)
      · exact ih (i + 4) (by omega) (by omega) hJ0
      · exact ih (i + 4) (by omega) (by omega) hJ0
    · exact ih (i + 4) (by omega) (by omega) hJ0
