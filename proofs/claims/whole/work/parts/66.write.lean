-- write: class and reference alike
theorem expo_len (s : Nat) : (expo s).length ≤ 3 := by
  unfold expo
  rw [List.length_append, List.length_append]
  have t1 : (if 100 ≤ s then [48 + s / 100 % 10] else []).length ≤ 1 := by split <;> simp
  have t2 : (if 10 ≤ s then [48 + s / 10 % 10] else []).length ≤ 1 := by split <;> simp
  show _ + (_ + 1) ≤ 3
  omega
theorem dcl_len {D w : Nat} {pt : Int} (hw : w ≤ 18) (hw0 : 0 < w) : (dcl D w pt).length ≤ 24 := by
  unfold dcl
  by_cases h : pt < -2 ∨ 7 < pt
  · rw [if_pos h]
    have t := expo_len (pt - 1).natAbs
    have t1 : (if pt - 1 < 0 then [45] else ([] : List Nat)).length ≤ 1 := by split <;> simp
    simp only [List.length_append, dgs_len, List.length_singleton]
    omega
  · rw [if_neg h]
    simp only [List.length_append, dgs_len, List.length_singleton]
    omega
section Write
variable {fu x f M y : Nat} {lp : Int} {x1 : Int64} {x3 : Int32}
variable {ws we nb ev pw rs us hs ss dc pt : Int32} {num : Int64} {wa ra ua ha sa rev : Nat → Int32}
variable {aM bM fM lM rM tw pw' : Int32} {aa ba fa L R : Nat → Int32}
theorem wr_165 {l : List Nat} {k : Int32} {a : Nat → Int32} (hl : tl l k a) :
    ok (f_RT_write_165 fu 32 40 40 40 40 20 x1 x3 0 k a nb ev num pw rs ra us ua hs ha ss sa dc pt rev) (fun u => u.1 = nI l.length ∧ u.2.1 = 0 ∧ tl l u.2.2.1 u.2.2.2.1) := by
  unfold f_RT_write_165 f_Row_length
  refine ok_be rfl (ok_s ⟨?_, rfl, hl⟩)
  show k - 0 = nI l.length
  rw [hl.1, ← nI_0, pk_sub (by omega), Nat.sub_zero]
theorem wr_body {l : List Nat} {k k' : Int32} {a a' : Nat → Int32} (h : fm x f lp M) (hs' : fs x3 f lp M) (hfu : 2000 < fu) (hy : y ≤ M * 2 ^ f) (hl : tl l k a) (hl' : tl l k' a') (hl1 : l.length ≤ 1) :
    ∃ S : List Nat, S.length ≤ 32 ∧
    ok (f_RT_write_80 fu 32 40 40 40 40 20 x1 x3 x (lN y) 0 k a nb ev num pw rs ra us ua hs ha ss sa dc pt rev) (fun u => u.1 = nI S.length ∧ u.2.1 = 0 ∧ tl S u.2.2.1 u.2.2.2.1) ∧
    ok (f_Mod_write_106 fu 40 520 520 520 520 520 x1 x3 (lN y) k' 0 0 aM bM fM lM rM tw pw' a' aa ba fa L R) (fun u => u.1 = nI S.length ∧ u.2.2.1 = 0 ∧ u.2.2.2.1 = 0 ∧ tl S u.2.1 u.2.2.2.2.2.2.2.2.2.2.2.1) := by
  have hb := fm_b h
  have hM0 : 0 < M * 2 ^ f := Nat.mul_pos (by omega) (Nat.two_pow_pos f)
  by_cases g1 : y = M * 2 ^ f
  · refine ⟨l ++ w_inf, by rw [List.length_append]; show l.length + 8 ≤ 32; omega, ?_, ?_⟩
    · unfold f_RT_write_80
      refine ok_be (fmt_inf h) (ok_t (by rw [lg_cmp_eq, g1]) ?_)
      exact ok_b (row_inf (by decide) (by omega) hl (by omega)) (fun v hv => wr_165 hv)
    · unfold f_Mod_write_106
      refine ok_be (mod_great hs') (ok_f (fun q => by rw [lg_cmp_le, pk_lLE (by omega) (by omega)] at q; omega) ?_)
      refine ok_b (mod_inf (by decide) (by omega) hl' (by omega)) (fun v hv => ok_s ⟨hv.1, rfl, rfl, hv⟩)
  by_cases g2 : y = 0
  · refine ⟨l ++ w_zero, by rw [List.length_append]; show l.length + 3 ≤ 32; omega, ?_, ?_⟩
    · unfold f_RT_write_80
      refine ok_be (fmt_inf h) (ok_f (fun q => by rw [lg_cmp_eq, pk_lEQ (by omega) (by omega)] at q; exact g1 q) (ok_t (by rw [lg_cmp_eq, g2]; rfl) ?_))
      exact ok_b (row_zero (by decide) (by omega) hl (by omega)) (fun v hv => wr_165 hv)
    · unfold f_Mod_write_106
      refine ok_be (mod_great hs') (ok_t (by rw [lg_cmp_le, pk_lLE (by omega) (by omega)]; omega) (ok_t (by rw [lg_cmp_eq, g2]; rfl) ?_))
      refine ok_b (mod_zero (by decide) (by omega) hl' (by omega)) (fun v hv => ok_s ⟨hv.1, rfl, rfl, hv⟩)
  obtain ⟨r, hr, hC⟩ := sho_find (vn := nb) (ve := ev) (vp := pw) (rs := rs) (us := us) (hs := hs) (ss := ss) (vm := num) (ra := ra) (ua := ua) (ha := ha) (sa := sa) h hfu (show 0 < y by omega) hy
  have hC' := hC
  obtain ⟨P0, R0, U, H0, n, D, hst, hn, hR, hD, hP⟩ := hC'
  obtain ⟨s1, s2, _, _, s5, s6, _⟩ := hst
  have hn2 := hR.1
  have hlt := fd_lt (n := n) s1
  have hp17 := p10_le hn
  have hge : 1 ≤ 10 ^ n * R0 / U := by
    rw [Nat.le_div_iff_mul_le (by omega), Nat.one_mul]
    refine Nat.le_trans s2 (Nat.mul_le_mul_right _ ?_)
    have := Nat.pow_le_pow_right (n := 10) (show 0 < 10 by decide) (show 1 ≤ n by omega)
    rw [Nat.pow_one] at this
    exact this
  have hDb : 0 < D ∧ D ≤ 10 ^ 17 := by
    obtain ⟨_, _, _, r4, r5⟩ := hR
    by_cases q : upF R0 U H0 (1 + nar f y) (decide (y % 2 = 0)) n ∧ (¬ dnF R0 U H0 (decide (y % 2 = 0)) n ∨ mdF R0 U n)
    · rw [r4 q]; omega
    · rw [r5 q]; omega
  obtain ⟨D', z, w, e1, hdg, hzw⟩ := dig_ex hDb.1 hDb.2
  have hw0 := hdg.1
  have hD63 : D' * 10 ^ z < 2 ^ 63 := by rw [← e1]; omega
  refine ⟨l ++ dcl D' w (P0 - n + z + w), by rw [List.length_append]; have := dcl_len (D := D') (pt := P0 - n + z + w) (show w ≤ 18 by omega) hw0; omega, ?_, ?_⟩
  · unfold f_RT_write_80
    refine ok_be (fmt_inf h) (ok_f (fun q => by rw [lg_cmp_eq, pk_lEQ (by omega) (by omega)] at q; exact g1 q) (ok_f (fun q => by rw [lg_cmp_eq, show (0 : Int64) = lN 0 from rfl, pk_lEQ (by omega) (by decide)] at q; exact g2 q) ?_))
    refine ok_be hr ?_
    rw [hD, hP, e1]
    refine ok_b (dec_set (by omega) hdg (by omega) hD63) (fun v hv => ?_)
    obtain ⟨v1, v2, v3⟩ := hv
    rw [v1, v2]
    refine ok_b (dec_put (by omega) (by omega) hw0 (by decide) v3 (by omega) (by omega) hl (by omega)) (fun v' hv' => ?_)
    exact wr_165 hv'
  · unfold f_Mod_write_106
    refine ok_be (mod_great hs') (ok_t (by rw [lg_cmp_le, pk_lLE (by omega) (by omega)]; omega) (ok_f (fun q => by rw [lg_cmp_eq, show (0 : Int64) = lN 0 from rfl, pk_lEQ (by omega) (by decide)] at q; exact g2 q) ?_))
    refine ok_b (P := fun r => tl (l ++ dcl D' w (P0 - n + z + w)) r.1 r.2.2.2.2.2.2.2.2.1) ?_ (fun v hv => ok_s ⟨hv.1, rfl, rfl, hv⟩)
    unfold f_Mod_layDecimal
    refine ok_b (mod_short hs' h (by omega) (by omega) hy hC) (fun v hv => ?_)
    obtain ⟨v1, v2⟩ := hv
    rw [v1, v2, hD, hP, e1]
    have := mdec_14 (x1 := lN y) (x3 := x3) (aM := v.2.1) (bM := v.2.2.1) (fM := v.2.2.2.1) (lM := v.2.2.2.2.1) (rM := v.2.2.2.2.2.1) (tw := v.2.2.2.2.2.2.1) (pw := iI (P0 - n)) (aa := v.2.2.2.2.2.2.2.2.1) (ba := v.2.2.2.2.2.2.2.2.2.1) (fa := v.2.2.2.2.2.2.2.2.2.2.1) (L := v.2.2.2.2.2.2.2.2.2.2.2.1) (R := v.2.2.2.2.2.2.2.2.2.2.2.2) (P := P0 - n) (fu := fu) (N := 40) (by omega) (by decide) hdg (by omega) hD63 (by omega) (by omega) (by omega) hl' (by omega) z fu 0 (by omega) (by omega)
    rw [show P0 - (n : Int) + ((0 : Nat) : Int) = P0 - n by omega] at this
    exact this
end Write
