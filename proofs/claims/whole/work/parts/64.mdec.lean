-- the reference's layout of a decimal number
theorem mod_in {x lo hi : Int} (h1 : -10000 ≤ x) (h2 : x ≤ 10000) (h3 : -10000 ≤ lo) (h4 : lo ≤ 10000) (h5 : -10000 ≤ hi) (h6 : hi ≤ 10000) : f_Mod_in (iI x) (iI lo) (iI hi) = some (if lo ≤ x ∧ x ≤ hi then 1 else 0) := by
  apply ok_e
  unfold f_Mod_in
  refine ok_ii (iI_lt (by omega) (by omega) (by omega) (by omega)) (fun g => ?_) (fun g => ?_)
  · rw [if_neg (by omega)]; exact ok_s rfl
  · refine ok_ii (iI_lt (by omega) (by omega) (by omega) (by omega)) (fun g2 => ?_) (fun g2 => ?_)
    · rw [if_neg (by omega)]; exact ok_s rfl
    · rw [if_pos (by omega)]; exact ok_s rfl
theorem mod_in_a {x : Int} (h1 : -10000 ≤ x) (h2 : x ≤ 10000) : f_Mod_in (iI x) 0 6 = some (if 0 ≤ x ∧ x ≤ 6 then 1 else 0) := mod_in (lo := 0) (hi := 6) h1 h2 (by decide) (by decide) (by decide) (by decide)
theorem mod_in_b {x : Int} (h1 : -10000 ≤ x) (h2 : x ≤ 10000) : f_Mod_in (iI x) (-3) (-1) = some (if -3 ≤ x ∧ x ≤ -1 then 1 else 0) := by
  rw [show (-3 : Int32) = iI (-3) from rfl, show (-1 : Int32) = iI (-1) from rfl]
  exact mod_in h1 h2 (by decide) (by decide) (by decide) (by decide)
section MDec
variable {fu N D w : Nat} {x1 : Int64} {x3 aM bM fM lM rM tw pw : Int32} {aa ba fa L R : Nat → Int32}
theorem mdec_254 {e : Int} {l : List Nat} {k : Int32} {a : Nat → Int32} (hfu : 100 < fu) (hN : N < 2 ^ 31) (h1 : -1000 < e) (h2 : e < 1000) (hl : tl l k a) (hb : l.length + 3 ≤ N) :
    ok (f_Mod_layDecimal_254 fu N 520 520 520 520 520 x1 x3 (iI e) k aM bM fM lM rM tw pw a aa ba fa L R) (fun r => tl (l ++ expo e.natAbs) r.1 r.2.2.2.2.2.2.2.2.1) := by
  unfold f_Mod_layDecimal_254 f_Mod_layDecimal_268
  refine ok_ii (iI_le (a := 0) (by decide) (by decide) (by omega) (by omega)) (fun g => ?_) (fun g => ?_)
  · obtain ⟨s, rfl⟩ : ∃ s : Nat, e = s := ⟨e.toNat, by omega⟩
    rw [iI_nat]
    refine ok_b (mlay_num (s := s) hfu hN (by omega) hl hb) (fun v hv => ok_s ?_)
    rw [Int.natAbs_natCast]
    exact hv
  · obtain ⟨s, hs⟩ : ∃ s : Nat, -e = s := ⟨(-e).toNat, by omega⟩
    rw [iI_neg, hs, iI_nat]
    refine ok_b (mlay_num (s := s) hfu hN (by omega) hl hb) (fun v hv => ok_s ?_)
    rw [show e.natAbs = s by omega]
    exact hv
theorem mdec_232 {e : Int} {to d : Nat} {l : List Nat} {k : Int32} {a : Nat → Int32} (hfu : 100 < fu) (hN : N < 2 ^ 31) (hw : w ≤ 18) (hD : D < 2 ^ 63) (h1 : -1000 < e) (h2 : e < 1000) (ht : to ≤ 99) (hd : 1 + d = to) (hl : tl l k a) (hb : l.length + d + 5 ≤ N) :
    ok (f_Mod_layDecimal_232 fu N 520 520 520 520 520 x1 x3 (nI w) (iI e) (lN D) 1 (nI to) k aM bM fM lM rM tw pw a aa ba fa L R) (fun r => tl (l ++ (dgs D w 1 d ++ ([69] ++ ((if e < 0 then [45] else []) ++ expo e.natAbs)))) r.1 r.2.2.2.2.2.2.2.2.1) := by
  unfold f_Mod_layDecimal_232
  refine ok_b (mlay_dg (lo := 1) (d := d) hfu hN hw hD ht hd hl (by omega)) (fun v1 hv1 => ?_)
  refine ok_b (mod_lay (c := 69) hv1 (by decide) (by simp only [List.length_append, dgs_len]; omega) hN) (fun v2 hv2 => ?_)
  refine ok_ii (iI_le (a := 0) (by decide) (by decide) (by omega) (by omega)) (fun g => ?_) (fun g => ?_)
  · refine ok_m (mdec_254 hfu hN h1 h2 hv2 (by simp only [List.length_append, dgs_len, List.length_singleton]; omega)) (fun r hr => ?_)
    rw [if_neg (by omega)]
    simp only [List.append_assoc, List.nil_append] at hr ⊢
    exact hr
  · refine ok_b (mod_lay (c := 45) hv2 (by decide) (by simp only [List.length_append, dgs_len, List.length_singleton]; omega) hN) (fun v3 hv3 => ?_)
    refine ok_m (mdec_254 hfu hN h1 h2 hv3 (by simp only [List.length_append, dgs_len, List.length_singleton]; omega)) (fun r hr => ?_)
    rw [if_pos (by omega)]
    simp only [List.append_assoc] at hr ⊢
    exact hr
theorem mdec_168 (hfu : 100 < fu) (hN : N < 2 ^ 31) (hw : w ≤ 18) (hD : D < 2 ^ 63) :
    ∀ (z m : Nat) (l : List Nat) (k : Int32) (a : Nat → Int32), z ≤ 10 → z < m → tl l k a → l.length + z + w ≤ N →
    ok (f_Mod_layDecimal_168 fu N 520 520 520 520 520 x1 x3 m (lN D) (nI w) (iI (-1 - z)) k aM bM fM lM rM tw pw a aa ba fa L R) (fun r => tl (l ++ (List.replicate z 48 ++ dgs D w 0 w)) r.1 r.2.2.2.2.2.2.2.2.1)
  | z, 0, _, _, _, _, h, _, _ => by omega
  | 0, m + 1, l, k, a, _, _, hl, hb => by
    rw [f_Mod_layDecimal_168_s]
    refine ok_t (by decide) ?_
    refine ok_b (mlay_dg (lo := 0) (to := w) (d := w) hfu hN hw hD (by omega) (by omega) hl (by omega)) (fun v hv => ok_s ?_)
    exact hv
  | z + 1, m + 1, l, k, a, hz, hm, hl, hb => by
    rw [f_Mod_layDecimal_168_s]
    refine ok_f (fun g => by
      rw [show (-1 : Int32) = iI (-1) from rfl, iI_le (by decide) (by decide) (by omega) (by omega)] at g
      omega) ?_
    refine ok_b (mod_lay (c := 48) hl (by decide) (by omega) hN) (fun v hv => ?_)
    have e : iI (-1 - (z + 1 : Nat)) + 1 = iI (-1 - z) := by
      rw [show (1 : Int32) = iI 1 from rfl, iI_add]
      congr 1
      omega
    rw [e]
    refine ok_m (mdec_168 hfu hN hw hD z m _ _ _ (by omega) (by omega) hv (by simp only [List.length_append, List.length_singleton]; omega)) (fun r hr => ?_)
    rw [List.replicate_succ]
    simp only [List.append_assoc, List.cons_append, List.nil_append] at hr ⊢
    exact hr
theorem mdec_A {p : Nat} {l : List Nat} {k : Int32} {a : Nat → Int32} (hfu : 100 < fu) (hN : N < 2 ^ 31) (hw : w ≤ 18) (hw0 : 0 < w) (hD : D < 2 ^ 63) (hl : tl l k a) (hb : l.length + 24 ≤ N) (hp : 1 ≤ p) (hp2 : p ≤ 7) :
    ok ((f_Mod_layDigits fu N (lN D) 0 (nI p) (nI w) k a).bind fun u_15 =>
  (f_Mod_lay N 46 u_15.1 u_15.2).bind fun u_16 =>
  (if (nI w) ≤ (nI p) then
  f_Mod_layDecimal_133 fu N 520 520 520 520 520 x1 x3 (nI w) (lN D) (nI p) (nI (p + 1)) u_16.1 aM bM fM lM rM tw pw u_16.2 aa ba fa L R
  else
  f_Mod_layDecimal_133 fu N 520 520 520 520 520 x1 x3 (nI w) (lN D) (nI p) (nI w) u_16.1 aM bM fM lM rM tw pw u_16.2 aa ba fa L R)) (fun r => tl (l ++ dcl D w p) r.1 r.2.2.2.2.2.2.2.2.1) := by
  unfold dcl
  rw [if_neg (by omega)]
  refine ok_b (mlay_dg (lo := 0) (to := p) (d := p) hfu hN hw hD (by omega) (by omega) hl (by omega)) (fun v1 hv1 => ?_)
  refine ok_b (mod_lay (c := 46) hv1 (by decide) (by simp only [List.length_append, dgs_len]; omega) hN) (fun v2 hv2 => ?_)
  have em : min ((p : Int) - 1) 0 = 0 := by omega
  have em2 : ((p : Int) - 0).toNat = p := by omega
  rw [em, em2]
  refine ok_ii (nI_leI (by omega) (by omega)) (fun g => ?_) (fun g => ?_)
  · unfold f_Mod_layDecimal_133
    refine ok_b (mlay_dg (lo := p) (to := p + 1) (d := 1) hfu hN hw hD (by omega) (by omega) hv2 (by simp only [List.length_append, dgs_len, List.length_singleton]; omega)) (fun v3 hv3 => ok_s ?_)
    rw [show (max (w : Int) ((p : Int) + 1) - p).toNat = 1 by omega]
    simp only [List.append_assoc] at hv3 ⊢
    exact hv3
  · unfold f_Mod_layDecimal_133
    refine ok_b (mlay_dg (lo := p) (to := w) (d := w - p) hfu hN hw hD (by omega) (by omega) hv2 (by simp only [List.length_append, dgs_len, List.length_singleton]; omega)) (fun v3 hv3 => ok_s ?_)
    rw [show (max (w : Int) ((p : Int) + 1) - p).toNat = w - p by omega]
    simp only [List.append_assoc] at hv3 ⊢
    exact hv3
theorem mdec_B {z : Nat} {l : List Nat} {k : Int32} {a : Nat → Int32} (hfu : 100 < fu) (hN : N < 2 ^ 31) (hw : w ≤ 18) (hw0 : 0 < w) (hD : D < 2 ^ 63) (hl : tl l k a) (hb : l.length + 24 ≤ N) (hz : z ≤ 2) :
    ok ((f_Mod_lay N 48 k a).bind fun u_11 =>
  (f_Mod_lay N 46 u_11.1 u_11.2).bind fun u_12 =>
  f_Mod_layDecimal_168 fu N 520 520 520 520 520 x1 x3 fu (lN D) (nI w) (iI (-1 - z)) u_12.1 aM bM fM lM rM tw pw u_12.2 aa ba fa L R) (fun r => tl (l ++ dcl D w (-z)) r.1 r.2.2.2.2.2.2.2.2.1) := by
  unfold dcl
  rw [if_neg (by omega)]
  refine ok_b (mod_lay (c := 48) hl (by decide) (by omega) hN) (fun v1 hv1 => ?_)
  refine ok_b (mod_lay (c := 46) hv1 (by decide) (by simp only [List.length_append, List.length_singleton]; omega) hN) (fun v2 hv2 => ?_)
  refine ok_m (mdec_168 hfu hN hw hD z fu _ _ _ (by omega) (by omega) hv2 (by simp only [List.length_append, List.length_singleton]; omega)) (fun r hr => ?_)
  have em : min (-(z : Int) - 1) 0 = -1 - z := by omega
  rw [em, show (-(z : Int) - (-1 - z)).toNat = 1 by omega, show (max (w : Int) (-(z : Int) + 1) - -(z : Int)).toNat = z + w by omega, dgs_z]
  have e48 : dgs D w (-1 - (z : Int)) 1 = [48] := by
    show [48 + dAt D w (-1 - (z : Int))] = [48]
    unfold dAt
    rw [if_neg (by omega)]
  rw [e48]
  simp only [List.append_assoc] at hr ⊢
  exact hr
theorem mdec_C {pt : Int} {l : List Nat} {k : Int32} {a : Nat → Int32} (hfu : 100 < fu) (hN : N < 2 ^ 31) (hw : w ≤ 18) (hw0 : 0 < w) (hD : D < 2 ^ 63) (hl : tl l k a) (hb : l.length + 24 ≤ N) (h1 : -900 ≤ pt) (h2 : pt ≤ 900) (hpt : pt < -2 ∨ 7 < pt) :
    ok ((f_Mod_layDigits fu N (lN D) 0 1 (nI w) k a).bind fun u_5 =>
  (f_Mod_lay N 46 u_5.1 u_5.2).bind fun u_6 =>
  (if (nI w) ≤ 1 then
  f_Mod_layDecimal_232 fu N 520 520 520 520 520 x1 x3 (nI w) (iI (pt - 1)) (lN D) 1 2 u_6.1 aM bM fM lM rM tw pw u_6.2 aa ba fa L R
  else
  f_Mod_layDecimal_232 fu N 520 520 520 520 520 x1 x3 (nI w) (iI (pt - 1)) (lN D) 1 (nI w) u_6.1 aM bM fM lM rM tw pw u_6.2 aa ba fa L R)) (fun r => tl (l ++ dcl D w pt) r.1 r.2.2.2.2.2.2.2.2.1) := by
  unfold dcl
  rw [if_pos hpt]
  refine ok_b (mlay_dg (lo := 0) (to := 1) (d := 1) hfu hN hw hD (by omega) (by omega) hl (by omega)) (fun v1 hv1 => ?_)
  refine ok_b (mod_lay (c := 46) hv1 (by decide) (by simp only [List.length_append, dgs_len]; omega) hN) (fun v2 hv2 => ?_)
  refine ok_ii (nI_leI (b := 1) (by omega) (by decide)) (fun g => ?_) (fun g => ?_)
  · refine ok_m (mdec_232 (to := 2) (d := 1) (e := pt - 1) hfu hN hw hD (by omega) (by omega) (by decide) (by decide) hv2 (by simp only [List.length_append, dgs_len, List.length_singleton]; omega)) (fun r hr => ?_)
    rw [show max w 2 - 1 = 1 by omega]
    simp only [List.append_assoc] at hr ⊢
    exact hr
  · refine ok_m (mdec_232 (to := w) (d := w - 1) (e := pt - 1) hfu hN hw hD (by omega) (by omega) (by omega) (by omega) hv2 (by simp only [List.length_append, dgs_len, List.length_singleton]; omega)) (fun r hr => ?_)
    rw [show max w 2 - 1 = w - 1 by omega]
    simp only [List.append_assoc] at hr ⊢
    exact hr
theorem mdec_46 {P : Int} {l : List Nat} {k : Int32} {a : Nat → Int32} (hfu : 100 < fu) (hN : N < 2 ^ 31) (hd : dig D w) (hw : w ≤ 18) (hD : D < 2 ^ 63) (h1 : -800 ≤ P) (h2 : P ≤ 800) (hl : tl l k a) (hb : l.length + 24 ≤ N) :
    ∀ (d m c : Nat), c + d = w → d < m → 0 < c →
    ok (f_Mod_layDecimal_46 fu N 520 520 520 520 520 x1 x3 m (lN D) (iI P) (nI c) (lN (D / 10 ^ (c - 1))) k aM bM fM lM rM tw pw a aa ba fa L R) (fun r => tl (l ++ dcl D w (P + w)) r.1 r.2.2.2.2.2.2.2.2.1)
  | d, 0, _, _, h, _ => by omega
  | d + 1, m + 1, c, hc, hm, hc0 => by
    have hle : D / 10 ^ (c - 1) ≤ D := Nat.div_le_self _ _
    have h10 : 10 ≤ D / 10 ^ (c - 1) := by
      rw [Nat.le_div_iff_mul_le (Nat.pow_pos (by decide))]
      refine Nat.le_trans ?_ hd.2.1
      rw [Nat.mul_comm, ← Nat.pow_succ]
      exact Nat.pow_le_pow_right (by decide) (by omega)
    have e1 : D / 10 ^ (c - 1) / 10 = D / 10 ^ (c + 1 - 1) := by
      rw [Nat.div_div_eq_div_mul, ← Nat.pow_succ]
      congr 2
      omega
    rw [f_Mod_layDecimal_46_s]
    refine ok_ii ((lg_cmp_le _ _).trans (pk_lLE (b := 9) (by omega) (by decide))) (fun g => by omega) (fun g => ?_)
    rw [l_div10 (by omega), e1, nI_1]
    refine ok_l ?_
    exact mdec_46 hfu hN hd hw hD h1 h2 hl hb d m (c + 1) (by omega) (by omega) (by omega)
  | 0, m + 1, c, hc, hm, hc0 => by
    have e : c = w := by omega
    subst e
    have hle : D / 10 ^ (c - 1) ≤ D := Nat.div_le_self _ _
    have h10 : D / 10 ^ (c - 1) ≤ 9 := by
      have : D / 10 ^ (c - 1) < 10 := by
        rw [Nat.div_lt_iff_lt_mul (Nat.pow_pos (by decide)), Nat.mul_comm, ← Nat.pow_succ, show (c - 1).succ = c by omega]
        exact hd.2.2.1
      omega
    rw [f_Mod_layDecimal_46_s]
    refine ok_t (((lg_cmp_le _ _).trans (pk_lLE (b := 9) (by omega) (by decide))).mpr h10) ?_
    have eX : iI P + nI c - 1 = iI (P + c - 1) := by
      rw [← iI_nat, show (1 : Int32) = iI 1 from rfl, iI_add, iI_sub]
    rw [eX]
    refine ok_l ?_
    generalize hpt : P + (c : Int) = pt at *
    refine ok_be (mod_in_a (by omega) (by omega)) ?_
    by_cases g1 : 0 ≤ pt - 1 ∧ pt - 1 ≤ 6
    · rw [if_pos g1]
      refine ok_f (by decide) ?_
      obtain ⟨p, rfl⟩ : ∃ p : Nat, pt = p := ⟨pt.toNat, by omega⟩
      have ep1 : iI ((p : Int) - 1) + 1 = nI p := by
        rw [show (1 : Int32) = iI 1 from rfl, iI_add, ← iI_nat]
        congr 1
        omega
      have ep2 : iI ((p : Int) - 1) + 2 = nI (p + 1) := by
        rw [show (2 : Int32) = iI 2 from rfl, iI_add, ← iI_nat]
        congr 1
        omega
      rw [ep1, ep2]
      exact mdec_A hfu hN hw hc0 hD hl hb (by omega) (by omega)
    · rw [if_neg g1]
      refine ok_t rfl ?_
      refine ok_be (mod_in_b (by omega) (by omega)) ?_
      by_cases g2 : -3 ≤ pt - 1 ∧ pt - 1 ≤ -1
      · rw [if_pos g2]
        refine ok_f (by decide) ?_
        obtain ⟨z, hz⟩ : ∃ z : Nat, pt = -z := ⟨(-pt).toNat, by omega⟩
        subst hz
        rw [show -(z : Int) - 1 = -1 - z by omega]
        exact mdec_B hfu hN hw hc0 hD hl hb (by omega)
      · rw [if_neg g2]
        refine ok_t rfl ?_
        exact mdec_C hfu hN hw hc0 hD hl hb (by omega) (by omega) (by omega)
theorem mdec_14 {P : Int} {z : Nat} {l : List Nat} {k : Int32} {a : Nat → Int32} (hfu : 100 < fu) (hN : N < 2 ^ 31) (hd : dig D w) (hw : w ≤ 18) (hD : D * 10 ^ z < 2 ^ 63) (hz : z ≤ 18) (h1 : -700 ≤ P) (h2 : P ≤ 700) (hl : tl l k a) (hb : l.length + 24 ≤ N) :
    ∀ (c m i : Nat), c + i = z → c < m →
    ok (f_Mod_layDecimal_14 fu N 520 520 520 520 520 x1 x3 m (lN (D * 10 ^ c)) (iI (P + i)) k aM bM fM lM rM tw pw a aa ba fa L R) (fun r => tl (l ++ dcl D w (P + z + w)) r.1 r.2.2.2.2.2.2.2.2.1)
  | c, 0, _, _, h => by omega
  | 0, m + 1, i, hi, hm => by
    have e : i = z := by omega
    subst e
    have hD2 : D < 2 ^ 63 := Nat.lt_of_le_of_lt (Nat.le_mul_of_pos_right _ (Nat.pow_pos (by decide))) hD
    rw [Nat.pow_zero, Nat.mul_one, f_Mod_layDecimal_14_s, l_rem10 hD2]
    refine ok_ii ((lg_cmp_eq _ _).trans (pk_lEQ (b := 0) (by omega) (by decide))) (fun g => absurd g hd.2.2.2) (fun g => ?_)
    have hd0 := hd.1
    have := mdec_46 (x1 := x1) (x3 := x3) (aM := aM) (bM := bM) (fM := fM) (lM := lM) (rM := rM) (tw := tw) (pw := pw) (aa := aa) (ba := ba) (fa := fa) (L := L) (R := R) (P := P + i) hfu hN hd hw hD2 (by omega) (by omega) hl hb (w - 1) fu 1 (by omega) (by omega) (by decide)
    rw [show 1 - 1 = 0 from rfl, Nat.pow_zero, Nat.div_one] at this
    exact this
  | c + 1, m + 1, i, hi, hm => by
    have hle : D * 10 ^ (c + 1) ≤ D * 10 ^ z := Nat.mul_le_mul_left _ (Nat.pow_le_pow_right (by decide) (by omega))
    have e10 : D * 10 ^ (c + 1) = D * 10 ^ c * 10 := by rw [Nat.pow_succ, Nat.mul_assoc]
    rw [f_Mod_layDecimal_14_s, l_rem10 (by omega), l_div10 (by omega), e10, Nat.mul_mod_left, Nat.mul_div_cancel _ (by decide)]
    refine ok_t (by decide) (ok_l ?_)
    have eP : iI (P + i) + 1 = iI (P + (i + 1 : Nat)) := by
      rw [show (1 : Int32) = iI 1 from rfl, iI_add]
      congr 1
      omega
    rw [eP]
    exact mdec_14 hfu hN hd hw hD hz h1 h2 hl hb c m (i + 1) (by omega) (by omega)
end MDec
