-- the class's shortest digits, all of it
theorem st_sz2 {a B C : Nat} (h : a * 100000 < B) (hB : B ≤ C) : a * 1000 < C := Nat.lt_of_lt_of_le (Nat.lt_of_le_of_lt (Nat.mul_le_mul_left a (show 1000 ≤ 100000 by decide)) h) hB
theorem st_sz3 {a u B C : Nat} (h : a * 100000 < B) (hB : B ≤ C) (hu : u ≤ 10 * a) : u * 1000 < C := by
  refine Nat.lt_of_lt_of_le (Nat.lt_of_le_of_lt (Nat.mul_le_mul_right 1000 hu) (Nat.lt_of_le_of_lt ?_ h)) hB
  rw [Nat.mul_comm 10 a, Nat.mul_assoc]
  exact Nat.mul_le_mul_left a (by decide)
section Start2
variable {fu : Nat} {m : Nat} {q : Int} {w : Int32}
def ssR (m : Nat) (q : Int) (w : Int32) (r : Int32 × Int32 × (Nat → Int32) × Int32 × (Nat → Int32) × Int32 × (Nat → Int32)) : Prop :=
  ∃ P0 R0 U H0, sst m q w P0 R0 U H0 ∧ r.1 = iI P0 ∧ bb 40 R0 r.2.1 r.2.2.1 ∧ bb 40 U r.2.2.2.1 r.2.2.2.2.1 ∧ bb 40 H0 r.2.2.2.2.2.1 r.2.2.2.2.2.2
theorem sho_44 {h : Nat} {pw rs us hs : Int32} {ra ua ha : Nat → Int32} (hfu : 2000 < fu) (hm0 : 0 < m) (hm : m < 2 ^ 53) (hq1 : -1074 ≤ q) (hq2 : q ≤ 972) (hr : bb 40 (4 * m) rs ra) (hu : bb 40 4 us ua) (hh : (h = 2 ∧ w = 0) ∨ (h = 1 ∧ ¬ w = 0)) :
    ok (f_Sho_start_44 fu 40 40 40 (lN m) (iI q) w (lN h) pw rs ra us ua hs ha) (ssR m q w) := by
  unfold f_Sho_start_44
  refine ok_b (big_set (N := 40) (x := h) (by decide) (by decide) (by omega) (by omega)) (fun v4 hv4 => ?_)
  refine ok_b (big_bits (by decide) (by omega) hr) (fun v5 hv5 => ?_)
  obtain ⟨L, rfl, hbl, hLL⟩ := hv5
  obtain ⟨g1, g2, g3, g4, g5⟩ := st_gs (k := L - 3 + q) hbl hm0 hm hq1 hq2 rfl
  obtain ⟨t0, _, _⟩ := ten_k g2 g3
  have ek : nI L - 3 + iI q = iI (L - 3 + q) := by
    rw [← iI_nat, show (3 : Int32) = iI 3 from rfl, iI_sub, iI_add]
  rw [← ek] at t0
  refine ok_be t0 ?_
  have hqp : 0 ≤ q → 0 ≤ ((L : Int) - 3 + q) * 30103 / 100000 := fun _ => by omega
  have hp1 : -324 ≤ ((L : Int) - 3 + q) * 30103 / 100000 := by omega
  have hp2 : ((L : Int) - 3 + q) * 30103 / 100000 ≤ 309 := by omega
  generalize hp0 : ((L : Int) - 3 + q) * 30103 / 100000 = p0 at *
  have hsz := st_sz hm hq2 hp1 hqp
  have hX := Nat.two_pow_pos q.toNat
  have hY : 0 < 10 ^ (-p0).toNat := Nat.pow_pos (by decide)
  have hZ : 0 < 10 ^ p0.toNat := Nat.pow_pos (by decide)
  have i1 : 4 * m * 2 ^ q.toNat ≤ 4 * m * 2 ^ q.toNat * 10 ^ (-p0).toNat := Nat.le_mul_of_pos_right _ hY
  have i2 : h * 2 ^ q.toNat ≤ 4 * m * 2 ^ q.toNat := Nat.mul_le_mul_right _ (by omega)
  have i3 : h * 2 ^ q.toNat * 10 ^ (-p0).toNat ≤ 4 * m * 2 ^ q.toNat * 10 ^ (-p0).toNat := Nat.mul_le_mul_right _ i2
  have i4 : 4 * 2 ^ (-q).toNat ≤ 4 * 2 ^ (-q).toNat * 10 ^ p0.toNat := Nat.le_mul_of_pos_right _ hZ
  have i5 : 0 < h * 2 ^ q.toNat * 10 ^ (-p0).toNat := Nat.mul_pos (Nat.mul_pos (by omega) hX) hY
  have hBB : 4294967296 ^ 39 ≤ 4294967296 ^ 40 := Nat.pow_le_pow_right (by decide) (by decide)
  refine ok_b (shl_any (z := q) (by decide) (by decide) (by omega) (by omega) (by omega) hr (by show _ < 4294967296 ^ 39; generalize 4294967296 ^ 39 = BB at *; omega)) (fun v7 hv7 => ?_)
  refine ok_b (shl_any (z := q) (by decide) (by decide) (by omega) (by omega) (by omega) hv4 (by show _ < 4294967296 ^ 39; generalize 4294967296 ^ 39 = BB at *; omega)) (fun v8 hv8 => ?_)
  rw [iI_neg]
  refine ok_b (shl_any (z := -q) (by decide) (by decide) (by omega) (by omega) (by omega) hu (by show _ < 4294967296 ^ 39; generalize 4294967296 ^ 39 = BB at *; omega)) (fun v9 hv9 => ?_)
  refine ok_b (tens_any (z := p0) (by decide) (by decide) (by omega) (by omega) (by omega) (by omega) hv9 (by show _ < 4294967296 ^ 39; generalize 4294967296 ^ 39 = BB at *; omega)) (fun v10 hv10 => ?_)
  rw [iI_neg]
  refine ok_b (tens_any (z := -p0) (by decide) (by decide) (by omega) (by omega) (by omega) (by omega) hv7 (by show _ < 4294967296 ^ 39; generalize 4294967296 ^ 39 = BB at *; omega)) (fun v11 hv11 => ?_)
  refine ok_b (tens_any (z := -p0) (by decide) (by decide) (by omega) (by omega) (by omega) (by omega) hv8 (by show _ < 4294967296 ^ 39; generalize 4294967296 ^ 39 = BB at *; omega)) (fun v12 hv12 => ?_)
  have key := sho_134 (fu := fu) (x1 := lN m) (x3 := iI q) (w := w) (p0 := p0) (hs := v12.1) (ha := v12.2) (Ub := 4 * 2 ^ (-q).toNat * 10 ^ p0.toNat) (by omega) hv11 g5 (st_sz2 hsz hBB) 3 fu 0 v10.1 v10.2 rfl (by omega) (by rw [Nat.pow_zero, Nat.mul_one]; exact g4) (by rw [Nat.pow_zero, Nat.mul_one]; exact hv10)
  rw [show p0 + ((0 : Nat) : Int) = p0 by omega, nI_0] at key
  refine ok_m key (fun r hr => ?_)
  obtain ⟨c, hc, r1, r2, r3, r4, r5, r6, r7, r8⟩ := hr
  refine ⟨p0 + c, _, _, _, ⟨r7, r8, i5, ?_, by omega, by omega, ?_⟩, r1, ?_, r4, ?_⟩
  · exact st_sz3 hsz hBB r8
  · have id : ∀ K : Nat, 2000 ≤ K → _ := fun K hK => st_id (q := q) (p0 := p0) (c := c) (K := K) hq1 (by omega) hK
    rcases hh with ⟨rfl, hw⟩ | ⟨rfl, hw⟩
    · refine Or.inl ⟨hw, ?_, fun K hK => ?_⟩
      · generalize 2 ^ q.toNat = z1
        generalize 10 ^ (-p0).toNat = z2
        grind
      · rw [← id K hK]
        generalize 2 ^ q.toNat = z1
        generalize 10 ^ (-p0).toNat = z2
        grind
    · refine Or.inr ⟨hw, ?_, fun K hK => ?_⟩
      · generalize 2 ^ q.toNat = z1
        generalize 10 ^ (-p0).toNat = z2
        grind
      · rw [← id K hK]
        generalize 2 ^ q.toNat = z1
        generalize 10 ^ (-p0).toNat = z2
        grind
  · rw [r2, r3]; exact hv11
  · rw [r5, r6]; exact hv12
theorem sho_start {pw rs us hs : Int32} {ra ua ha : Nat → Int32} (hfu : 2000 < fu) (hm0 : 0 < m) (hm : m < 2 ^ 53) (hq1 : -1074 ≤ q) (hq2 : q ≤ 972) :
    ok (f_Sho_start fu 40 40 40 (lN m) (iI q) w pw rs ra us ua hs ha) (ssR m q w) := by
  unfold f_Sho_start
  refine ok_b (big_set (N := 40) (x := m) (by decide) (by decide) (by omega) (by omega)) (fun v1 hv1 => ?_)
  refine ok_b (big_shl (c := 2) (by decide) (by omega) (by decide) hv1 (Nat.lt_of_lt_of_le (show m * 2 ^ 2 < 2 ^ 60 by omega) (by decide +kernel)) (by decide)) (fun v2 hv2 => ?_)
  refine ok_b (big_set (N := 40) (x := 4) (by decide) (by decide) (by omega) (by decide)) (fun v3 hv3 => ?_)
  rw [show m * 2 ^ 2 = 4 * m by omega] at hv2
  refine ok_if (fun g => ?_) (fun g => ?_)
  · exact sho_44 (h := 2) hfu hm0 hm hq1 hq2 hv2 hv3 (Or.inl ⟨rfl, g⟩)
  · exact sho_44 (h := 1) hfu hm0 hm hq1 hq2 hv2 hv3 (Or.inr ⟨rfl, g⟩)
theorem st_end {P0 : Int} {R0 U H0 t : Nat} {ev : Bool} (h : sst m q w P0 R0 U H0) (hm : m < 2 ^ 53) (hm2 : ¬ w = 0 → m ≤ 2 ^ 52) (hw : (w = 0 ∧ t = 1) ∨ (¬ w = 0 ∧ t = 2)) : dnF R0 U H0 ev 17 ∨ upF R0 U H0 t ev 17 := by
  obtain ⟨h1, h2, h3, _, _, _, h7⟩ := h
  by_cases a : dnF R0 U H0 ev 17
  · exact Or.inl a
  by_cases b : upF R0 U H0 t ev 17
  · exact Or.inr b
  have a1 : ¬ 10 ^ 17 * R0 % U < 10 ^ 17 * H0 := fun q => a (Or.inl q)
  have b1 : ¬ U < 10 ^ 17 * R0 % U + t * (10 ^ 17 * H0) := fun q => b (Or.inl q)
  exfalso
  rcases hw with ⟨w0, rfl⟩ | ⟨w0, rfl⟩
  · rcases h7 with ⟨_, e, _⟩ | ⟨g, _⟩
    · rw [Nat.mul_assoc] at e
      have : m * H0 ≤ (2 ^ 53 - 1) * H0 := Nat.mul_le_mul_right _ (by omega)
      generalize m * H0 = X at *
      generalize 10 ^ 17 * R0 % U = r at *
      omega
    · exact g w0
  · have m2 := hm2 w0
    rcases h7 with ⟨g, _⟩ | ⟨_, e, _⟩
    · exact w0 g
    · rw [Nat.mul_assoc] at e
      have : m * H0 ≤ 2 ^ 52 * H0 := Nat.mul_le_mul_right _ m2
      generalize m * H0 = X at *
      generalize 10 ^ 17 * R0 % U = r at *
      omega
end Start2
theorem nar_01 (f y : Nat) : nar f y = 0 ∨ nar f y = 1 := by
  unfold nar
  by_cases h : 1 < y / 2 ^ f ∧ y % 2 ^ f = 0
  · rw [if_pos h]; exact Or.inr rfl
  · rw [if_neg h]; exact Or.inl rfl
theorem man_pos {f y : Nat} (h : 0 < y) : 0 < pm_man f y := by
  unfold pm_man
  have := Nat.two_pow_pos f
  by_cases g : y / 2 ^ f = 0
  · rw [if_pos g]; exact h
  · rw [if_neg g]; omega
theorem man_par {f y : Nat} (hf : 0 < f) : pm_man f y % 2 = y % 2 := by
  unfold pm_man
  obtain ⟨k, rfl⟩ : ∃ k, f = k + 1 := ⟨f - 1, by omega⟩
  have hdm := Nat.div_add_mod y (2 ^ (k + 1))
  by_cases g : y / 2 ^ (k + 1) = 0
  · rw [if_pos g]
  · rw [if_neg g]
    rw [Nat.pow_succ] at *
    generalize 2 ^ k = z at *
    generalize y % (z * 2) = r at *
    have e : z * 2 * (y / (z * 2)) = 2 * (z * (y / (z * 2))) := by
      generalize y / (z * 2) = s
      grind
    rw [e] at hdm
    generalize z * (y / (z * 2)) = s at *
    omega
theorem nar_man {f y : Nat} (h : nar f y = 1) : pm_man f y = 2 ^ f := by
  unfold nar at h
  by_cases g : 1 < y / 2 ^ f ∧ y % 2 ^ f = 0
  · unfold pm_man
    rw [if_neg (by omega), g.2, Nat.zero_add]
  · rw [if_neg g] at h; omega
theorem ex_bm {x f M y : Nat} {lp : Int} (h : fm x f lp M) (hy : y ≤ M * 2 ^ f) : -1074 ≤ ex f lp y ∧ ex f lp y ≤ 972 := by
  have hb := fm_b h
  obtain ⟨_, _, y3⟩ := fm_y h hy
  unfold ex
  generalize y / 2 ^ f = z at *
  rcases h with ⟨rfl, rfl, rfl, rfl⟩ | ⟨rfl, rfl, rfl, rfl⟩ <;> omega
/-- what the class finds -/
def shC (f : Nat) (lp : Int) (y : Nat) (num : Int64) (pw : Int32) : Prop :=
  ∃ P0 R0 U H0 n D, sst (pm_man f y) (ex f lp y) (nI (nar f y)) P0 R0 U H0 ∧ n ≤ 17 ∧ shR R0 U H0 (1 + nar f y) (decide (y % 2 = 0)) n D ∧ num = lN D ∧ pw = iI (P0 - n)
theorem sho_find {fu x f M y : Nat} {lp : Int} {vn ve vp rs us hs ss : Int32} {vm : Int64} {ra ua ha sa : Nat → Int32} (h : fm x f lp M) (hfu : 2000 < fu) (hy0 : 0 < y) (hy : y ≤ M * 2 ^ f) :
    ok (f_Sho_find fu 40 40 40 40 (lN y) x vn ve vm vp rs ra us ua hs ha ss sa) (fun r => shC f lp y r.2.2.1 r.2.2.2.1) := by
  have hb := fm_b h
  have hm0 := man_pos (f := f) hy0
  have hm1 := pm_man_lt f y
  have hf2 : 2 ^ (f + 1) ≤ 2 ^ 53 := Nat.pow_le_pow_right (by decide) (by omega)
  have hf3 : 2 ^ f ≤ 2 ^ 52 := Nat.pow_le_pow_right (by decide) (by omega)
  have hq := ex_bm h hy
  have hpar := man_par (f := f) (y := y) (by omega)
  have hn := nar_01 f y
  have hw : (nI (nar f y) = 0 ∧ 1 + nar f y = 1) ∨ (¬ nI (nar f y) = 0 ∧ 1 + nar f y = 2) := by
    rcases hn with e | e <;> rw [e]
    · exact Or.inl ⟨rfl, rfl⟩
    · exact Or.inr ⟨by decide, rfl⟩
  have hbo : zz_bo (nI (nar f y)) = true := by
    rcases hn with e | e <;> rw [e] <;> decide
  unfold f_Sho_find
  refine ok_be (fmt_sig h hy) (ok_be (fmt_nar h hy) ?_)
  rw [if_pos hbo]
  have tail : ∀ k1 : Int32, (k1 = 0 ↔ decide (y % 2 = 0) = false) → zz_bo k1 = true → ok (f_Sho_find_31 fu 40 40 40 40 (lN y) x (lN (pm_man f y)) k1 (nI (nar f y)) ve vm vp rs ra us ua hs ha ss sa) (fun r => shC f lp y r.2.2.1 r.2.2.2.1) := by
    intro k1 hk1 hk2
    unfold f_Sho_find_31
    rw [if_pos hk2]
    refine ok_be (fmt_pow h hy) ?_
    refine ok_b (sho_start hfu hm0 (by omega) hq.1 hq.2) (fun u hu => ?_)
    obtain ⟨P0, R0, U, H0, hs, u1, u2, u3, u4⟩ := hu
    have hend := st_end (ev := decide (y % 2 = 0)) hs (by omega) (fun g => by
      rcases hn with e | e
      · rw [e] at g; exact absurd rfl g
      · rw [nar_man e]; exact hf3) hw
    have hs' := hs
    obtain ⟨s1, s2, s3, s4, _, _, s7⟩ := hs
    have hH : H0 ≤ R0 := by
      rcases s7 with ⟨_, e, _⟩ | ⟨_, e, _⟩ <;> rw [e]
      · exact Nat.le_mul_of_pos_left _ (by omega)
      · exact Nat.le_mul_of_pos_left _ (by omega)
    have key := sho_59 (P0 := P0) (x1 := lN y) (x3 := x) (fu := fu) (N := 40) (by decide) (by omega) s1 u3 s4 hH hk1 hw hend 17 fu 0 u.2.1 u.2.2.2.2.2.1 ss u.2.2.1 u.2.2.2.2.2.2 sa (by decide) (by omega) (fun i a b => by omega) (by rw [Nat.pow_zero, Nat.one_mul]; exact Nat.le_trans hH (Nat.le_trans (Nat.le_of_lt s1) (Nat.le_mul_of_pos_left _ (by decide)))) (by rw [Nat.pow_zero, Nat.one_mul, Nat.mod_eq_of_lt s1]; exact u2) (by rw [Nat.pow_zero, Nat.one_mul]; exact u4)
    rw [Nat.pow_zero, Nat.one_mul, Nat.div_eq_of_lt s1, show P0 - ((0 : Nat) : Int) = P0 by omega] at key
    rw [u1]
    refine ok_m key (fun r hr => ?_)
    obtain ⟨n, D, n1, n2, n3, n4⟩ := hr
    exact ⟨P0, R0, U, H0, n, D, hs', n1, n2, n3, n4⟩
  rw [wb_a1 (by omega)]
  refine ok_ii ((lg_cmp_eq _ _).trans (pk_lEQ (b := 0) (by omega) (by decide))) (fun g => ?_) (fun g => ?_)
  · refine tail 1 ⟨fun q => absurd q (by decide), fun q => ?_⟩ (by decide)
    have : y % 2 = 0 := by omega
    rw [decide_eq_false_iff_not] at q
    exact absurd this q
  · refine tail 0 ⟨fun _ => ?_, fun _ => rfl⟩ (by decide)
    rw [decide_eq_false_iff_not]
    omega
