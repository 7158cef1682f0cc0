-- the reference's bits and its nearest
def fs (x : Int32) (f : Nat) (lp : Int) (M : Nat) : Prop := (¬ x = 0 ∧ f = 23 ∧ lp = -149 ∧ M = 255) ∨ (x = 0 ∧ f = 52 ∧ lp = -1074 ∧ M = 2047)
theorem fs_b {x : Int32} {f M : Nat} {lp : Int} (h : fs x f lp M) : 23 ≤ f ∧ f ≤ 52 ∧ -1074 ≤ lp ∧ lp ≤ -149 ∧ 255 ≤ M ∧ M ≤ 2047 ∧ M * 2 ^ f < 2 ^ 63 ∧ lp + M ≤ 973 := by
  rcases h with ⟨_, rfl, rfl, rfl⟩ | ⟨_, rfl, rfl, rfl⟩ <;> decide
/-- the power of two of bits y -/
def ex (f : Nat) (lp : Int) (y : Nat) : Int := lp + (y / 2 ^ f - 1 : Nat)
theorem ex_K {f y K : Nat} {lp : Int} (h : 0 ≤ lp + K) : (ex f lp y + K).toNat = pm_exp f (lp + K).toNat y := by
  unfold ex pm_exp
  omega
theorem pm_man_lt (f y : Nat) : pm_man f y < 2 ^ (f + 1) := by
  obtain ⟨s, k, _, hk, _, hm, _⟩ := pm_parts f y
  rw [hm]
  exact hk
theorem mod_man_11 {x : Int32} {f y : Nat} (hf : f ≤ 52) (hy : y < 2 ^ 63) : f_Mod_mantissa_11 (lN y) x (nI f) = some (lN (pm_man f y)) := by
  apply ok_e
  unfold f_Mod_mantissa_11
  have h1 : lN (2 ^ f) - 1 = lN (2 ^ f - 1) := lN_sub (b := 1) (Nat.two_pow_pos f)
  have hd : y / 2 ^ f ≤ y := Nat.div_le_self _ _
  rw [wb_shl1 (by omega), h1, wb_mask (by omega) (by omega), wb_sshr hy (by omega)]
  refine ok_l ?_
  unfold pm_man
  refine ok_ii ((lg_cmp_eq _ _).trans (pk_lEQ (b := 0) (by omega) (by decide))) (fun q => ?_) (fun q => ?_)
  · rw [if_pos q]
    refine ok_s ?_
    congr 1
    rcases (Nat.div_eq_zero_iff).mp q with g | g
    · have := Nat.two_pow_pos f; omega
    · exact Nat.mod_eq_of_lt g
  · rw [if_neg q, lN_add]
    exact ok_s rfl
theorem mod_man {x : Int32} {f M y : Nat} {lp : Int} (h : fs x f lp M) (hy : y < 2 ^ 63) : f_Mod_mantissa (lN y) x = some (lN (pm_man f y)) := by
  unfold f_Mod_mantissa
  rcases h with ⟨h0, rfl, rfl, rfl⟩ | ⟨h0, rfl, rfl, rfl⟩
  · rw [if_neg h0]; exact mod_man_11 (by decide) hy
  · rw [if_pos h0]; exact mod_man_11 (by decide) hy
theorem mod_ex_12 {x : Int32} {f y M : Nat} (hf : f ≤ 52) (hy : y < 2 ^ 63) (hM : y / 2 ^ f ≤ M) (hM2 : M ≤ 2047) {c : Nat} (hc : ∀ k, f_Mod_exponent_24 (lN y) x (nI k) = some (iI (k - c))) : f_Mod_exponent_12 (lN y) x (lN y) (nI f) = some (iI (((y / 2 ^ f - 1 : Nat) : Int) + (1 - c))) := by
  apply ok_e
  unfold f_Mod_exponent_12
  rw [wb_sshr hy (by omega), lN_i]
  refine ok_l ?_
  generalize y / 2 ^ f = z at *
  refine ok_ii (nI_eq (b := 0) (by omega) (by decide)) (fun q => ?_) (fun q => ?_)
  · rw [show (1 : Int32) = nI 1 from rfl, hc, q]
    refine ok_s ?_
    congr 1
    omega
  · rw [hc]
    refine ok_s ?_
    congr 1
    omega
theorem mod_ex {x : Int32} {f M y : Nat} {lp : Int} (h : fs x f lp M) (hy : y ≤ M * 2 ^ f) : f_Mod_exponent (lN y) x = some (iI (ex f lp y)) := by
  have hb := fs_b h
  have hM : y / 2 ^ f ≤ M := by
    rw [Nat.div_le_iff_le_mul (Nat.two_pow_pos f)]
    have := Nat.two_pow_pos f
    omega
  unfold f_Mod_exponent
  rcases h with ⟨h0, rfl, rfl, rfl⟩ | ⟨h0, rfl, rfl, rfl⟩
  · rw [if_neg h0]
    have := mod_ex_12 (x := x) (f := 23) (y := y) (M := 255) (c := 150) (by decide) (by omega) hM (by decide) (fun k => by
      unfold f_Mod_exponent_24
      rw [if_neg h0, show (150 : Int32) = iI 150 from rfl, ← iI_nat, iI_sub]; rfl)
    refine Eq.trans this ?_
    congr 2
  · rw [if_pos h0]
    have := mod_ex_12 (x := x) (f := 52) (y := y) (M := 2047) (c := 1075) (by decide) (by omega) hM (by decide) (fun k => by
      unfold f_Mod_exponent_24
      rw [if_pos h0, show (1075 : Int32) = iI 1075 from rfl, ← iI_nat, iI_sub]; rfl)
    refine Eq.trans this ?_
    congr 2
theorem mod_great {x : Int32} {f M : Nat} {lp : Int} (h : fs x f lp M) : f_Mod_greatest x = some (lN (M * 2 ^ f - 1)) := by
  unfold f_Mod_greatest
  rcases h with ⟨h0, rfl, rfl, rfl⟩ | ⟨h0, rfl, rfl, rfl⟩
  · rw [if_neg h0]; rfl
  · rw [if_pos h0]; rfl
theorem ex_b {x : Int32} {f M y : Nat} {lp : Int} (h : fs x f lp M) (hy : y ≤ M * 2 ^ f) : -1074 ≤ ex f lp y ∧ ex f lp y ≤ 973 := by
  have hb := fs_b h
  have hM : y / 2 ^ f ≤ M := by
    rw [Nat.div_le_iff_le_mul (Nat.two_pow_pos f)]
    have := Nat.two_pow_pos f
    omega
  unfold ex
  omega
section Near
variable {fu N : Nat} {x : Int32} {f M : Nat} {lp : Int} {aM bM : Int32} {aa ba : Nat → Int32} {a b K : Nat} {T : Int}
/-- what the rows and the powers must keep to, so that every compare fits -/
def fits3 (N a b : Nat) (T : Int) : Prop := -2 ^ 27 < T ∧ T < 2 ^ 27 ∧ b < 65536 ^ (N - 5) ∧ b * 2 ^ (64 + (1000 - T).toNat) < 65536 ^ (N - 1) ∧ a * 2 ^ (T + 1100).toNat < 65536 ^ (N - 1)
theorem mod_cmpq {m : Nat} {q : Int} {lM rM : Int32} {L R : Nat → Int32} (hN : N < 2 ^ 30) (hN5 : 5 ≤ N) (hfu : N < fu) (ha : bm N a aM aa) (hb : bm N b bM ba) (h3 : fits3 N a b T) (hTK : 0 ≤ T + K) (hq1 : -1100 ≤ q) (hq2 : q ≤ 1000) (hqK : 0 ≤ q + K) (hm : m < 2 ^ 63) :
    ok (f_Mod_compare fu N N N N (lN m) (iI q) aM bM lM rM (iI T) aa ba L R) (fun r => sg r.1 (a * 2 ^ (T + K).toNat) (b * m * 2 ^ (q + K).toNat)) := by
  obtain ⟨t1, t2, t3, t4, t5⟩ := h3
  have l1 : b * m * 2 ^ (q - T).toNat < 65536 ^ (N - 1) := by
    refine Nat.lt_of_le_of_lt ?_ t4
    rw [Nat.pow_add, ← Nat.mul_assoc]
    exact Nat.mul_le_mul (Nat.mul_le_mul_left _ (by omega)) (Nat.pow_le_pow_right (by decide) (by omega))
  have l2 : a * 2 ^ (T - q).toNat < 65536 ^ (N - 1) := by
    refine Nat.lt_of_le_of_lt ?_ t5
    exact Nat.mul_le_mul_left _ (Nat.pow_le_pow_right (by decide) (by omega))
  refine ok_m (mod_cmp hN hfu hN5 (by omega) (by omega) (by omega) (by omega) hm ha hb t3 l1 l2) (fun r hr => ?_)
  exact sg_K hr hTK hqK
theorem mod_cmpV {y : Nat} {lM rM : Int32} {L R : Nat → Int32} (h : fs x f lp M) (hN : N < 2 ^ 30) (hN5 : 5 ≤ N) (hfu : N < fu) (ha : bm N a aM aa) (hb : bm N b bM ba) (h3 : fits3 N a b T) (hTK : 0 ≤ T + K) (hK : 0 ≤ lp + K) (hy : y ≤ M * 2 ^ f) :
    ok (f_Mod_compare fu N N N N (lN (pm_man f y)) (iI (ex f lp y)) aM bM lM rM (iI T) aa ba L R) (fun r => sg r.1 (a * 2 ^ (T + K).toNat) (pm_val f (lp + K).toNat y * b)) := by
  have hx := ex_b h hy
  have hm := pm_man_lt f y
  have hbb := fs_b h
  have h2f : 2 ^ (f + 1) ≤ 2 ^ 53 := Nat.pow_le_pow_right (by decide) (by omega)
  refine ok_m (mod_cmpq hN hN5 hfu ha hb h3 hTK (by omega) (by omega) (by unfold ex; omega) (by omega)) (fun r hr => ?_)
  rw [ex_K hK] at hr
  unfold pm_val
  rw [Nat.mul_comm _ b, ← Nat.mul_assoc]
  exact hr
theorem sg_2 {r : Int32} {v w : Nat} (h : sg r v w) : sg r (2 * v) (2 * w) := by
  obtain ⟨h1, h2, h3⟩ := h
  refine ⟨by rw [h1]; omega, by rw [h2]; omega, by rw [h3]; omega⟩
theorem mod_above {y : Nat} {lM rM : Int32} {L R : Nat → Int32} (h : fs x f lp M) (hN : N < 2 ^ 30) (hN5 : 5 ≤ N) (hfu : N < fu) (ha : bm N a aM aa) (hb : bm N b bM ba) (h3 : fits3 N a b T) (hTK : 0 ≤ T + K) (hK : 1 ≤ lp + K) (hy : y ≤ M * 2 ^ f) :
    ok (f_Mod_above fu N N N N (lN y) x aM bM lM rM (iI T) aa ba L R) (fun r => sg r.1 (2 * (a * 2 ^ (T + K).toNat)) (pm_mid f (lp + K).toNat y * b)) := by
  have hx := ex_b h hy
  have hm := pm_man_lt f y
  have hbb := fs_b h
  have h2f : 2 ^ (f + 1) ≤ 2 ^ 53 := Nat.pow_le_pow_right (by decide) (by omega)
  unfold f_Mod_above
  refine ok_be (mod_man h (by omega)) (ok_be (mod_ex h hy) ?_)
  rw [show (2 : Int64) = lN 2 from rfl, lN_mul, lN_1, show (1 : Int32) = iI 1 from rfl, iI_sub]
  refine ok_b (mod_cmpq (K := K) hN hN5 hfu ha hb h3 hTK (by omega) (by omega) (by unfold ex; omega) (by omega)) (fun r hr => ok_s ?_)
  have := sg_2 hr
  have e : pm_mid f (lp + K).toNat y * b = 2 * (b * (2 * pm_man f y + 1) * 2 ^ (ex f lp y - 1 + K).toNat) := by
    unfold pm_mid
    rw [← ex_K (by omega), show (ex f lp y + K).toNat = (ex f lp y - 1 + K).toNat + 1 by unfold ex; omega, Nat.pow_succ]
    generalize 2 ^ (ex f lp y - 1 + K).toNat = z
    grind
  rw [e]
  exact this
theorem mod_near_76 {y : Nat} {lM rM : Int32} {L R : Nat → Int32} (h : fs x f lp M) (hN : N < 2 ^ 30) (hN5 : 5 ≤ N) (hfu : N < fu) (ha : bm N a aM aa) (hb : bm N b bM ba) (h3 : fits3 N a b T) (hTK : 0 ≤ T + K) (hK : 1 ≤ lp + K) (hy : y ≤ M * 2 ^ f) :
    ok (f_Mod_nearest_76 fu N N N N x aM bM (iI T) aa ba (lN y) lM rM L R) (fun r => r.1 = lN (pm_near f (lp + K).toNat (a * 2 ^ (T + K).toNat) b y)) := by
  have hbb := fs_b h
  unfold f_Mod_nearest_76
  refine ok_b (mod_above h hN hN5 hfu ha hb h3 hTK hK hy) (fun r hr => ?_)
  obtain ⟨_, s2, s3⟩ := hr
  unfold pm_near
  refine ok_ii s3 (fun q => ?_) (fun q => ?_)
  · rw [if_pos (Or.inl q)]
    exact ok_s (lN_1 y)
  · refine ok_ii s2 (fun q2 => ?_) (fun q2 => ?_)
    · rw [wb_a1 (by omega)]
      refine ok_ii ((lg_cmp_eq _ _).trans (pk_lEQ (b := 1) (by omega) (by decide))) (fun q3 => ?_) (fun q3 => ?_)
      · rw [if_pos (Or.inr ⟨q2.symm, q3⟩)]
        exact ok_s (lN_1 y)
      · rw [if_neg (by omega)]
        exact ok_s rfl
    · rw [if_neg (by omega)]
      exact ok_s rfl
theorem mod_near_11 (h : fs x f lp M) (hN : N < 2 ^ 30) (hN5 : 5 ≤ N) (hfu : N < fu) (ha : bm N a aM aa) (hb : bm N b bM ba) (h3 : fits3 N a b T) (hTK : 0 ≤ T + K) (hK : 1 ≤ lp + K) :
    ∀ (d n i lo hi : Nat) (lM rM : Int32) (L R : Nat → Int32), i + d = 63 → d < n → lo ≤ hi → hi - lo < 2 ^ d → hi ≤ M * 2 ^ f - 1 → pm_val f (lp + K).toNat lo * b ≤ a * 2 ^ (T + K).toNat → (hi < M * 2 ^ f - 1 → a * 2 ^ (T + K).toNat < pm_val f (lp + K).toNat (hi + 1) * b) →
    ok (f_Mod_nearest_11 fu N N N N x aM bM (iI T) aa ba n (lN lo) (lN hi) (nI i) lM rM L R) (fun r => ∃ low, r.1 = lN (pm_near f (lp + K).toNat (a * 2 ^ (T + K).toNat) b low) ∧ low ≤ M * 2 ^ f - 1 ∧ pm_val f (lp + K).toNat low * b ≤ a * 2 ^ (T + K).toNat ∧ (low < M * 2 ^ f - 1 → a * 2 ^ (T + K).toNat < pm_val f (lp + K).toNat (low + 1) * b))
  | d, 0, _, _, _, _, _, _, _, _, hn, _, _, _, _, _ => by omega
  | d, n + 1, i, lo, hi, lM, rM, L, R, hid, hn, hle, hdf, hhi, hlo, hup => by
    have hbb := fs_b h
    have hM0 : 0 < M * 2 ^ f := Nat.mul_pos (by omega) (Nat.two_pow_pos f)
    rw [f_Mod_nearest_11_s]
    refine ok_f (fun g => ?_) ?_
    · rw [show (70 : Int32) = nI 70 from rfl, nI_leI (by omega) (by omega)] at g; omega
    · refine ok_ii ((lg_cmp_ge _ _).trans (pk_lLE (by omega) (by omega))) (fun q => ?_) (fun q => ?_)
      · have e : lo = hi := by omega
        subst e
        refine ok_m (mod_near_76 h hN hN5 hfu ha hb h3 hTK hK (by omega)) (fun r hr => ⟨lo, hr, hhi, hlo, hup⟩)
      · have hd0 : 0 < d := by
          rcases Nat.eq_zero_or_pos d with g | g
          · subst g; simp at hdf; omega
          · exact g
        obtain ⟨d', rfl⟩ : ∃ d', d = d' + 1 := ⟨d - 1, by omega⟩
        rw [Nat.pow_succ] at hdf
        have emid : lN lo + (lN hi - lN lo + 1) / 2 = lN (lo + (hi - lo + 1) / 2) := by
          rw [lN_sub hle, lN_1, show (2 : Int64) = lN 2 from rfl, pk_lDiv (by omega) (by decide) (by decide), lN_add]
        rw [emid]
        refine ok_l (ok_be (mod_man h (by omega)) (ok_be (mod_ex h (by omega)) ?_))
        refine ok_b (mod_cmpV h hN hN5 hfu ha hb h3 hTK (by omega) (by omega)) (fun r hr => ?_)
        obtain ⟨s1, s2, s3⟩ := hr
        rw [nI_1]
        refine ok_ii s1 (fun q2 => ?_) (fun q2 => ?_)
        · rw [show lN (lo + (hi - lo + 1) / 2) - 1 = lN (lo + (hi - lo + 1) / 2 - 1) from lN_sub (b := 1) (by omega)]
          refine ok_l (mod_near_11 h hN hN5 hfu ha hb h3 hTK hK d' n (i + 1) lo _ _ _ _ _ (by omega) (by omega) (by omega) (by omega) (by omega) hlo (fun _ => ?_))
          rw [show lo + (hi - lo + 1) / 2 - 1 + 1 = lo + (hi - lo + 1) / 2 by omega]
          exact q2
        · exact mod_near_11 h hN hN5 hfu ha hb h3 hTK hK d' n (i + 1) _ hi _ _ _ _ (by omega) (by omega) (by omega) (by omega) hhi (by omega) hup
theorem mod_near {lM rM : Int32} {L R : Nat → Int32} (h : fs x f lp M) (hN : N < 2 ^ 30) (hN5 : 5 ≤ N) (hfu : N < fu) (hfu2 : 64 < fu) (ha : bm N a aM aa) (hb : bm N b bM ba) (h3 : fits3 N a b T) (hTK : 0 ≤ T + K) (hK : 1 ≤ lp + K) :
    ok (f_Mod_nearest fu N N N N x aM bM lM rM (iI T) aa ba L R) (fun r => ∃ low, r.1 = lN (pm_near f (lp + K).toNat (a * 2 ^ (T + K).toNat) b low) ∧ low ≤ M * 2 ^ f - 1 ∧ pm_val f (lp + K).toNat low * b ≤ a * 2 ^ (T + K).toNat ∧ (low < M * 2 ^ f - 1 → a * 2 ^ (T + K).toNat < pm_val f (lp + K).toNat (low + 1) * b)) := by
  have hbb := fs_b h
  have hM0 : 0 < M * 2 ^ f := Nat.mul_pos (by omega) (Nat.two_pow_pos f)
  unfold f_Mod_nearest
  refine ok_be (mod_great h) ?_
  have v0 := pm_form f (lp + K).toNat 0 0 (Nat.zero_le _) (Or.inl rfl)
  simp only [Nat.zero_mul, Nat.zero_add] at v0
  exact mod_near_11 h hN hN5 hfu ha hb h3 hTK hK 63 fu 0 0 _ _ _ _ _ (by omega) (by omega) (by omega) (by omega) (by omega) (by rw [v0]; omega) (by omega)
end Near
