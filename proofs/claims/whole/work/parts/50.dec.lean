-- the class's decimal numbers
theorem ratio_10 {D t K : Nat} {s T : Int} (hs : s = T + t) (hK : 0 ≤ T + K) : D * 5 ^ s.toNat * 2 ^ (s + K).toNat * 5 ^ (-T).toNat = D * 10 ^ t * 5 ^ T.toNat * 2 ^ (T + K).toNat * 5 ^ (-s).toNat := by
  have a1 : 5 ^ s.toNat * 5 ^ (-T).toNat = 5 ^ t * 5 ^ T.toNat * 5 ^ (-s).toNat := by
    rw [← Nat.pow_add, ← Nat.pow_add, ← Nat.pow_add]
    congr 1
    omega
  have a2 : 2 ^ (s + K).toNat = 2 ^ t * 2 ^ (T + K).toNat := by
    rw [← Nat.pow_add]
    congr 1
    omega
  rw [show (10 : Nat) = 5 * 2 from rfl, Nat.mul_pow, a2]
  generalize 5 ^ s.toNat = y1 at *
  generalize 5 ^ (-T).toNat = y2 at *
  generalize 5 ^ t = y3 at *
  generalize 5 ^ T.toNat = y4 at *
  generalize 5 ^ (-s).toNat = y5 at *
  generalize 2 ^ t = y6 at *
  generalize 2 ^ (T + K).toNat = y7 at *
  have a3 : D * y1 * (y6 * y7) * y2 = D * (y6 * y7) * (y1 * y2) := by grind
  rw [a3, a1]
  grind
theorem dec_c {fu D x f M w z c : Nat} {lp : Int} {arr : Nat → Int32} {F ce : Int} {K : Nat} {ql : Int64} {qp qm qn qd : Int32} {qa qb : Nat → Int32} (h : fm x f lp M) (hfu : 5000 < fu) (hw : w ≤ D) (hw2 : w ≤ z) (hz : z ≤ 1200) (hc : c ≤ 1200) (hD2 : D < 2 ^ 31) (hd : ∀ i, i < w → un (arr i) < 10) (h0 : 0 < dgv 10 arr w) (hF : F = (c : Int) - (z - w : Nat)) (hc1 : -1000000 ≤ ce) (hc2 : ce ≤ 1000000) (hK : 3000000 ≤ K) :
    ok (f_RT_bitsOfDecimal fu D 128 128 x (nI w) (iI F) (iI ce) arr ql qp qm qn qa qd qb) (fun u => (310 < (ce - c) + z ∨ (ce - c) + z < -330 → u.1 = -2) ∧ (-330 ≤ (ce - c) + z ∧ (ce - c) + z ≤ 310 → rdC f M (lp + K).toNat (dgv 10 arr w * 10 ^ (z - w) * 5 ^ (ce - c).toNat * 2 ^ (ce - c + K).toNat) (5 ^ (-(ce - c)).toNat) u.1)) := by
  have hb := fm_b h
  unfold f_RT_bitsOfDecimal
  rw [iI_sub]
  refine ok_l ?_
  rw [← iI_nat w, iI_add]
  refine ok_l ?_
  have em : (w : Int) + (ce - F) = (ce - c) + z := by omega
  rw [em]
  refine ok_ii (iI_lt (a := 310) (by omega) (by omega) (by omega) (by omega)) (fun q => ?_) (fun q => ?_)
  · exact ok_s ⟨fun _ => rfl, fun g => by omega⟩
  · rw [show (-330 : Int32) = iI (-330) from rfl]
    refine ok_ii (iI_le (by omega) (by omega) (by omega) (by omega)) (fun q2 => ?_) (fun q2 => ?_)
    · have hdl := dgv_lt (B := 10) (a := arr) (k := w) (by decide) hd
      obtain ⟨s, hs⟩ : ∃ s, s = ce - F := ⟨_, rfl⟩
      rw [← hs, iI_nat]
      have hb1 : dgv 10 arr w * 5 ^ s.toNat < 2 ^ 3990 := by
        by_cases g : s ≤ 0
        · rw [show s.toNat = 0 by omega, Nat.pow_zero, Nat.mul_one]
          have a1 : (10 : Nat) ^ w ≤ 10 ^ 1200 := Nat.pow_le_pow_right (by decide) (by omega)
          have a2 : (10 : Nat) ^ 1200 < 2 ^ 3990 := by decide +kernel
          exact Nat.lt_of_lt_of_le hdl (Nat.le_trans a1 (Nat.le_of_lt a2))
        · have a0 : dgv 10 arr w * 5 ^ s.toNat < 10 ^ w * 5 ^ s.toNat := Nat.mul_lt_mul_of_pos_right hdl (Nat.pow_pos (by decide))
          have a1 : 10 ^ w * 5 ^ s.toNat ≤ 10 ^ w * 10 ^ s.toNat := Nat.mul_le_mul_left _ (Nat.pow_le_pow_left (by decide) _)
          have a2 : 10 ^ w * 10 ^ s.toNat ≤ 10 ^ 310 := by rw [← Nat.pow_add]; exact Nat.pow_le_pow_right (by decide) (by omega)
          have a3 : (10 : Nat) ^ 310 < 2 ^ 3990 := by decide +kernel
          exact Nat.lt_trans (Nat.lt_of_lt_of_le a0 (Nat.le_trans a1 a2)) a3
      have hb2 : 5 ^ (-s).toNat < 2 ^ 3990 := by
        have a1 : (5 : Nat) ^ (-s).toNat ≤ 5 ^ 1600 := Nat.pow_le_pow_right (by decide) (by omega)
        have a2 : (5 : Nat) ^ 1600 < 2 ^ 3990 := by decide +kernel
        exact Nat.lt_of_le_of_lt a1 a2
      refine ok_b (quo_div (s := s) rfl hfu hw hD2 (by omega) hd h0 (by omega) (by omega) hb1 hb2) (fun u hu => ?_)
      obtain ⟨lead, more, p, u1, u2, u3, hm, hl1, hl2, hp1, hp2, hall⟩ := hu
      obtain ⟨k0, k1⟩ := hall K (by omega) (by omega)
      have h5 : 0 < 5 ^ (-s).toNat := Nat.pow_pos (by decide)
      obtain ⟨low, n1, n2⟩ := fmt_near (fu := fu) (lead := lead) (more := more) (p := p) (K := K) (X := dgv 10 arr w * 5 ^ s.toNat * 2 ^ (s + K).toNat) (B := 5 ^ (-s).toNat) h (by omega) (by omega) (by omega) hl2 (by omega) (by omega) (by omega) hm h5 (fun _ => by omega) k0 (fun g => (k1 g).1) (fun g => (k1 g).2)
      rw [u1, u2, u3]
      refine ok_be n2 (ok_s ⟨fun g => by omega, fun _ => ?_⟩)
      refine rdC_ratio (X := dgv 10 arr w * 5 ^ s.toNat * 2 ^ (s + K).toNat) (B := 5 ^ (-s).toNat) ?_ h5 (Nat.pow_pos (by decide)) ⟨low, n1, rfl⟩
      exact ratio_10 (by omega) (by omega)
    · exact ok_s ⟨fun _ => rfl, fun g => by omega⟩
/-! the answer of a read -/
theorem mod_131 {fu : Nat} {x : Int32} {f M b n : Nat} {lp : Int} {tx0 : Nat → Int32} {len th we no be aM bM lM rM tw at0 dgs pw gd : Int32} {aa ba L R : Nat → Int32} (h : fs x f lp M) (hb : b ≤ M * 2 ^ f) :
    ok (f_Mod_read_131 fu n 520 520 520 520 x tx0 (lN b) len th we no be aM bM lM rM tw at0 dgs pw gd aa ba L R) (fun u => u.2.1 = len ∧ u.2.2.2.2.1 = no ∧ (b = 0 ∨ M * 2 ^ f ≤ b → u.2.2.1 = 2 ∧ u.2.2.2.1 = we ∧ u.2.2.2.2.2.1 = be + 1) ∧ (¬ (b = 0 ∨ M * 2 ^ f ≤ b) → u.1 = lN b ∧ u.2.2.1 = 0 ∧ u.2.2.2.1 = we + 1 ∧ u.2.2.2.2.2.1 = be)) := by
  have hbb := fs_b h
  have hG : 0 < M * 2 ^ f := Nat.mul_pos (by omega) (Nat.two_pow_pos f)
  unfold f_Mod_read_131
  refine ok_ii ((lg_cmp_eq _ _).trans (pk_lEQ (b := 0) (by omega) (by decide))) (fun q => ?_) (fun q => ?_)
  · exact ok_s ⟨rfl, rfl, fun _ => ⟨rfl, rfl, rfl⟩, fun g => absurd (Or.inl q) g⟩
  · refine ok_be (mod_great h) (ok_ii ((lg_cmp_le _ _).trans (pk_lLE (by omega) (by omega))) (fun q2 => ?_) (fun q2 => ?_))
    · exact ok_s ⟨rfl, rfl, fun g => by omega, fun _ => ⟨rfl, rfl, rfl, rfl⟩⟩
    · exact ok_s ⟨rfl, rfl, fun _ => ⟨rfl, rfl, rfl⟩, fun g => by omega⟩
/-- out of range, or bits b -/
def mF (len we no be : Int32) (u : Int64 × Int32 × Int32 × Int32 × Int32 × Int32 × Int32 × Int32 × Int32 × Int32 × Int32 × Int32 × Int32 × Int32 × Int32 × (Nat → Int32) × (Nat → Int32) × (Nat → Int32) × (Nat → Int32)) : Prop := u.2.1 = len ∧ u.2.2.1 = 2 ∧ u.2.2.2.1 = we ∧ u.2.2.2.2.1 = no ∧ u.2.2.2.2.2.1 = be + 1
def mS (r : Int64) (len we no be : Int32) (u : Int64 × Int32 × Int32 × Int32 × Int32 × Int32 × Int32 × Int32 × Int32 × Int32 × Int32 × Int32 × Int32 × Int32 × Int32 × (Nat → Int32) × (Nat → Int32) × (Nat → Int32) × (Nat → Int32)) : Prop := u.1 = r ∧ u.2.1 = len ∧ u.2.2.1 = 0 ∧ u.2.2.2.1 = we + 1 ∧ u.2.2.2.2.1 = no ∧ u.2.2.2.2.2.1 = be
def hiL (h : Bool) : Int := if h then 1100 else 400
def loL (h : Bool) : Int := if h then -1200 else -400
theorem mod_64 {fu n : Nat} {x : Int32} {f M v z K : Nat} {lp T : Int} {h : Bool} {tx0 : Nat → Int32} {len th we no be aM bM lM rM tw at0 dgs gd : Int32} {aa ba L R : Nat → Int32} (hf : fs x f lp M) (hfu : 3000 < fu) (hK : 10000 ≤ K) (ha : bm 520 v aM aa) (h0 : 0 < v) (hz : z ≤ 1200) (hT1 : -200000000 < T) (hT2 : T < 200000000) (hzi : zi (bs h) (v, 0, z)) :
    ok (f_Mod_read_64 fu n 520 520 520 520 x tx0 (hI h) (iI (T + (b4 h * z : Nat))) len th we no be aM bM lM rM tw at0 dgs (iI T) gd aa ba L R) (fun u => ((hiL h < T + (b4 h * z : Nat) ∨ T + (b4 h * z : Nat) < loL h) → mF len we no be u) ∧ (loL h ≤ T + (b4 h * z : Nat) ∧ T + (b4 h * z : Nat) ≤ hiL h → ∃ b, b ≤ M * 2 ^ f ∧ rdM f M (lp + K).toNat (v * (if h then 1 else 5 ^ T.toNat) * 2 ^ (T + K).toNat) (if h then 1 else 5 ^ (-T).toNat) b ∧ (b = 0 ∨ M * 2 ^ f ≤ b → mF len we no be u) ∧ (¬ (b = 0 ∨ M * 2 ^ f ≤ b) → mS (lN b) len we no be u))) := by
  have hbb := fs_b hf
  have hG : 0 < M * 2 ^ f := Nat.mul_pos (by omega) (Nat.two_pow_pos f)
  have hb4 : b4 h * z ≤ 4800 := by
    cases h
    · show 1 * z ≤ 4800; omega
    · show 4 * z ≤ 4800; omega
  have hpos : ¬ aM ≤ 0 := fun q => by have := (bm_pos (by decide) ha).mp q; omega
  have hhl : loL h ≤ 0 ∧ -1200 ≤ loL h ∧ 0 ≤ hiL h ∧ hiL h ≤ 1100 := by cases h <;> decide
  have key : ok (f_Mod_read_91 fu n 520 520 520 520 x tx0 (hI h) (iI (T + (b4 h * z : Nat))) (iI (T + (b4 h * z : Nat))) (iI (hiL h)) len th we no be aM bM lM rM tw at0 dgs (iI T) gd aa ba L R) (fun u => ((hiL h < T + (b4 h * z : Nat) ∨ T + (b4 h * z : Nat) < loL h) → mF len we no be u) ∧ (loL h ≤ T + (b4 h * z : Nat) ∧ T + (b4 h * z : Nat) ≤ hiL h → ∃ b, b ≤ M * 2 ^ f ∧ rdM f M (lp + K).toNat (v * (if h then 1 else 5 ^ T.toNat) * 2 ^ (T + K).toNat) (if h then 1 else 5 ^ (-T).toNat) b ∧ (b = 0 ∨ M * 2 ^ f ≤ b → mF len we no be u) ∧ (¬ (b = 0 ∨ M * 2 ^ f ≤ b) → mS (lN b) len we no be u))) := by
    unfold f_Mod_read_91
    refine ok_ii (iI_le (by omega) (by omega) (by omega) (by omega)) (fun q => ?_) (fun q => ?_)
    · have t118 : ok (f_Mod_read_118 fu n 520 520 520 520 x tx0 (hI h) (iI (T + (b4 h * z : Nat))) (iI (loL h)) len th we no be aM bM lM rM tw at0 dgs (iI T) gd aa ba L R) (fun u => ((hiL h < T + (b4 h * z : Nat) ∨ T + (b4 h * z : Nat) < loL h) → mF len we no be u) ∧ (loL h ≤ T + (b4 h * z : Nat) ∧ T + (b4 h * z : Nat) ≤ hiL h → ∃ b, b ≤ M * 2 ^ f ∧ rdM f M (lp + K).toNat (v * (if h then 1 else 5 ^ T.toNat) * 2 ^ (T + K).toNat) (if h then 1 else 5 ^ (-T).toNat) b ∧ (b = 0 ∨ M * 2 ^ f ≤ b → mF len we no be u) ∧ (¬ (b = 0 ∨ M * 2 ^ f ≤ b) → mS (lN b) len we no be u))) := by
        unfold f_Mod_read_118
        refine ok_ii (iI_le (by omega) (by omega) (by omega) (by omega)) (fun q2 => ?_) (fun q2 => ?_)
        · have hfo := mod_found (fu := fu) (h := h) (v := v) (K := K) (T := T) (aM := aM) (bM := bM) (lM := lM) (rM := rM) (tw := tw) (aa := aa) (ba := ba) (L := L) (R := R) hf hfu hK ha (by omega) (by omega) ?_ ?_
          · refine ok_b hfo (fun r hr => ?_)
            obtain ⟨b, r1, r2⟩ := hr
            have hbm : b ≤ M * 2 ^ f := by
              obtain ⟨lm, m1, m2, _, _⟩ := r2
              have := pm_near_ge f (lp + K).toNat (v * (if h then 1 else 5 ^ T.toNat) * 2 ^ (T + K).toNat) (if h then 1 else 5 ^ (-T).toNat) lm
              omega
            rw [r1]
            refine ok_m (mod_131 hf hbm) (fun u hu => ⟨fun g => by omega, fun _ => ⟨b, hbm, r2, fun g => ?_, fun g => ?_⟩⟩)
            · have := hu.2.2.1 g
              exact ⟨hu.1, this.1, this.2.1, hu.2.1, this.2.2⟩
            · have := hu.2.2.2 g
              exact ⟨this.1, hu.1, this.2.1, this.2.2.1, hu.2.1, this.2.2.2⟩
          · intro g
            subst g
            have := hzi.1
            refine Nat.lt_of_lt_of_le this ?_
            show 16 ^ z ≤ _
            rw [show (16 : Nat) = 2 ^ 4 from rfl, ← Nat.pow_mul]
            exact Nat.pow_le_pow_right (by decide) (by omega)
          · intro g
            subst g
            have hv : v < 10 ^ z := hzi.1
            have e1 : b4 false * z = z := by show 1 * z = z; omega
            rw [e1] at q q2
            change T + z ≤ 400 at q
            change -400 ≤ T + z at q2
            have a2 : (10 : Nat) ^ 1200 < 2 ^ 4000 := by decide +kernel
            have hv2 : v < 2 ^ 4000 := Nat.lt_of_lt_of_le hv (Nat.le_trans (Nat.pow_le_pow_right (by decide) hz) (Nat.le_of_lt a2))
            refine ⟨by omega, by omega, hv2, ?_⟩
            by_cases g : T ≤ 0
            · rw [show T.toNat = 0 by omega, Nat.pow_zero, Nat.mul_one]; exact hv2
            · have b0 : v * 5 ^ T.toNat < 10 ^ z * 5 ^ T.toNat := Nat.mul_lt_mul_of_pos_right hv (Nat.pow_pos (by decide))
              have b1 : 10 ^ z * 5 ^ T.toNat ≤ 10 ^ z * 10 ^ T.toNat := Nat.mul_le_mul_left _ (Nat.pow_le_pow_left (by decide) _)
              have b2 : 10 ^ z * 10 ^ T.toNat ≤ 10 ^ 1200 := by rw [← Nat.pow_add]; exact Nat.pow_le_pow_right (by decide) (by omega)
              exact Nat.lt_trans (Nat.lt_of_lt_of_le b0 (Nat.le_trans b1 b2)) a2
        · refine ok_m (mod_131 (b := 0) hf (Nat.zero_le _)) (fun u hu => ⟨fun _ => ?_, fun g => by omega⟩)
          have := hu.2.2.1 (Or.inl rfl)
          exact ⟨hu.1, this.1, this.2.1, hu.2.1, this.2.2⟩
      cases h with
      | false => exact ok_t rfl t118
      | true => exact ok_f (by decide) t118
    · refine ok_be (mod_great hf) ?_
      rw [lN_1, show M * 2 ^ f - 1 + 1 = M * 2 ^ f by omega]
      refine ok_m (mod_131 (b := M * 2 ^ f) hf (Nat.le_refl _)) (fun u hu => ⟨fun _ => ?_, fun g => by omega⟩)
      have := hu.2.2.1 (Or.inr (Nat.le_refl _))
      exact ⟨hu.1, this.1, this.2.1, hu.2.1, this.2.2⟩
  unfold f_Mod_read_64
  refine ok_f hpos ?_
  cases h with
  | false => exact ok_t rfl key
  | true => exact ok_f (by decide) key
