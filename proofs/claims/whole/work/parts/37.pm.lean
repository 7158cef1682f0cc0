-- numbers with a point, as whole numbers: bits, the number that they tell (times a power of two), the nearest
def pm_man (f b : Nat) : Nat := if b / 2 ^ f = 0 then b else b % 2 ^ f + 2 ^ f
def pm_exp (f E0 b : Nat) : Nat := b / 2 ^ f - 1 + E0
def pm_val (f E0 b : Nat) : Nat := pm_man f b * 2 ^ pm_exp f E0 b
theorem pm_form (f E0 s k : Nat) (hk : k ≤ 2 ^ (f + 1)) (h : s = 0 ∨ 2 ^ f ≤ k) : pm_val f E0 (s * 2 ^ f + k) = k * 2 ^ (s + E0) := by
  have hp : 0 < 2 ^ f := Nat.two_pow_pos f
  have h2 : 2 ^ (f + 1) = 2 * 2 ^ f := by rw [Nat.pow_succ, Nat.mul_comm]
  unfold pm_val pm_man pm_exp
  by_cases c1 : k < 2 ^ f
  · have hs : s = 0 := by
      rcases h with h | h
      · exact h
      · omega
    subst hs
    have e1 : (0 * 2 ^ f + k) / 2 ^ f = 0 := by rw [Nat.zero_mul, Nat.zero_add, Nat.div_eq_of_lt c1]
    rw [if_pos e1, e1]
    simp
  · by_cases c2 : k < 2 ^ (f + 1)
    · have e0 : s * 2 ^ f + k = (k - 2 ^ f) + 2 ^ f * (s + 1) := by rw [Nat.mul_add, Nat.mul_comm (2 ^ f) s, Nat.mul_one]; omega
      have e1 : (s * 2 ^ f + k) / 2 ^ f = s + 1 := by rw [e0, Nat.add_mul_div_left _ _ hp, Nat.div_eq_of_lt (by omega), Nat.zero_add]
      have e2 : (s * 2 ^ f + k) % 2 ^ f = k - 2 ^ f := by rw [e0, Nat.add_mul_mod_self_left, Nat.mod_eq_of_lt (by omega)]
      rw [if_neg (by rw [e1]; omega), e1, e2]
      have e3 : k - 2 ^ f + 2 ^ f = k := by omega
      rw [e3]
      rfl
    · have hk2 : k = 2 * 2 ^ f := by omega
      have e0 : s * 2 ^ f + k = 0 + 2 ^ f * (s + 2) := by rw [Nat.mul_add, Nat.mul_comm (2 ^ f) s]; omega
      have e1 : (s * 2 ^ f + k) / 2 ^ f = s + 2 := by rw [e0, Nat.add_mul_div_left _ _ hp, Nat.zero_div, Nat.zero_add]
      have e2 : (s * 2 ^ f + k) % 2 ^ f = 0 := by rw [e0, Nat.add_mul_mod_self_left, Nat.zero_mod]
      rw [if_neg (by rw [e1]; omega), e1, e2, Nat.zero_add, hk2]
      have e3 : s + 2 - 1 + E0 = (s + E0) + 1 := by omega
      rw [e3, Nat.pow_succ (n := 2) (m := s + E0)]
      rw [Nat.mul_comm (2 ^ (s + E0)) 2, ← Nat.mul_assoc, Nat.mul_comm (2 ^ f) 2]
/-- every number of bits in that form, below the top of its range -/
theorem pm_parts (f b : Nat) : ∃ s k, b = s * 2 ^ f + k ∧ k < 2 ^ (f + 1) ∧ (s = 0 ∨ 2 ^ f ≤ k) ∧ pm_man f b = k ∧ ∀ E0, pm_exp f E0 b = s + E0 := by
  have hp : 0 < 2 ^ f := Nat.two_pow_pos f
  have h2 : 2 ^ (f + 1) = 2 * 2 ^ f := by rw [Nat.pow_succ, Nat.mul_comm]
  have hm : b % 2 ^ f < 2 ^ f := Nat.mod_lt _ hp
  have hd : 2 ^ f * (b / 2 ^ f) + b % 2 ^ f = b := Nat.div_add_mod b (2 ^ f)
  by_cases c : b / 2 ^ f = 0
  · refine ⟨0, b, by simp, ?_, Or.inl rfl, ?_, fun E0 => ?_⟩
    · rw [c] at hd
      omega
    · unfold pm_man
      rw [if_pos c]
    · unfold pm_exp
      rw [c]
  · refine ⟨b / 2 ^ f - 1, b % 2 ^ f + 2 ^ f, ?_, by omega, Or.inr (by omega), ?_, fun E0 => rfl⟩
    · obtain ⟨q, hq⟩ : ∃ q, b / 2 ^ f = q + 1 := ⟨b / 2 ^ f - 1, (Nat.sub_add_cancel (Nat.pos_of_ne_zero c)).symm⟩
      rw [hq] at hd ⊢
      rw [Nat.mul_add, Nat.mul_one] at hd
      rw [Nat.add_sub_cancel, Nat.mul_comm]
      omega
    · unfold pm_man
      rw [if_neg c]
theorem pm_next (f E0 b : Nat) : pm_val f E0 (b + 1) = pm_val f E0 b + 2 ^ pm_exp f E0 b := by
  obtain ⟨s, k, hb, hk, hs, hm, he⟩ := pm_parts f b
  have h1 : pm_val f E0 b = k * 2 ^ (s + E0) := by rw [hb, pm_form f E0 s k (by omega) hs]
  have h2 : pm_val f E0 (b + 1) = (k + 1) * 2 ^ (s + E0) := by
    have e : b + 1 = s * 2 ^ f + (k + 1) := by omega
    rw [e, pm_form f E0 s (k + 1) (by omega) (by omega)]
  rw [h1, h2, he, Nat.add_mul, Nat.one_mul]
theorem pm_lt_next (f E0 b : Nat) : pm_val f E0 b < pm_val f E0 (b + 1) := by
  rw [pm_next]
  have : 0 < 2 ^ pm_exp f E0 b := Nat.two_pow_pos _
  omega
theorem pm_mono (f E0 : Nat) {a b : Nat} (h : a ≤ b) : pm_val f E0 a ≤ pm_val f E0 b := by
  induction h with
  | refl => exact Nat.le_refl _
  | step _ ih => exact Nat.le_trans ih (Nat.le_of_lt (pm_lt_next f E0 _))
theorem pm_strict (f E0 : Nat) {a b : Nat} (h : a < b) : pm_val f E0 a < pm_val f E0 b := Nat.lt_of_lt_of_le (pm_lt_next f E0 a) (pm_mono f E0 h)
/-- the bits just below or at X / B -/
def pm_low (f E0 X B b : Nat) : Prop := pm_val f E0 b * B ≤ X ∧ X < pm_val f E0 (b + 1) * B
theorem pm_low_eq {f E0 X B a b : Nat} (ha : pm_low f E0 X B a) (hb : pm_low f E0 X B b) : a = b := by
  rcases Nat.lt_trichotomy a b with h | h | h
  · have := Nat.mul_le_mul_right B (pm_mono f E0 (show a + 1 ≤ b from h))
    have h1 := ha.2
    have h2 := hb.1
    omega
  · exact h
  · have := Nat.mul_le_mul_right B (pm_mono f E0 (show b + 1 ≤ a from h))
    have h1 := hb.2
    have h2 := ha.1
    omega
/-- twice the middle between b and the next -/
def pm_mid (f E0 b : Nat) : Nat := (2 * pm_man f b + 1) * 2 ^ pm_exp f E0 b
/-- the nearest of b and the next -/
def pm_near (f E0 X B b : Nat) : Nat := if pm_mid f E0 b * B < 2 * X ∨ (pm_mid f E0 b * B = 2 * X ∧ b % 2 = 1) then b + 1 else b
theorem pm_form2 {f E0 s k : Nat} (hk : k < 2 ^ (f + 1)) (h : s = 0 ∨ 2 ^ f ≤ k) : pm_man f (s * 2 ^ f + k) = k ∧ pm_exp f E0 (s * 2 ^ f + k) = s + E0 := by
  have hp : 0 < 2 ^ f := Nat.two_pow_pos f
  have h2 : 2 ^ (f + 1) = 2 * 2 ^ f := by rw [Nat.pow_succ, Nat.mul_comm]
  unfold pm_man pm_exp
  by_cases c1 : k < 2 ^ f
  · have hs : s = 0 := by omega
    subst hs
    have e1 : (0 * 2 ^ f + k) / 2 ^ f = 0 := by rw [Nat.zero_mul, Nat.zero_add, Nat.div_eq_of_lt c1]
    rw [if_pos e1, e1]
    simp
  · have e0 : s * 2 ^ f + k = (k - 2 ^ f) + 2 ^ f * (s + 1) := by rw [Nat.mul_add, Nat.mul_comm (2 ^ f) s, Nat.mul_one]; omega
    have e1 : (s * 2 ^ f + k) / 2 ^ f = s + 1 := by rw [e0, Nat.add_mul_div_left _ _ hp, Nat.div_eq_of_lt (by omega), Nat.zero_add]
    have e2 : (s * 2 ^ f + k) % 2 ^ f = k - 2 ^ f := by rw [e0, Nat.add_mul_mod_self_left, Nat.mod_eq_of_lt (by omega)]
    rw [if_neg (by rw [e1]; omega), e1, e2]
    exact ⟨by omega, rfl⟩
/-! the two formats -/
def fm (x : Nat) (f : Nat) (lp : Int) (M : Nat) : Prop := (x = 0 ∧ f = 23 ∧ lp = -149 ∧ M = 255) ∨ (x = 1 ∧ f = 52 ∧ lp = -1074 ∧ M = 2047)
theorem fm_f {x f M : Nat} {lp : Int} (h : fm x f lp M) : zx_fractionBits x = nI f ∧ zx_exponentMask x = nI M ∧ zx_leastPower x = iI lp := by
  rcases h with ⟨rfl, rfl, rfl, rfl⟩ | ⟨rfl, rfl, rfl, rfl⟩ <;> exact ⟨rfl, rfl, rfl⟩
theorem fm_b {x f M : Nat} {lp : Int} (h : fm x f lp M) : 23 ≤ f ∧ f ≤ 52 ∧ -1074 ≤ lp ∧ lp ≤ -149 ∧ 255 ≤ M ∧ M ≤ 2047 ∧ M * 2 ^ f < 2 ^ 63 ∧ (M + 1) * 2 ^ f ≤ 2 ^ 63 := by
  rcases h with ⟨rfl, rfl, rfl, rfl⟩ | ⟨rfl, rfl, rfl, rfl⟩ <;> decide
theorem wb_shl1 {k : Nat} (hk : k < 64) : (1 : Int64) <<< ((nI k).toInt64 &&& 63) = lN (2 ^ k) := by
  have := wb_shl 1 hk
  rw [Nat.one_mul] at this
  exact this
theorem fmt_inf {x f M : Nat} {lp : Int} (h : fm x f lp M) : f_Fmt_infinity x = some (lN (M * 2 ^ f)) := by
  unfold f_Fmt_infinity
  obtain ⟨h1, h2, h3⟩ := fm_f h
  have hb := fm_b h
  rw [h1, h2, nI_l (by omega), wb_shl _ (by omega)]
/-- rounding -/
theorem fmt_round {top u more : Nat} (ht : top < 2 ^ 63) (hu : u ≤ 63) (hu0 : 0 < u) (hm : more ≤ 1) : f_Fmt_rounded (lN top) (nI u) (nI more) = some (lN (if 2 ^ (u - 1) < top % 2 ^ u ∨ (top % 2 ^ u = 2 ^ (u - 1) ∧ (more = 1 ∨ top / 2 ^ u % 2 = 1)) then top / 2 ^ u + 1 else top / 2 ^ u)) := by
  have hq : top / 2 ^ u ≤ top := Nat.div_le_self _ _
  have hdm := Nat.div_add_mod top (2 ^ u)
  have hr : top % 2 ^ u ≤ top := Nat.mod_le _ _
  have hp : 2 ^ (u - 1) ≤ 2 ^ 62 := Nat.pow_le_pow_right (by decide) (by omega)
  apply ok_e
  unfold f_Fmt_rounded
  rw [wb_shr (by omega) (by omega)]
  refine ok_l ?_
  rw [wb_shl _ (by omega), lN_sub (by rw [Nat.mul_comm]; omega), show top - top / 2 ^ u * 2 ^ u = top % 2 ^ u by rw [Nat.mul_comm]; omega]
  refine ok_l ?_
  have e1 : nI u - 1 = nI (u - 1) := by
    obtain ⟨w, rfl⟩ : ∃ w, u = w + 1 := ⟨u - 1, by omega⟩
    rw [nI_pred, Nat.add_sub_cancel]
  rw [e1, wb_shl1 (by omega)]
  refine ok_l ?_
  rw [wb_a1 (by omega)]
  generalize hk : top / 2 ^ u = kept at *
  generalize hrr : top % 2 ^ u = rest at *
  generalize hh : 2 ^ (u - 1) = half at *
  have tail : ∀ k0 : Int32, (k0 = 0 ↔ ¬ kept % 2 = 1) → ok (f_Fmt_rounded_34 (lN top) (nI u) (nI more) (lN kept) (lN rest) (lN half) k0) (fun x => x = lN (if half < rest ∨ rest = half ∧ (more = 1 ∨ kept % 2 = 1) then kept + 1 else kept)) := by
    intro k0 hk0
    have up : ok (f_Fmt_rounded_61 (lN top) (nI u) (nI more) (lN kept)) (fun x => x = lN (kept + 1)) := by
      unfold f_Fmt_rounded_61 f_Fmt_rounded_66
      refine ok_f (by decide) (ok_s ?_)
      exact lN_1 kept
    have dn : ok (f_Fmt_rounded_65 (lN top) (nI u) (nI more) (lN kept)) (fun x => x = lN kept) := by
      unfold f_Fmt_rounded_65 f_Fmt_rounded_66
      exact ok_t rfl (ok_s rfl)
    unfold f_Fmt_rounded_34
    refine ok_ii ((lg_cmp_gt _ _).trans (pk_lLT (by omega) (by omega))) (fun q => ?_) (fun q => ?_)
    · rw [if_pos (Or.inl q)]; exact up
    · refine ok_ii ((lg_cmp_eq _ _).trans (pk_lEQ (by omega) (by omega))) (fun q2 => ?_) (fun q2 => ?_)
      · refine ok_ii (nI_eq (b := 0) (by omega) (by decide)) (fun q3 => ?_) (fun q3 => ?_)
        · refine ok_ii hk0 (fun q4 => ?_) (fun q4 => ?_)
          · rw [if_neg (by omega)]; exact dn
          · rw [if_pos (by omega)]; exact up
        · rw [if_pos (by omega)]; exact up
      · rw [if_neg (by omega)]; exact dn
  refine ok_ii ((lg_cmp_eq _ _).trans (pk_lEQ (b := 0) (by omega) (by decide))) (fun q => ?_) (fun q => ?_)
  · exact tail 0 ⟨fun _ => by omega, fun _ => rfl⟩
  · exact tail 1 ⟨fun h => absurd h (by decide), fun h => by omega⟩
/-- joining: the answer is the bits, or -2 -/
theorem fmt_join {x f M R : Nat} {lp pw : Int} (h : fm x f lp M) (hR : R ≤ 2 ^ (f + 1)) (hp1 : lp ≤ pw) (hp2 : pw < 2 ^ 29) (hS : (pw - lp).toNat = 0 ∨ 2 ^ f ≤ R) :
    f_Fmt_join x (lN R) (iI pw) = some (if (pw - lp).toNat * 2 ^ f + R = 0 ∨ M * 2 ^ f ≤ (pw - lp).toNat * 2 ^ f + R then -2 else lN ((pw - lp).toNat * 2 ^ f + R)) := by
  obtain ⟨h1, h2, h3⟩ := fm_f h
  have hb := fm_b h
  have h2f : 2 ^ (f + 1) ≤ 2 ^ 53 := Nat.pow_le_pow_right (by decide) (by omega)
  have hf0 : 0 < 2 ^ f := Nat.two_pow_pos f
  apply ok_e
  unfold f_Fmt_join
  rw [h3, iI_sub, h2, h1]
  refine ok_l ?_
  obtain ⟨S, hSS⟩ : ∃ S : Nat, pw - lp = S := ⟨(pw - lp).toNat, by omega⟩
  have hSn : (pw - lp).toNat = S := by omega
  rw [hSn] at hS ⊢
  rw [hSS]
  refine ok_ii ((lg_cmp_eq _ _).trans (pk_lEQ (b := 0) (by omega) (by decide))) (fun q => ?_) (fun q => ?_)
  · have hS0 : S = 0 := by omega
    rw [if_pos (Or.inl (by rw [hS0, q]; simp))]
    exact ok_s rfl
  · rw [iI_nat, show nI M - 1 = nI (M - 1) by
      obtain ⟨w, rfl⟩ : ∃ w, M = w + 1 := ⟨M - 1, by omega⟩
      rw [nI_pred, Nat.add_sub_cancel]]
    refine ok_ii (nI_ltI (by omega) (by omega)) (fun g => ?_) (fun g => ?_)
    · have hmul : S * 2 ^ f + 2 * 2 ^ f ≤ M * 2 ^ f := by
        rw [← Nat.add_mul]; exact Nat.mul_le_mul_right _ (by omega)
      rw [Nat.pow_succ] at hR
      rw [nI_l (by omega), wb_shl _ (by omega), lN_add]
      refine ok_l (ok_be (fmt_inf h) ?_)
      refine ok_ii ((lg_cmp_ge _ _).trans (pk_lLE (by omega) (by omega))) (fun g2 => ?_) (fun g2 => ?_)
      · rw [if_pos (Or.inr g2)]; exact ok_s rfl
      · rw [if_neg (by omega)]; exact ok_s rfl
    · have hS2 : 2 ^ f ≤ R := by omega
      have hmul : M * 2 ^ f ≤ (S + 1) * 2 ^ f := Nat.mul_le_mul_right _ (by omega)
      rw [Nat.add_mul, Nat.one_mul] at hmul
      rw [if_pos (Or.inr (by omega))]
      exact ok_s rfl

/-- the class's nearest: the answer is the nearest bits, or -2 where these are 0 or too large -/
theorem fmt_near_42 {fu x f M top p0 more : Nat} {lp tp : Int} {K : Nat} {X B w : Nat} {x1 : Int64} {x3 : Int32} (h : fm x f lp M) (hlp : 0 ≤ lp + K) (ht1 : 2 ^ 62 ≤ top) (ht2 : top < 2 ^ 63) (htp1 : -2 ^ 28 < tp) (htp2 : tp < 2 ^ 28) (htK : 0 ≤ tp + K) (hm : more ≤ 1) (hB : 0 < B)
    (hw : w ≤ 9) (hd : more = 1 → 2 ^ w ∣ top) (h0 : more = 0 → X = top * 2 ^ (tp + K).toNat * B) (h1 : more = 1 → top * 2 ^ (tp + K).toNat * B < X) (h2 : more = 1 → X < (top + 2 ^ w) * 2 ^ (tp + K).toNat * B) :
    ∃ low, pm_low f (lp + K).toNat X B low ∧ f_Fmt_nearest_42 fu x x1 x3 (nI more) (lN top) (iI tp) = some (if pm_near f (lp + K).toNat X B low = 0 ∨ M * 2 ^ f ≤ pm_near f (lp + K).toNat X B low then -2 else lN (pm_near f (lp + K).toNat X B low)) := by
  obtain ⟨e1, e2, e3⟩ := fm_f h
  have hb := fm_b h
  have hXlo : top * 2 ^ (tp + K).toNat * B ≤ X := by
    rcases Nat.lt_or_ge 0 more with q | q
    · exact Nat.le_of_lt (h1 (by omega))
    · rw [h0 (by omega)]; exact Nat.le_refl _
  have hXhi : X < (top + 2 ^ w) * 2 ^ (tp + K).toNat * B := by
    rcases Nat.lt_or_ge 0 more with q | q
    · exact h2 (by omega)
    · rw [h0 (by omega), Nat.add_mul, Nat.add_mul]
      have : 0 < 2 ^ w * 2 ^ (tp + K).toNat * B := Nat.mul_pos (Nat.mul_pos (Nat.two_pow_pos _) (Nat.two_pow_pos _)) hB
      omega
  have hmax : f_Mat_max (62 - nI f) (iI lp - iI tp) = some (iI (max (62 - f : Int) (lp - tp))) := by
    rw [show (62 : Int32) = iI 62 from rfl, ← iI_nat, iI_sub, iI_sub]
    unfold f_Mat_max
    by_cases q : (62 - f : Int) < lp - tp
    · rw [if_pos ((iI_lt (by omega) (by omega) (by omega) (by omega)).mpr q), Int.max_eq_right (by omega)]
    · rw [if_neg (fun g => q ((iI_lt (by omega) (by omega) (by omega) (by omega)).mp g)), Int.max_eq_left (by omega)]
  by_cases hu : max (62 - f : Int) (lp - tp) ≤ 63
  · -- rounded and joined
    obtain ⟨u, hu1⟩ : ∃ u : Nat, max (62 - f : Int) (lp - tp) = u := ⟨(max (62 - f : Int) (lp - tp)).toNat, by omega⟩
    obtain ⟨S, hS⟩ : ∃ S : Nat, tp + u - lp = S := ⟨(tp + u - lp).toNat, by omega⟩
    have hS0 : S = 0 ∨ u = 62 - f := by omega
    have hE : (tp + K).toNat + u = S + (lp + K).toNat := by omega
    have hu10 : 10 ≤ u := by omega
    have hdm := Nat.div_add_mod top (2 ^ u)
    have hrl : top % 2 ^ u < 2 ^ u := Nat.mod_lt _ (Nat.two_pow_pos u)
    have hkl : top / 2 ^ u < 2 ^ (f + 1) := by
      rw [Nat.div_lt_iff_lt_mul (Nat.two_pow_pos u), ← Nat.pow_add]
      exact Nat.lt_of_lt_of_le ht2 (Nat.pow_le_pow_right (by decide) (by omega))
    have hkg : S = 0 ∨ 2 ^ f ≤ top / 2 ^ u := by
      rcases hS0 with q | q
      · exact Or.inl q
      · right
        rw [Nat.le_div_iff_mul_le (Nat.two_pow_pos u), ← Nat.pow_add]
        exact Nat.le_trans (Nat.pow_le_pow_right (by decide) (by omega)) ht1
    have hwu : 2 ^ u = 2 ^ w * 2 ^ (u - w) := by rw [← Nat.pow_add]; congr 1; omega
    have hwh : 2 ^ (u - 1) = 2 ^ w * 2 ^ (u - 1 - w) := by rw [← Nat.pow_add]; congr 1; omega
    have huh : 2 ^ u = 2 * 2 ^ (u - 1) := by rw [show u = (u - 1) + 1 by omega, Nat.pow_succ, Nat.mul_comm]; rfl
    obtain ⟨fm1, fm2⟩ := pm_form2 (E0 := (lp + K).toNat) hkl hkg
    have hlow0 := pm_form f (lp + K).toNat S (top / 2 ^ u) (by omega) hkg
    have hlow1 := pm_form f (lp + K).toNat S (top / 2 ^ u + 1) (by omega) (by omega)
    rw [← Nat.add_assoc] at hlow1
    -- scale: everything in units of 2^(tp+K) * B
    generalize hG : 2 ^ (tp + K).toNat = G at *
    have hGp : 0 < G := by rw [← hG]; exact Nat.two_pow_pos _
    have hSE : 2 ^ (S + (lp + K).toNat) = 2 ^ u * G := by rw [← hE, Nat.pow_add, hG, Nat.mul_comm]
    rw [hSE] at hlow0 hlow1
    have hmid : pm_mid f (lp + K).toNat (S * 2 ^ f + top / 2 ^ u) = (2 * (top / 2 ^ u) + 1) * (2 ^ u * G) := by
      unfold pm_mid
      rw [fm1, fm2, hSE]
    have hrw : more = 1 → top % 2 ^ u + 2 ^ w ≤ 2 ^ u ∧ (top % 2 ^ u < 2 ^ (u - 1) → top % 2 ^ u + 2 ^ w ≤ 2 ^ (u - 1)) := by
      intro q
      have hdv := hd q
      have hdr : 2 ^ w ∣ top % 2 ^ u := by
        rw [Nat.dvd_mod_iff]
        · exact hdv
        · exact ⟨_, hwu⟩
      obtain ⟨z, hz⟩ := hdr
      have hwp := Nat.two_pow_pos w
      constructor
      · rw [hz, hwu] at hrl
        have := Nat.lt_of_mul_lt_mul_left hrl
        rw [hz, hwu, ← Nat.mul_succ]
        exact Nat.mul_le_mul_left _ this
      · intro g
        rw [hz, hwh] at g
        have := Nat.lt_of_mul_lt_mul_left g
        rw [hz, hwh, ← Nat.mul_succ]
        exact Nat.mul_le_mul_left _ this
    have hparity : (S * 2 ^ f + top / 2 ^ u) % 2 = top / 2 ^ u % 2 := by
      have : 2 ^ f = 2 * 2 ^ (f - 1) := by rw [show f = (f - 1) + 1 by omega, Nat.pow_succ, Nat.mul_comm]; rfl
      rw [this, ← Nat.mul_assoc, Nat.mul_comm S 2, Nat.mul_assoc]
      omega
    have hround := fmt_round (u := u) (more := more) ht2 (by omega) (by omega) hm
    generalize hq : top / 2 ^ u = q at *
    generalize hr : top % 2 ^ u = r at *
    generalize hUU : 2 ^ u = U at *
    generalize hHH : 2 ^ (u - 1) = H at *
    have hZ : 0 < G * B := Nat.mul_pos hGp hB
    have hmidB : pm_mid f (lp + K).toNat (S * 2 ^ f + q) * B = 2 * ((U * q + H) * (G * B)) := by
      rw [hmid, huh]
      grind
    have hXlo' : (U * q + r) * (G * B) ≤ X := by rw [hdm, ← Nat.mul_assoc]; exact hXlo
    have h0' : more = 0 → X = (U * q + r) * (G * B) := fun g => by rw [hdm, ← Nat.mul_assoc]; exact h0 g
    have h1' : more = 1 → (U * q + r) * (G * B) < X := fun g => by rw [hdm, ← Nat.mul_assoc]; exact h1 g
    have h2' : more = 1 → X < (U * q + r + 2 ^ w) * (G * B) := fun g => by rw [hdm, ← Nat.mul_assoc]; exact h2 g
    have mono : ∀ a b : Nat, a ≤ b → a * (G * B) ≤ b * (G * B) := fun a b g => Nat.mul_le_mul_right _ g
    have smono : ∀ a b : Nat, a < b → a * (G * B) < b * (G * B) := fun a b g => Nat.mul_lt_mul_of_pos_right g hZ
    have hiff : (H < r ∨ r = H ∧ (more = 1 ∨ q % 2 = 1)) ↔ (pm_mid f (lp + K).toNat (S * 2 ^ f + q) * B < 2 * X ∨ (pm_mid f (lp + K).toNat (S * 2 ^ f + q) * B = 2 * X ∧ (S * 2 ^ f + q) % 2 = 1)) := by
      rw [hmidB, hparity]
      rcases Nat.lt_trichotomy r H with g | g | g
      · have hX : X < (U * q + H) * (G * B) := by
          rcases Nat.lt_or_ge 0 more with g2 | g2
          · have g3 : more = 1 := by omega
            have a1 := h2' g3
            have a2 := mono (U * q + r + 2 ^ w) (U * q + H) (by have := (hrw g3).2 g; omega)
            omega
          · rw [h0' (by omega)]
            exact smono _ _ (by omega)
        omega
      · subst g
        rcases Nat.lt_or_ge 0 more with g2 | g2
        · have := h1' (by omega)
          omega
        · have := h0' (by omega)
          omega
      · have := smono (U * q + H) (U * q + r) (by omega)
        omega
    refine ⟨S * 2 ^ f + q, ⟨?_, ?_⟩, ?_⟩
    · rw [hlow0]
      have := mono (U * q) (U * q + r) (by omega)
      have e : q * (U * G) * B = U * q * (G * B) := by grind
      omega
    · rw [hlow1]
      have e : (q + 1) * (U * G) * B = (U * q + U) * (G * B) := by grind
      rw [e]
      rcases Nat.lt_or_ge 0 more with g2 | g2
      · have g3 : more = 1 := by omega
        have a1 := h2' g3
        have a2 := mono (U * q + r + 2 ^ w) (U * q + U) (by have := (hrw g3).1; omega)
        omega
      · rw [h0' (by omega)]
        exact smono _ _ (by omega)
    · have hnear : pm_near f (lp + K).toNat X B (S * 2 ^ f + q) = S * 2 ^ f + (if H < r ∨ r = H ∧ (more = 1 ∨ q % 2 = 1) then q + 1 else q) := by
        unfold pm_near
        by_cases g : H < r ∨ r = H ∧ (more = 1 ∨ q % 2 = 1)
        · rw [if_pos g, if_pos (hiff.mp g), Nat.add_assoc]
        · rw [if_neg g, if_neg (fun g2 => g (hiff.mpr g2))]
      rw [hnear]
      generalize hR : (if H < r ∨ r = H ∧ (more = 1 ∨ q % 2 = 1) then q + 1 else q) = R at *
      have hRq : R = q ∨ R = q + 1 := by
        rw [← hR]
        by_cases g : H < r ∨ r = H ∧ (more = 1 ∨ q % 2 = 1)
        · rw [if_pos g]; exact Or.inr rfl
        · rw [if_neg g]; exact Or.inl rfl
      have hSn : (tp + u - lp).toNat = S := by omega
      have hj := fmt_join (x := x) (R := R) (pw := tp + u) h (by omega) (by omega) (by omega) (by omega)
      rw [hSn] at hj
      rw [← hj]
      unfold f_Fmt_nearest_42
      rw [e1, e3, hmax]
      show (if iI (max (62 - f : Int) (lp - tp)) ≤ 63 then _ else _) = _
      rw [hu1, iI_nat, if_pos (show nI u ≤ 63 from nI_le (b := 63) (by omega) (by decide)), hround]
      show (f_Fmt_join x (lN R) (iI tp + nI u)).bind _ = _
      rw [← iI_nat, iI_add, hj]
      rfl
  · have hlt : lp - tp > 63 := by omega
    have hXhi2 : X < 2 ^ 63 * 2 ^ (tp + K).toNat * B := by
      have : 0 < 2 ^ (tp + K).toNat * B := Nat.mul_pos (Nat.two_pow_pos _) hB
      rcases Nat.lt_or_ge 0 more with q | q
      · have g3 : more = 1 := by omega
        have a1 := h2 g3
        obtain ⟨z, hz⟩ := hd g3
        have e63 : 2 ^ 63 = 2 ^ w * 2 ^ (63 - w) := by rw [← Nat.pow_add]; congr 1; omega
        have a2 : top + 2 ^ w ≤ 2 ^ 63 := by
          rw [hz, e63] at ht2
          have := Nat.lt_of_mul_lt_mul_left ht2
          rw [hz, e63, ← Nat.mul_succ]
          exact Nat.mul_le_mul_left _ this
        have a3 := Nat.mul_le_mul_right (2 ^ (tp + K).toNat * B) a2
        rw [Nat.mul_assoc] at a1 ⊢
        omega
      · rw [h0 (by omega), Nat.mul_assoc, Nat.mul_assoc]
        exact Nat.mul_lt_mul_of_pos_right ht2 this
    have hE : (lp + K).toNat = (tp + K).toNat + 64 + (lp - tp - 64).toNat := by omega
    have hX2 : 2 * X < 2 ^ (lp + K).toNat * B := by
      rw [hE, Nat.pow_add, Nat.pow_add]
      have a1 : 0 < 2 ^ (lp - tp - 64).toNat := Nat.two_pow_pos _
      generalize 2 ^ (tp + K).toNat = G at *
      generalize 2 ^ (lp - tp - 64).toNat = D at *
      have a2 : G * 2 ^ 64 * 1 * B ≤ G * 2 ^ 64 * D * B := Nat.mul_le_mul_right _ (Nat.mul_le_mul_left _ a1)
      have a3 : 2 * (2 ^ 63 * G * B) = G * 2 ^ 64 * 1 * B := by grind
      omega
    have hp : 0 < 2 ^ f := Nat.two_pow_pos f
    have v0 := pm_form f (lp + K).toNat 0 0 (by omega) (Or.inl rfl)
    have v1 := pm_form f (lp + K).toNat 0 1 (by rw [Nat.pow_succ]; omega) (Or.inl rfl)
    have m0 := pm_form2 (f := f) (E0 := (lp + K).toNat) (s := 0) (k := 0) (Nat.two_pow_pos _) (Or.inl rfl)
    simp only [Nat.zero_mul, Nat.zero_add, Nat.add_zero, Nat.one_mul] at v0 v1 m0
    have hnear : pm_near f (lp + K).toNat X B 0 = 0 := by
      unfold pm_near pm_mid
      rw [m0.1, m0.2]
      simp only [Nat.mul_zero, Nat.zero_add, Nat.one_mul]
      rw [if_neg (by omega)]
    refine ⟨0, ⟨?_, ?_⟩, ?_⟩
    · rw [v0]; omega
    · rw [Nat.zero_add, v1]; omega
    · rw [hnear, if_pos (Or.inl rfl)]
      unfold f_Fmt_nearest_42
      rw [e1, e3, hmax]
      show (if iI (max (62 - f : Int) (lp - tp)) ≤ 63 then _ else _) = _
      rw [if_neg]
      rw [show (63 : Int32) = iI 63 from rfl, iI_le (by omega) (by omega) (by omega) (by omega)]
      omega
