-- the reference's shortest digits: the power, the loop
theorem st_shift {K n V : Nat} {P : Int} (h : 0 ≤ P - n + K) (hle : tA K P ≤ tB P * V) : tA K (P - n) ≤ tB (P - n) * V := by
  have ht := tn (K := K) (n := n) (P := P) h
  have hb := tB_pos P
  have hp : 0 < 10 ^ n := Nat.pow_pos (by decide)
  have h1 : 10 ^ n * tA K (P - n) ≤ tB (P - n) * V := by
    apply Nat.le_of_mul_le_mul_right _ hb
    rw [← ht]
    have := Nat.mul_le_mul_right (tB (P - n)) hle
    refine Nat.le_trans this (Nat.le_of_eq ?_)
    generalize tB P = a
    generalize tB (P - n) = b
    grind
  exact Nat.le_trans (Nat.le_mul_of_pos_left _ hp) h1
theorem st_ten {K V g R0 U H0 : Nat} {P0 p : Int} (h : stt K V g P0 R0 U H0) (h1 : 1 ≤ P0 + K) (h2 : 0 ≤ p + K) : tB p * V < tA K p ↔ P0 ≤ p := by
  have f0 := (st_fl h 0 (by omega)).2
  have f1 := (st_fl h 1 (by omega)).1
  obtain ⟨_, s2, s3, _⟩ := h
  rw [Nat.pow_zero, Nat.one_mul, Nat.div_eq_of_lt s2, Nat.zero_add, Nat.one_mul, show P0 - ((0 : Nat) : Int) = P0 by omega] at f0
  have f1' : tA K (P0 - (1 : Nat)) ≤ tB (P0 - (1 : Nat)) * V := by
    refine Nat.le_trans (Nat.le_mul_of_pos_left _ ?_) f1
    rw [Nat.pow_one]
    exact Nat.div_pos s3 (by omega)
  constructor
  · intro g
    rcases Int.lt_or_le p P0 with q | q
    · have := st_shift (K := K) (n := (P0 - (1 : Nat) - p).toNat) (P := P0 - (1 : Nat)) (V := V) (by omega) f1'
      rw [show P0 - ((1 : Nat) : Int) - ((P0 - ((1 : Nat) : Int) - p).toNat : Int) = p by omega] at this
      omega
    · exact q
  · intro g
    rcases Nat.lt_or_ge (tB p * V) (tA K p) with q | q
    · exact q
    · have := st_shift (K := K) (n := (p - P0).toNat) (P := p) (V := V) (by omega) q
      rw [show p - ((p - P0).toNat : Int) = P0 by omega] at this
      omega
section MShort2
variable {fu : Nat}
theorem mod_tens_10 {m g R0 U H0 : Nat} {q P0 : Int} {K : Nat} (hfu : 1000 < fu) (hK : 2000 ≤ K) (hm : m < 2 ^ 63) (hq1 : -1100 ≤ q) (hq2 : q ≤ 1000) (hst : stt K (m * 2 ^ (q + K).toNat) g P0 R0 U H0) (hP1 : -400 ≤ P0) (hP2 : P0 ≤ 400) :
    ∀ (e n : Nat) (lo hi : Int) (aM bM fM lM rM tw : Int32) (aa ba fa L R : Nat → Int32), hi - lo < 2 ^ e → e < n → lo ≤ P0 - 1 → P0 - 1 ≤ hi → -330 ≤ lo → hi ≤ 310 →
    ok (f_Mod_tens_10 fu 520 520 520 520 520 (lN m) (iI q) n (iI lo) (iI hi) aM bM fM lM rM tw aa ba fa L R) (fun r => r.1 = iI (P0 - 1))
  | e, 0, _, _, _, _, _, _, _, _, _, _, _, _, _, _, h, _, _, _, _ => by omega
  | e, n + 1, lo, hi, aM, bM, fM, lM, rM, tw, aa, ba, fa, L, R, hd, hn, hlo, hhi, hb1, hb2 => by
    rw [f_Mod_tens_10_s]
    refine ok_ii (iI_le (by omega) (by omega) (by omega) (by omega)) (fun g => ?_) (fun g => ?_)
    · exact ok_s (by show iI lo = _; rw [show lo = P0 - 1 by omega])
    · have emid : iI lo + ((iI hi - iI lo) + 1) / 2 = iI (lo + ((hi - lo).toNat + 1) / 2 : Int) := by
        obtain ⟨z, hz⟩ : ∃ z : Nat, hi - lo = z := ⟨(hi - lo).toNat, by omega⟩
        rw [iI_sub, hz, iI_nat, nI_1, show (2 : Int32) = nI 2 from rfl, pk_div (by omega) (by decide) (by decide), ← iI_nat, iI_add]
        congr 1
      rw [emid]
      generalize hmid : lo + ((hi - lo).toNat + 1) / 2 = mid at *
      refine ok_l ?_
      obtain ⟨e', rfl⟩ : ∃ e', e = e' + 1 := by
        refine ⟨e - 1, ?_⟩
        rcases Nat.eq_zero_or_pos e with q | q
        · subst q; omega
        · omega
      have hpw : (2 : Int) ^ (e' + 1) = 2 * 2 ^ e' := by rw [Int.pow_succ]; omega
      rw [hpw] at hd
      generalize hpe : (2 : Int) ^ e' = pe at *
      refine ok_b (mod_scale hfu (P := mid) (by omega) (by omega)) (fun u2 hu2 => ?_)
      refine ok_b (mod_cmpD (d := 1) (P := mid) hfu (by omega) (by omega) hu2 hK (by decide) hm hq1 hq2) (fun u3 hu3 => ?_)
      rw [Nat.one_mul] at hu3
      refine ok_ii (hu3.2.2.trans (st_ten hst (by omega) (by omega))) (fun g2 => ?_) (fun g2 => ?_)
      · rw [show (1 : Int32) = iI 1 from rfl, iI_sub]
        refine ok_l ?_
        exact mod_tens_10 hfu hK hm hq1 hq2 hst hP1 hP2 e' n lo (mid - 1) _ _ _ _ _ _ _ _ _ _ _ (by rw [hpe]; omega) (by omega) hlo (by omega) (by omega) (by omega)
      · exact mod_tens_10 hfu hK hm hq1 hq2 hst hP1 hP2 e' n mid hi _ _ _ _ _ _ _ _ _ _ _ (by rw [hpe]; omega) (by omega) (by omega) hhi (by omega) (by omega)
theorem mod_tens {m g R0 U H0 : Nat} {q P0 : Int} {K : Nat} {aM bM fM lM rM tw : Int32} {aa ba fa L R : Nat → Int32} (hfu : 1000 < fu) (hK : 2000 ≤ K) (hm : m < 2 ^ 63) (hq1 : -1100 ≤ q) (hq2 : q ≤ 1000) (hst : stt K (m * 2 ^ (q + K).toNat) g P0 R0 U H0) (hP1 : -329 ≤ P0) (hP2 : P0 ≤ 311) :
    ok (f_Mod_tens fu 520 520 520 520 520 (lN m) (iI q) aM bM fM lM rM tw aa ba fa L R) (fun r => r.1 = iI (P0 - 1)) := by
  unfold f_Mod_tens
  exact mod_tens_10 hfu hK hm hq1 hq2 hst (by omega) (by omega) 10 fu (-330) 310 _ _ _ _ _ _ _ _ _ _ _ (by decide) (by omega) (by omega) (by omega) (by decide) (by decide)
/-- the start's facts, as the reference's compares need them -/
theorem sst_stt {f y M x : Nat} {lp : Int} {P0 : Int} {R0 U H0 K : Nat} (hK : 2000 ≤ K) (hx : fm x f lp M) (hy0 : 0 < y) (hs : sst (pm_man f y) (ex f lp y) (nI (nar f y)) P0 R0 U H0) :
    stt K (pm_man f y * 2 ^ (ex f lp y + K).toNat) (2 ^ pm_exp f (lp + K).toNat (y - 1)) P0 R0 U H0 ∧
    pm_mid f (lp + K).toNat (y - 1) + 2 ^ pm_exp f (lp + K).toNat (y - 1) = 2 * (pm_man f y * 2 ^ (ex f lp y + K).toNat) ∧
    pm_mid f (lp + K).toNat y = 2 * (pm_man f y * 2 ^ (ex f lp y + K).toNat) + (1 + nar f y) * 2 ^ pm_exp f (lp + K).toNat (y - 1) := by
  have hb := fm_b hx
  obtain ⟨s1, s2, s3, s4, s5, s6, s7⟩ := hs
  have eK := ex_K (f := f) (y := y) (K := K) (lp := lp) (by omega)
  have hE0 : 0 < (lp + K).toNat := by omega
  generalize (lp + K).toNat = E0 at *
  -- the gap below
  have hgap : 2 ^ pm_exp f E0 y = (1 + nar f y) * 2 ^ pm_exp f E0 (y - 1) := by
    have hp := Nat.two_pow_pos f
    have hdm := Nat.div_add_mod y (2 ^ f)
    have hml := Nat.mod_lt y hp
    unfold nar pm_exp
    rcases Nat.eq_zero_or_pos (y % 2 ^ f) with g | g
    · have e1 : (y - 1) / 2 ^ f = y / 2 ^ f - 1 := by
        rw [g, Nat.add_zero] at hdm
        have hz : 0 < y / 2 ^ f := by
          rcases Nat.eq_zero_or_pos (y / 2 ^ f) with q | q
          · rw [q, Nat.mul_zero] at hdm; omega
          · exact q
        obtain ⟨z, hz'⟩ : ∃ z, y / 2 ^ f = z + 1 := ⟨y / 2 ^ f - 1, by omega⟩
        rw [hz'] at hdm ⊢
        rw [Nat.mul_succ] at hdm
        rw [Nat.add_sub_cancel, Nat.div_eq_iff hp, Nat.mul_comm]
        omega
      rw [e1]
      generalize y / 2 ^ f = z at *
      by_cases g2 : 1 < z
      · rw [if_pos ⟨g2, g⟩]
        have : z - 1 + E0 = z - 1 - 1 + E0 + 1 := by omega
        rw [this, Nat.pow_succ]
        omega
      · rw [if_neg (by omega), show z - 1 - 1 = z - 1 by omega]
        omega
    · have e1 : (y - 1) / 2 ^ f = y / 2 ^ f := by
        rw [Nat.div_eq_iff hp, Nat.mul_comm]
        omega
      rw [e1, if_neg (by omega)]
      omega
  have hval : pm_val f E0 y = pm_man f y * 2 ^ pm_exp f E0 y := rfl
  have hn := pm_next f E0 (y - 1)
  rw [show y - 1 + 1 = y by omega] at hn
  have hm1 : pm_mid f E0 (y - 1) + 2 ^ pm_exp f E0 (y - 1) = 2 * pm_val f E0 y := by
    rw [hn]
    unfold pm_mid pm_val
    generalize 2 ^ pm_exp f E0 (y - 1) = z
    grind
  have hm2 : pm_mid f E0 y = 2 * pm_val f E0 y + 2 ^ pm_exp f E0 y := by
    unfold pm_mid pm_val
    generalize 2 ^ pm_exp f E0 y = z
    grind
  rw [eK, ← hval]
  rw [← hgap]
  refine ⟨⟨?_, s1, s2, ?_⟩, hm1, hm2⟩
  · rcases s7 with ⟨_, e, id⟩ | ⟨_, e, id⟩
    · have := id K hK
      rw [eK] at this
      rw [e, hval]
      generalize 2 ^ pm_exp f E0 y = z at *
      generalize tA K P0 = A at *
      generalize tB P0 = B at *
      have l : 2 * pm_man f y * H0 * A = pm_man f y * (2 * H0 * A) := by grind
      rw [l, this]
      grind
    · have := id K hK
      rw [eK] at this
      rw [e, hval]
      generalize 2 ^ pm_exp f E0 y = z at *
      generalize tA K P0 = A at *
      generalize tB P0 = B at *
      have l : 4 * pm_man f y * H0 * A = pm_man f y * (4 * H0 * A) := by grind
      rw [l, this]
      grind
  · rcases nar_01 f y with e0 | e0
    · rw [e0] at s7 hgap
      rcases s7 with ⟨_, e, id⟩ | ⟨g, _⟩
      · have := id K hK
        rw [eK] at this
        rw [this, hgap]
        grind
      · exact absurd rfl g
    · rw [e0] at s7 hgap
      rcases s7 with ⟨g, _⟩ | ⟨_, e, id⟩
      · exact absurd g (by decide)
      · have := id K hK
        rw [eK, hgap] at this
        generalize 2 ^ pm_exp f E0 (y - 1) = z at *
        generalize tA K P0 = A at *
        generalize tB P0 = B at *
        have l : 4 * H0 * A = 2 * (2 * H0 * A) := by grind
        have r : U * B * ((1 + 1) * z) = 2 * (U * B * z) := by grind
        rw [l, r] at this
        omega
end MShort2
