-- the reference's shortest digits: scale, compare, most, isRead
theorem fitsD {P : Int} {d : Nat} (h1 : -400 ≤ P) (h2 : P ≤ 400) (hd : d < 2 ^ 63) : fits3 520 (5 ^ P.toNat * d) (5 ^ (-P).toNat) P := by
  have a1 : 5 ^ P.toNat ≤ 5 ^ 400 := Nat.pow_le_pow_right (by decide) (by omega)
  have a2 : 5 ^ (-P).toNat ≤ 5 ^ 400 := Nat.pow_le_pow_right (by decide) (by omega)
  refine ⟨by omega, by omega, ?_, ?_, ?_⟩
  · exact Nat.lt_of_le_of_lt a2 (by decide +kernel)
  · refine Nat.lt_of_le_of_lt (Nat.mul_le_mul a2 (Nat.pow_le_pow_right (show 0 < 2 by decide) (show 64 + (1000 - P).toNat ≤ 1464 by omega))) (by decide +kernel)
  · refine Nat.lt_of_le_of_lt (Nat.mul_le_mul (Nat.mul_le_mul a1 (show d ≤ 2 ^ 63 by omega)) (Nat.pow_le_pow_right (show 0 < 2 by decide) (show (P + 1100).toNat ≤ 1500 by omega))) (by decide +kernel)
/-- the rows of the scale stand at the power P -/
def scl (P : Int) (bM fM tw : Int32) (ba fa : Nat → Int32) : Prop := bm 520 (5 ^ (-P).toNat) bM ba ∧ bm 520 (5 ^ P.toNat) fM fa ∧ tw = iI P
section MShort
variable {fu : Nat} {P : Int} {bM fM tw aM lM rM : Int32} {ba fa aa L R : Nat → Int32}
theorem mod_scale (hfu : 1000 < fu) (h1 : -400 ≤ P) (h2 : P ≤ 400) : ok (f_Mod_scale fu 520 520 (iI P) bM fM tw ba fa) (fun r => scl P r.1 r.2.1 r.2.2.1 r.2.2.2.1 r.2.2.2.2) := by
  unfold f_Mod_scale
  have hz : 5 ^ 400 < 65536 ^ (520 - 1) := by decide +kernel
  have a1 : 5 ^ P.toNat ≤ 5 ^ 400 := Nat.pow_le_pow_right (by decide) (by omega)
  have a2 : 5 ^ (-P).toNat ≤ 5 ^ 400 := Nat.pow_le_pow_right (by decide) (by omega)
  refine ok_b (mod_set (N := 520) (m := 1) (by decide) (by decide) (by omega) (by decide)) (fun u1 hu1 => ?_)
  refine ok_b (mod_set (N := 520) (m := 1) (by decide) (by decide) (by omega) (by decide)) (fun u2 hu2 => ?_)
  refine ok_ii (iI_le (a := P) (b := 0) (by omega) (by omega) (by decide) (by decide)) (fun g => ?_) (fun g => ?_)
  · rw [iI_neg]
    obtain ⟨c, hc⟩ : ∃ c : Nat, -P = c := ⟨(-P).toNat, by omega⟩
    have hc0 : (-P).toNat = c := by omega
    have hP0 : P.toNat = 0 := by omega
    rw [hc, iI_nat]
    rw [hc0] at a2
    refine ok_b (mod_fives (N := 520) (c := c) (by decide) (by decide) (by omega) (by omega) (by omega) hu2 (by rw [Nat.one_mul]; exact Nat.lt_of_le_of_lt a2 hz)) (fun u3 hu3 => ok_s ⟨?_, ?_, rfl⟩)
    · rw [hc0]; rw [Nat.one_mul] at hu3; exact hu3
    · rw [hP0]; exact hu1
  · obtain ⟨c, rfl⟩ : ∃ c : Nat, P = c := ⟨P.toNat, by omega⟩
    rw [iI_nat]
    rw [Int.toNat_natCast] at a1
    refine ok_b (mod_fives (N := 520) (c := c) (by decide) (by decide) (by omega) (by omega) (by omega) hu1 (by rw [Nat.one_mul]; exact Nat.lt_of_le_of_lt a1 hz)) (fun u3 hu3 => ok_s ⟨?_, ?_, (iI_nat c).symm⟩)
    · rw [show (-(c : Int)).toNat = 0 by omega]; exact hu2
    · rw [Int.toNat_natCast]; rw [Nat.one_mul] at hu3; exact hu3
theorem mod_cmpD {d m K : Nat} {q : Int} (hfu : 1000 < fu) (h1 : -400 ≤ P) (h2 : P ≤ 400) (hs : scl P bM fM tw ba fa) (hK : 2000 ≤ K) (hd : d < 2 ^ 63) (hm : m < 2 ^ 63) (hq1 : -1100 ≤ q) (hq2 : q ≤ 1000) :
    ok (f_Mod_compareDigits fu 520 520 520 520 520 (lN d) (lN m) (iI q) aM bM fM lM rM tw aa ba fa L R) (fun r => sg r.1 (d * tA K P) (tB P * (m * 2 ^ (q + K).toNat))) := by
  obtain ⟨s1, s2, rfl⟩ := hs
  have hf := fitsD h1 h2 hd
  unfold f_Mod_compareDigits
  refine ok_b (mod_times (N := 520) (M := 520) (by decide) (by decide) (by omega) (by decide) hd s2 (Nat.lt_of_le_of_lt (Nat.pow_le_pow_right (by decide) (show P.toNat ≤ 400 by omega)) (by decide +kernel))) (fun u1 hu1 => ?_)
  refine ok_b (mod_cmpq (N := 520) (K := K) (by decide) (by decide) (by omega) hu1 s1 hf (by omega) hq1 hq2 (by omega) hm) (fun u2 hu2 => ok_s ?_)
  show sg u2.1 _ _
  have e1 : d * tA K P = 5 ^ P.toNat * d * 2 ^ (P + K).toNat := by
    unfold tA
    generalize 5 ^ P.toNat = a
    generalize 2 ^ (P + K).toNat = b
    grind
  have e2 : tB P * (m * 2 ^ (q + K).toNat) = 5 ^ (-P).toNat * m * 2 ^ (q + K).toNat := by
    unfold tB
    rw [Nat.mul_assoc]
  rw [e1, e2]
  exact hu2
/-- which digits are read back -/
def isR (f E0 y K : Nat) (P : Int) (d : Nat) : Prop :=
  (pm_mid f E0 (y - 1) * tB P < 2 * (d * tA K P) ∨ (2 * (d * tA K P) = pm_mid f E0 (y - 1) * tB P ∧ y % 2 = 0)) ∧
  (2 * (d * tA K P) < pm_mid f E0 y * tB P ∨ (2 * (d * tA K P) = pm_mid f E0 y * tB P ∧ y % 2 = 0))
theorem mod_isRead {x : Int32} {f M y K d : Nat} {lp : Int} (h : fs x f lp M) (hfu : 1000 < fu) (h1 : -400 ≤ P) (h2 : P ≤ 400) (hs : scl P bM fM tw ba fa) (hK : 2000 ≤ K) (hd : d < 2 ^ 63) (hy0 : 0 < y) (hy : y ≤ M * 2 ^ f) :
    ok (f_Mod_isRead fu 520 520 520 520 520 (lN d) (lN y) x aM bM fM lM rM tw aa ba fa L R) (fun r => (r.1 = 0 ↔ ¬ isR f (lp + K).toNat y K P d)) := by
  obtain ⟨s1, s2, rfl⟩ := hs
  have hf := fitsD h1 h2 hd
  have hb := fs_b h
  unfold f_Mod_isRead
  refine ok_b (mod_times (N := 520) (M := 520) (by decide) (by decide) (by omega) (by decide) hd s2 (Nat.lt_of_le_of_lt (Nat.pow_le_pow_right (by decide) (show P.toNat ≤ 400 by omega)) (by decide +kernel))) (fun u1 hu1 => ?_)
  have ey : lN y - 1 = lN (y - 1) := lN_sub (b := 1) hy0
  rw [ey]
  refine ok_b (mod_above (N := 520) (K := K) h (by decide) (by decide) (by omega) hu1 s1 hf (by omega) (by omega) (show y - 1 ≤ M * 2 ^ f by omega)) (fun u2 hu2 => ?_)
  refine ok_b (mod_above (N := 520) (K := K) h (by decide) (by decide) (by omega) hu1 s1 hf (by omega) (by omega) hy) (fun u3 hu3 => ?_)
  have e1 : 5 ^ P.toNat * d * 2 ^ (P + K).toNat = d * tA K P := by
    unfold tA
    generalize 5 ^ P.toNat = a
    generalize 2 ^ (P + K).toNat = b
    grind
  rw [e1] at hu2 hu3
  unfold isR tB
  generalize pm_mid f (lp + K).toNat (y - 1) * 5 ^ (-P).toNat = B1 at *
  generalize pm_mid f (lp + K).toNat y * 5 ^ (-P).toNat = B2 at *
  generalize 2 * (d * tA K P) = X at *
  have h10 : ¬ (1 : Int32) = 0 := by decide
  have tail : ∀ k0 : Int32, (k0 = 0 ↔ ¬ y % 2 = 0) → ok (f_Mod_isRead_54 fu 520 520 520 520 520 (lN d) (lN y) x bM fM (iI P) ba fa u2.1 u3.1 k0 u1.1 u3.2.1 u3.2.2.1 u1.2 u3.2.2.2.1 u3.2.2.2.2) (fun r => (r.1 = 0 ↔ ¬ ((B1 < X ∨ (X = B1 ∧ y % 2 = 0)) ∧ (X < B2 ∨ (X = B2 ∧ y % 2 = 0))))) := by
    intro k0 hk0
    have t71 : (B1 < X ∨ (X = B1 ∧ y % 2 = 0)) → ok (f_Mod_isRead_71 fu 520 520 520 520 520 (lN d) (lN y) x bM fM (iI P) ba fa u3.1 k0 u1.1 u3.2.1 u3.2.2.1 u1.2 u3.2.2.2.1 u3.2.2.2.2) (fun r => (r.1 = 0 ↔ ¬ ((B1 < X ∨ (X = B1 ∧ y % 2 = 0)) ∧ (X < B2 ∨ (X = B2 ∧ y % 2 = 0))))) := by
      intro hA
      unfold f_Mod_isRead_71
      refine ok_ii hu3.1 (fun g => ?_) (fun g => ?_)
      · exact ok_s ⟨fun q => absurd q h10, fun q => absurd ⟨hA, Or.inl g⟩ q⟩
      · refine ok_ii hu3.2.1 (fun g2 => ?_) (fun g2 => ?_)
        · refine ok_ii hk0 (fun g3 => ?_) (fun g3 => ?_)
          · exact ok_s ⟨fun _ => by omega, fun _ => rfl⟩
          · exact ok_s ⟨fun q => absurd q h10, fun q => by omega⟩
        · exact ok_s ⟨fun _ => by omega, fun _ => rfl⟩
    unfold f_Mod_isRead_54
    refine ok_ii hu2.2.2 (fun g => ?_) (fun g => ?_)
    · exact t71 (Or.inl g)
    · refine ok_ii hu2.2.1 (fun g2 => ?_) (fun g2 => ?_)
      · refine ok_ii hk0 (fun g3 => ?_) (fun g3 => ?_)
        · exact ok_s ⟨fun _ => by omega, fun _ => rfl⟩
        · exact t71 (Or.inr ⟨g2, by omega⟩)
      · exact ok_s ⟨fun _ => by omega, fun _ => rfl⟩
  rw [wb_a1 (by omega)]
  refine ok_ii ((lg_cmp_eq _ _).trans (pk_lEQ (b := 0) (by omega) (by decide))) (fun g => ?_) (fun g => ?_)
  · exact tail 1 ⟨fun q => absurd q h10, fun q => absurd g q⟩
  · exact tail 0 ⟨fun _ => g, fun _ => rfl⟩
/-- the most digits not above the value -/
theorem mod_most_7 {m K D : Nat} {q : Int} {x4 : Int64} (hfu : 1000 < fu) (h1 : -400 ≤ P) (h2 : P ≤ 400) (hs : scl P bM fM tw ba fa) (hK : 2000 ≤ K) (hm : m < 2 ^ 63) (hq1 : -1100 ≤ q) (hq2 : q ≤ 1000) (hl1 : D * tA K P ≤ tB P * (m * 2 ^ (q + K).toNat)) (hl2 : tB P * (m * 2 ^ (q + K).toNat) < (D + 1) * tA K P) :
    ∀ (e n lo hi : Nat) (aM lM rM : Int32) (aa L R : Nat → Int32), hi - lo < 2 ^ e → e < n → lo ≤ D → D ≤ hi → hi < 2 ^ 62 →
    ok (f_Mod_most_7 fu 520 520 520 520 520 (lN m) (iI q) x4 bM fM tw ba fa n (lN lo) (lN hi) aM lM rM aa L R) (fun r => r.1 = lN D)
  | e, 0, _, _, _, _, _, _, _, _, _, h, _, _, _ => by omega
  | e, n + 1, lo, hi, aM, lM, rM, aa, L, R, hd, hn, hlo, hhi, hb => by
    rw [f_Mod_most_7_s]
    refine ok_ii ((lg_cmp_ge _ _).trans (pk_lLE (by omega) (by omega))) (fun g => ?_) (fun g => ?_)
    · exact ok_s (by show lN lo = lN D; rw [show lo = D by omega])
    · have emid : lN lo + ((lN hi - lN lo) + 1) / 2 = lN (lo + (hi - lo + 1) / 2) := by
        rw [lN_sub (by omega), lN_1, show (2 : Int64) = lN 2 from rfl, pk_lDiv (by omega) (by decide) (by decide), lN_add]
      rw [emid]
      refine ok_l ?_
      obtain ⟨e', rfl⟩ : ∃ e', e = e' + 1 := by
        refine ⟨e - 1, ?_⟩
        rcases Nat.eq_zero_or_pos e with q | q
        · subst q; omega
        · omega
      rw [Nat.pow_succ] at hd
      refine ok_b (mod_cmpD hfu h1 h2 hs hK (by omega) hm hq1 hq2) (fun u hu => ?_)
      have hcmp : tB P * (m * 2 ^ (q + K).toNat) < (lo + (hi - lo + 1) / 2) * tA K P ↔ D < lo + (hi - lo + 1) / 2 := by
        constructor
        · intro g2
          have := Nat.lt_of_mul_lt_mul_right (Nat.lt_of_le_of_lt hl1 g2)
          exact this
        · intro g2
          exact Nat.lt_of_lt_of_le hl2 (Nat.mul_le_mul_right _ g2)
      refine ok_ii (hu.2.2.trans hcmp) (fun g2 => ?_) (fun g2 => ?_)
      · have em : lN (lo + (hi - lo + 1) / 2) - 1 = lN (lo + (hi - lo + 1) / 2 - 1) := lN_sub (b := 1) (by omega)
        rw [em]
        refine ok_l ?_
        exact mod_most_7 hfu h1 h2 hs hK hm hq1 hq2 hl1 hl2 e' n lo _ _ _ _ _ _ _ (by omega) (by omega) hlo (by omega) (by omega)
      · exact mod_most_7 hfu h1 h2 hs hK hm hq1 hq2 hl1 hl2 e' n _ hi _ _ _ _ _ _ (by omega) (by omega) (by omega) hhi hb
end MShort
