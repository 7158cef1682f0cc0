-- the class's shortest digits: rest, unit and halfGap at the start
theorem tens_any {fu N v : Nat} {z : Int} {s : Int32} {a : Nat → Int32} (hN : N < 2 ^ 30) (hN0 : 0 < N) (hfu : N + 1 < fu) (h1 : -2 ^ 20 < z) (h2 : z < 2 ^ 20) (hfz : z < fu) (h : bb N v s a) (hlt : v * 10 ^ z.toNat < 4294967296 ^ (N - 1)) : ok (f_Big_multiplyByTens fu N (iI z) s a) (fun r => bb N (v * 10 ^ z.toNat) r.1 r.2) := by
  by_cases q : z ≤ 0
  · have e : z.toNat = 0 := by omega
    rw [e, Nat.pow_zero, Nat.mul_one, big_tens0 (by rw [show (0 : Int32) = iI 0 from rfl, iI_le (by omega) (by omega) (by decide) (by decide)]; exact q) (by omega)]
    exact ok_s h
  · obtain ⟨c, rfl⟩ : ∃ c : Nat, z = c := ⟨z.toNat, by omega⟩
    rw [iI_nat]
    rw [Int.toNat_natCast] at hlt ⊢
    exact big_tens hN hfu (by omega) (by omega) h hN0 hlt
set_option maxRecDepth 100000 in
theorem flr_tab : ∀ a, a < 50 → ∀ b, b < 42 → f_Mat_floorDiv (iI ((42 * a + b : Nat) - 1074 : Int) * 30103) 100000 = some (iI (((42 * a + b : Nat) - 1074 : Int) * 30103 / 100000)) := by decide +kernel
set_option maxRecDepth 100000 in
theorem ten_tab : ∀ a, a < 50 → ∀ b, b < 42 → 10 ^ ((((42 * a + b : Nat) - 1074 : Int) * 30103 / 100000).toNat) * 2 ^ ((-((42 * a + b : Nat) - 1074 : Int)).toNat) ≤ 10 * 2 ^ (((42 * a + b : Nat) - 1074 : Int).toNat) * 10 ^ ((-(((42 * a + b : Nat) - 1074 : Int) * 30103 / 100000)).toNat) ∧
    2 * 2 ^ (((42 * a + b : Nat) - 1074 : Int).toNat) * 10 ^ ((-(((42 * a + b : Nat) - 1074 : Int) * 30103 / 100000)).toNat) ≤ 1000 * 10 ^ ((((42 * a + b : Nat) - 1074 : Int) * 30103 / 100000).toNat) * 2 ^ ((-((42 * a + b : Nat) - 1074 : Int)).toNat) := by decide +kernel
theorem ten_k {k : Int} (h1 : -1074 ≤ k) (h2 : k ≤ 1025) : f_Mat_floorDiv (iI k * 30103) 100000 = some (iI (k * 30103 / 100000)) ∧ 10 ^ (k * 30103 / 100000).toNat * 2 ^ (-k).toNat ≤ 10 * 2 ^ k.toNat * 10 ^ (-(k * 30103 / 100000)).toNat ∧ 2 * 2 ^ k.toNat * 10 ^ (-(k * 30103 / 100000)).toNat ≤ 1000 * 10 ^ (k * 30103 / 100000).toNat * 2 ^ (-k).toNat := by
  have e : k = ((42 * ((k + 1074).toNat / 42) + (k + 1074).toNat % 42 : Nat) - 1074 : Int) := by omega
  have a1 : (k + 1074).toNat / 42 < 50 := by omega
  have a2 : (k + 1074).toNat % 42 < 42 := by omega
  have t1 := flr_tab _ a1 _ a2
  have t2 := ten_tab _ a1 _ a2
  rw [← e] at t1 t2
  exact ⟨t1, t2⟩
section Start
variable {fu : Nat} {m h k1 : Nat} {q p0 : Int} {w : Int32}
/-- unit grows till it is past the rest -/
theorem sho_134 {R Ub : Nat} {x1 : Int64} {x3 rs hs : Int32} {ra ha : Nat → Int32} (hfu : 100 < fu) (hr : bb 40 R rs ra) (hR : R < Ub * 1000) (hsz : R * 1000 < 4294967296 ^ 40) :
    ∀ (d n c : Nat) (us : Int32) (ua : Nat → Int32), c + d = 3 → d < n → Ub * 10 ^ c ≤ 10 * R → bb 40 (Ub * 10 ^ c) us ua →
    ok (f_Sho_start_134 fu 40 40 40 x1 x3 w n (nI c) (iI (p0 + c)) rs ra us ua hs ha) (fun r => ∃ c' : Nat, c' ≤ 3 ∧ r.1 = iI (p0 + c') ∧ r.2.1 = rs ∧ r.2.2.1 = ra ∧ bb 40 (Ub * 10 ^ c') r.2.2.2.1 r.2.2.2.2.1 ∧ r.2.2.2.2.2.1 = hs ∧ r.2.2.2.2.2.2 = ha ∧ R < Ub * 10 ^ c' ∧ Ub * 10 ^ c' ≤ 10 * R)
  | d, 0, _, _, _, _, h, _, _ => by omega
  | d, n + 1, c, us, ua, hc, hd, hle, hu => by
    rw [f_Sho_start_134_s]
    refine ok_ii (nI_leI (a := 3) (by decide) (by omega)) (fun g => ?_) (fun g => ?_)
    · have e3 : c = 3 := by omega
      subst e3
      exact ok_s ⟨3, Nat.le_refl 3, rfl, rfl, rfl, hu, rfl, rfl, hR, hle⟩
    · refine ok_b (big_cmp (by decide) (by decide) (by omega) hr hu) (fun v hv => ?_)
      refine ok_ii hv.1 (fun g2 => ?_) (fun g2 => ?_)
      · exact ok_s ⟨c, by omega, rfl, rfl, rfl, hu, rfl, rfl, g2, hle⟩
      · refine ok_b (big_mul (F := 10) (S := 0) (by decide) (by omega) (by decide) (by decide) (by decide) hu (by omega)) (fun v2 hv2 => ?_)
        have e1 : iI (p0 + c) + 1 = iI (p0 + (c + 1 : Nat)) := by
          rw [show (1 : Int32) = iI 1 from rfl, iI_add]
          congr 1
          omega
        have e2 : Ub * 10 ^ c * 10 + 0 = Ub * 10 ^ (c + 1) := by
          rw [Nat.pow_succ, Nat.add_zero, Nat.mul_assoc]
        rw [e1, nI_1]
        rw [e2] at hv2
        refine sho_134 hfu hr hR hsz (d - 1) n (c + 1) v2.1 v2.2 (by omega) (by omega) ?_ hv2
        rw [← e2]
        omega
end Start
