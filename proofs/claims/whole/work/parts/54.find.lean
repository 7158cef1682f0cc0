-- the class's shortest digits: the loop over the digits
section Find
variable {fu N R0 U H0 t : Nat} {P0 : Int} {ev : Bool} {e w : Int32} {us : Int32} {ua : Nat → Int32} {x1 : Int64} {x3 : Nat}
def fdR (R0 U H0 t : Nat) (ev : Bool) (P0 : Int) (r : Int32 × Int32 × Int64 × Int32 × Int32 × (Nat → Int32) × Int32 × (Nat → Int32) × Int32 × (Nat → Int32) × Int32 × (Nat → Int32)) : Prop :=
  ∃ n D, n ≤ 17 ∧ shR R0 U H0 t ev n D ∧ r.2.2.1 = lN D ∧ r.2.2.2.1 = iI (P0 - n)
theorem p10_le {n : Nat} (h : n ≤ 17) : 10 ^ n ≤ 100000000000000000 := Nat.pow_le_pow_right (n := 10) (by decide) h
theorem fd_lt {n : Nat} (hR : R0 < U) : 10 ^ n * R0 / U < 10 ^ n := by
  rw [Nat.div_lt_iff_lt_mul (by omega)]
  exact Nat.mul_lt_mul_of_pos_left hR (Nat.pow_pos (by decide))
theorem sho_150 {n : Nat} {y6 y7 rs hs ss : Int32} {ra ha sa : Nat → Int32} (hN : N < 2 ^ 30) (hfu : N < fu) (hR : R0 < U) (hU : bb N U us ua) (hsz : U * 1000 < 4294967296 ^ N) (hn : n ≤ 17) (hn2 : 2 ≤ n) (hr : bb N (10 ^ n * R0 % U) rs ra)
    (hm : ∀ j, 2 ≤ j → j < n → ¬ dnF R0 U H0 ev j ∧ ¬ upF R0 U H0 t ev j) (h6 : y6 = 0 ↔ ¬ dnF R0 U H0 ev n) (h7 : y7 = 0 ↔ ¬ upF R0 U H0 t ev n) (hf : dnF R0 U H0 ev n ∨ upF R0 U H0 t ev n) :
    ok (f_Sho_find_150 fu N N N N x1 x3 y6 y7 w e (lN (10 ^ n * R0 / U)) (iI (P0 - n)) rs ra us ua hs ha ss sa) (fdR R0 U H0 t ev P0) := by
  have hp := p10_le hn
  have hl := fd_lt (n := n) hR
  unfold f_Sho_find_150
  refine ok_ii h7 (fun g => ?_) (fun g => ?_)
  · exact ok_s ⟨n, _, hn, ⟨hn2, hm, hf, fun q => absurd q.1 g, fun _ => rfl⟩, rfl, rfl⟩
  · have g' : upF R0 U H0 t ev n := Classical.not_not.mp g
    refine ok_ii h6 (fun g2 => ?_) (fun g2 => ?_)
    · exact ok_s ⟨n, _, hn, ⟨hn2, hm, hf, fun _ => rfl, fun q => absurd ⟨g', Or.inl g2⟩ q⟩, lN_1 _, rfl⟩
    · have g2' : dnF R0 U H0 ev n := Classical.not_not.mp g2
      have hU0 : 0 < U := by omega
      have hml := Nat.mod_lt (10 ^ n * R0) hU0
      refine ok_b (sho_nearer hN hfu hr hU (by omega) (by omega)) (fun v hv => ?_)
      refine ok_ii hv (fun g3 => ?_) (fun g3 => ?_)
      · refine ok_s ⟨n, _, hn, ⟨hn2, hm, hf, fun q => ?_, fun _ => rfl⟩, rfl, rfl⟩
        rcases q.2 with q2 | q2
        · exact absurd g2' q2
        · exact absurd q2 g3
      · exact ok_s ⟨n, _, hn, ⟨hn2, hm, hf, fun _ => rfl, fun q => absurd ⟨g', Or.inr (Classical.not_not.mp g3)⟩ q⟩, lN_1 _, rfl⟩
theorem fd_num {j : Nat} (hU : 0 < U) (hq : 10 * (10 ^ j * R0 % U) / U < 2 ^ 31) : lN (10 ^ j * R0 / U) * 10 + (nI (10 * (10 ^ j * R0 % U) / U)).toInt64 = lN (10 ^ (j + 1) * R0 / U) := by
  rw [nI_l hq]
  have e10 : (10 : Int64) = lN 10 := rfl
  rw [e10, lN_mul, lN_add]
  congr 1
  have e : 10 ^ (j + 1) * R0 = 10 * (10 ^ j * R0 % U) + 10 * (10 ^ j * R0 / U) * U := by
    rw [Nat.pow_succ]
    have := Nat.div_add_mod (10 ^ j * R0) U
    generalize 10 ^ j = p at *
    generalize p * R0 / U = q at *
    generalize p * R0 % U = r at *
    have e2 : p * 10 * R0 = 10 * (p * R0) := by grind
    rw [e2, ← this]
    grind
  rw [e, Nat.add_mul_div_right _ _ hU]
  omega
theorem fd_rest {j : Nat} : 10 * (10 ^ j * R0 % U) % U = 10 ^ (j + 1) * R0 % U := by
  rw [Nat.mul_mod, Nat.mod_mod, ← Nat.mul_mod, Nat.pow_succ]
  congr 1
  generalize 10 ^ j = p
  grind
/-- the loop, flags standing at 0 -/
theorem sho_59 (hN : N < 2 ^ 30) (hfu : N + 20 < fu) (hR : R0 < U) (hU : bb N U us ua) (hsz : U * 1000 < 4294967296 ^ N) (hH : H0 ≤ R0) (he : e = 0 ↔ ev = false) (hw : (w = 0 ∧ t = 1) ∨ (¬ w = 0 ∧ t = 2)) (hend : dnF R0 U H0 ev 17 ∨ upF R0 U H0 t ev 17) :
    ∀ (d m j : Nat) (rs hs ss : Int32) (ra ha sa : Nat → Int32), j + d = 17 → d + 1 < m → (∀ i, 2 ≤ i → i ≤ j → ¬ dnF R0 U H0 ev i ∧ ¬ upF R0 U H0 t ev i) → 10 ^ j * H0 ≤ 10 * U → bb N (10 ^ j * R0 % U) rs ra → bb N (10 ^ j * H0) hs ha →
    ok (f_Sho_find_59 fu N N N N x1 x3 m 0 0 (nI (j + 1)) w e (lN (10 ^ j * R0 / U)) (iI (P0 - j)) rs ra us ua hs ha ss sa) (fdR R0 U H0 t ev P0)
  | d, 0, _, _, _, _, _, _, _, _, h, _, _, _, _ => by omega
  | 0, m + 1, j, rs, hs, ss, ra, ha, sa, hj, _, hm, _, _, _ => by
    have e17 : j = 17 := by omega
    subst e17
    have := hm 17 (by decide) (by decide)
    rcases hend with g | g
    · exact absurd g this.1
    · exact absurd g this.2
  | d + 1, m + 1, j, rs, hs, ss, ra, ha, sa, hj, hd, hm, hHj, hr, hh => by
    have hU0 : 0 < U := by omega
    have hml := Nat.mod_lt (10 ^ j * R0) hU0
    have hml' := Nat.mod_lt (10 ^ (j + 1) * R0) hU0
    have hq : 10 * (10 ^ j * R0 % U) / U < 2 ^ 31 := by
      have : 10 * (10 ^ j * R0 % U) / U < 10 := by
        rw [Nat.div_lt_iff_lt_mul hU0]; omega
      omega
    have eH : 10 * (10 ^ j * H0) = 10 ^ (j + 1) * H0 := by
      rw [Nat.pow_succ]; generalize 10 ^ j = p; grind
    rw [f_Sho_find_59_s]
    refine ok_f (by rw [show (17 : Int32) = nI 17 from rfl, nI_ltI (by decide) (by omega)]; omega) ?_
    refine ok_t rfl (ok_t rfl ?_)
    refine ok_b (sho_next hN hfu hr hh hU hml (by omega) (by omega)) (fun v hv => ?_)
    obtain ⟨v1, v2, v3⟩ := hv
    rw [v1, fd_num hU0 hq]
    rw [fd_rest] at v2
    rw [eH] at v3
    have eP : iI (P0 - j) - 1 = iI (P0 - (j + 1 : Nat)) := by
      rw [show (1 : Int32) = iI 1 from rfl, iI_sub]
      congr 1
      omega
    rw [eP]
    by_cases q1 : j = 0
    · subst q1
      refine ok_t (by decide) ?_
      unfold f_Sho_find_121 f_Sho_find_122
      refine ok_t (by decide) ?_
      rw [nI_1]
      refine sho_59 hN hfu hR hU hsz hH he hw hend d m (0 + 1) _ _ _ _ _ _ (by omega) (by omega) (fun i h1 h2 => by omega) ?_ v2 v3
      simp only [Nat.zero_add, Nat.pow_one]
      omega
    · have hj2 : ¬ nI (j + 1) < 2 := by
        rw [show (2 : Int32) = nI 2 from rfl, nI_ltI (by omega) (by decide)]; omega
      refine ok_f hj2 ?_
      have hN1 : N < fu := by omega
      -- what follows, with the flag of below
      have tail : ∀ k0 : Int32, (k0 = 0 ↔ ¬ dnF R0 U H0 ev (j + 1)) → ok (f_Sho_find_122 fu N N N N x1 x3 (f_Sho_find_59 fu N N N N x1 x3 m) (nI (j + 1)) k0 w e (lN (10 ^ (j + 1) * R0 / U)) (iI (P0 - (j + 1 : Nat))) v.2.1 v.2.2.1 us ua v.2.2.2.1 v.2.2.2.2 ss sa) (fdR R0 U H0 t ev P0) := by
        intro k0 hk0
        unfold f_Sho_find_122
        refine ok_f hj2 ?_
        refine ok_b (sho_above hN hN1 v2 v3 hU he hw (by omega)) (fun u hu => ?_)
        have go : ∀ (k7 : Int32), (k7 = 0 ↔ ¬ upF R0 U H0 t ev (j + 1)) → ok (f_Sho_find_59 fu N N N N x1 x3 m k0 k7 (nI (j + 1) + 1) w e (lN (10 ^ (j + 1) * R0 / U)) (iI (P0 - (j + 1 : Nat))) v.2.1 v.2.2.1 us ua v.2.2.2.1 v.2.2.2.2 u.2.1 u.2.2) (fdR R0 U H0 t ev P0) := by
          intro k7 hk7
          rw [nI_1]
          by_cases hf : dnF R0 U H0 ev (j + 1) ∨ upF R0 U H0 t ev (j + 1)
          · obtain ⟨m', rfl⟩ : ∃ m', m = m' + 1 := ⟨m - 1, by omega⟩
            have fin := sho_150 (P0 := P0) (w := w) (e := e) (x1 := x1) (x3 := x3) (hs := v.2.2.2.1) (ha := v.2.2.2.2) (ss := u.2.1) (sa := u.2.2) hN hN1 hR hU hsz (n := j + 1) (by omega) (by omega) v2 (fun i a1 a2 => hm i a1 (by omega)) hk0 hk7 hf
            rw [f_Sho_find_59_s]
            refine ok_if (fun _ => fin) (fun _ => ?_)
            refine ok_ii hk0 (fun a1 => ?_) (fun a1 => fin)
            refine ok_ii hk7 (fun a2 => ?_) (fun a2 => fin)
            rcases hf with hf | hf
            · exact absurd hf a1
            · exact absurd hf a2
          · have a1 : ¬ dnF R0 U H0 ev (j + 1) := fun q => hf (Or.inl q)
            have a2 : ¬ upF R0 U H0 t ev (j + 1) := fun q => hf (Or.inr q)
            rw [hk0.mpr a1, hk7.mpr a2]
            refine sho_59 hN hfu hR hU hsz hH he hw hend d m (j + 1) _ _ _ _ _ _ (by omega) (by omega) (fun i h1 h2 => ?_) ?_ v2 v3
            · rcases Nat.lt_or_ge i (j + 1) with q | q
              · exact hm i h1 (by omega)
              · have : i = j + 1 := by omega
                subst this
                exact ⟨a1, a2⟩
            · have : ¬ 10 ^ (j + 1) * R0 % U < 10 ^ (j + 1) * H0 := fun q => a1 (Or.inl q)
              omega
        refine ok_if (fun g => ?_) (fun g => ?_)
        · exact go 0 ⟨fun _ => hu.mp g, fun _ => rfl⟩
        · exact go 1 ⟨fun q => absurd q (by decide), fun q => absurd (hu.mpr q) g⟩
      refine ok_b (sho_below hN hN1 v2 v3 he) (fun u hu => ?_)
      refine ok_if (fun g => ?_) (fun g => ?_)
      · unfold f_Sho_find_121
        exact tail 0 ⟨fun _ => hu.mp g, fun _ => rfl⟩
      · exact tail 1 ⟨fun q => absurd q (by decide), fun q => absurd (hu.mpr q) g⟩
end Find
