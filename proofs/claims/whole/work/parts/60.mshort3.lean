-- the reference's shortest digits, all of it
section IsR
variable {f y K R0 U H0 : Nat} {lp P0 : Int}
theorem isR_dn {V g t E0 j : Nat} (h : stt K V g P0 R0 U H0) (hK : 0 ≤ P0 - j + K) (h1 : pm_mid f E0 (y - 1) + g = 2 * V) (h2 : pm_mid f E0 y = 2 * V + t * g) (hg : 0 < t * g) :
    isR f E0 y K (P0 - j) (10 ^ j * R0 / U) ↔ dnF R0 U H0 (decide (y % 2 = 0)) j := by
  obtain ⟨d1, d2⟩ := st_dn h j hK h1
  obtain ⟨f1, f2⟩ := st_fl h j hK
  have hb := tB_pos (P0 - j)
  have hc : 2 * (10 ^ j * R0 / U * tA K (P0 - j)) < pm_mid f E0 y * tB (P0 - j) := by
    rw [h2, Nat.add_mul]
    have : 0 < t * g * tB (P0 - j) := Nat.mul_pos hg hb
    have e : 2 * V * tB (P0 - j) = 2 * (tB (P0 - j) * V) := by grind
    rw [e]
    omega
  unfold isR dnF
  rw [d1, d2, decide_eq_true_eq]
  exact ⟨fun q => q.1, fun q => ⟨q, Or.inl hc⟩⟩
theorem isR_up {V g t E0 j : Nat} (h : stt K V g P0 R0 U H0) (hK : 0 ≤ P0 - j + K) (h1 : pm_mid f E0 (y - 1) + g = 2 * V) (h2 : pm_mid f E0 y = 2 * V + t * g) :
    isR f E0 y K (P0 - j) (10 ^ j * R0 / U + 1) ↔ upF R0 U H0 t (decide (y % 2 = 0)) j := by
  obtain ⟨d1, d2⟩ := st_up h j hK h2
  obtain ⟨f1, f2⟩ := st_fl h j hK
  have hc : pm_mid f E0 (y - 1) * tB (P0 - j) < 2 * ((10 ^ j * R0 / U + 1) * tA K (P0 - j)) := by
    have a : pm_mid f E0 (y - 1) * tB (P0 - j) ≤ 2 * V * tB (P0 - j) := Nat.mul_le_mul_right _ (by omega)
    have e : 2 * V * tB (P0 - j) = 2 * (tB (P0 - j) * V) := by grind
    rw [e] at a
    omega
  unfold isR upF
  rw [d1, d2, decide_eq_true_eq]
  exact ⟨fun q => q.2, fun q => ⟨Or.inl hc, q⟩⟩
end IsR
theorem p10_57 {j : Nat} (h : j ≤ 17) : 10 ^ j - 0 < 2 ^ 57 ∧ 10 ^ j < 2 ^ 62 := by
  have := p10_le h
  omega
section MShort3
variable {fu : Nat} {x : Int32} {x' f M y R0 U H0 n D : Nat} {lp P0 : Int}
theorem mod_sh32 (h : fs x f lp M) (h' : fm x' f lp M) (hfu : 1000 < fu) (hy0 : 0 < y) (hy : y ≤ M * 2 ^ f) (hs : sst (pm_man f y) (ex f lp y) (nI (nar f y)) P0 R0 U H0) (hn : n ≤ 17) (hR : shR R0 U H0 (1 + nar f y) (decide (y % 2 = 0)) n D) :
    ∀ (e k j : Nat) (aM bM fM lM rM tw pw : Int32) (aa ba fa L R : Nat → Int32), j + e = n → e < k → 2 ≤ j →
    ok (f_Mod_shortest_32 fu 520 520 520 520 520 (lN y) x k (lN (pm_man f y)) (lN (10 ^ (j - 1))) (iI (ex f lp y)) (iI (P0 - 1)) (nI j) aM bM fM lM rM tw pw aa ba fa L R) (fun r => r.1 = lN D ∧ r.2.2.2.2.2.2.2.1 = iI (P0 - n))
  | e, 0, _, _, _, _, _, _, _, _, _, _, _, _, _, _, hk, _ => by omega
  | e, k + 1, j, aM, bM, fM, lM, rM, tw, pw, aa, ba, fa, L, R, hj, hk, hj2 => by
    have hb := fm_b h'
    have hq := ex_bm h' hy
    have hm1 := pm_man_lt f y
    have hf2 : 2 ^ (f + 1) ≤ 2 ^ 53 := Nat.pow_le_pow_right (by decide) (by omega)
    obtain ⟨hst, g1, g2⟩ := sst_stt (K := 2000) (Nat.le_refl _) h' hy0 hs
    have hs' := hs
    obtain ⟨s1, _, _, _, s5, s6, _⟩ := hs'
    obtain ⟨r1, r2, r3, r4, r5⟩ := hR
    have hp10 := p10_le (n := j) (by omega)
    have hl := fd_lt (n := j) s1
    have hKj : 0 ≤ P0 - j + (2000 : Nat) := by omega
    have hdn := isR_dn hst hKj g1 g2 (Nat.mul_pos (by omega) (Nat.two_pow_pos _))
    have hup := isR_up hst hKj g1 g2
    have hfl := st_fl hst j hKj
    have hmd := st_md hst j hKj
    rw [f_Mod_shortest_32_s]
    refine ok_f (by rw [show (20 : Int32) = nI 20 from rfl, nI_leI (by decide) (by omega)]; omega) ?_
    have e10 : lN (10 ^ (j - 1)) * 10 = lN (10 ^ j) := by
      rw [show (10 : Int64) = lN 10 from rfl, lN_mul, ← Nat.pow_succ, show (j - 1).succ = j by omega]
    rw [e10]
    refine ok_l ?_
    have eP : iI (P0 - 1) - nI j + 1 = iI (P0 - j) := by
      rw [← iI_nat, show (1 : Int32) = iI 1 from rfl, iI_sub, iI_add]
      congr 1
      omega
    rw [eP]
    refine ok_b (mod_scale hfu (P := P0 - j) (by omega) (by omega)) (fun u5 hu5 => ?_)
    refine ok_b (P := fun r => r.1 = lN (10 ^ j * R0 / U)) ?_ (fun u6 hu6 => ?_)
    · unfold f_Mod_most
      exact mod_most_7 hfu (by omega) (by omega) hu5 (Nat.le_refl 2000) (by omega) (by omega) (by omega) hfl.1 hfl.2 57 fu 0 (10 ^ j) _ _ _ _ _ _ (p10_57 (by omega)).1 (by omega) (Nat.zero_le _) (Nat.le_of_lt hl) (p10_57 (by omega)).2
    rw [hu6]
    refine ok_b (mod_isRead h hfu (by omega) (by omega) hu5 (Nat.le_refl 2000) (by omega) hy0 hy) (fun u7 hu7 => ?_)
    rw [lN_1]
    refine ok_b (mod_isRead h hfu (by omega) (by omega) hu5 (Nat.le_refl 2000) (by omega) hy0 hy) (fun u8 hu8 => ?_)
    rw [hdn] at hu7
    rw [hup] at hu8
    by_cases hjn : j = n
    · subst hjn
      refine ok_ii hu7 (fun a => ?_) (fun a => ?_)
      · -- below isn't read: above is
        have b : upF R0 U H0 (1 + nar f y) (decide (y % 2 = 0)) j := by
          rcases r3 with q | q
          · exact absurd q a
          · exact q
        unfold f_Mod_shortest_159 f_Mod_shortest_169
        refine ok_t (hu7.mpr a) (ok_f (fun q => hu8.mp q b) (ok_t (hu7.mpr a) (ok_s ⟨?_, rfl⟩)))
        rw [r4 ⟨b, Or.inl a⟩]
        exact lN_1 _
      · have a' := Classical.not_not.mp a
        have h70 : ¬ u7.1 = 0 := fun q => a (hu7.mp q)
        refine ok_ii hu8 (fun b => ?_) (fun b => ?_)
        · unfold f_Mod_shortest_159 f_Mod_shortest_169
          refine ok_f h70 (ok_f h70 (ok_s ⟨?_, rfl⟩))
          rw [r5 (fun q => b q.1)]
        · have b' := Classical.not_not.mp b
          have e21 : 2 * lN (10 ^ j * R0 / U) + 1 = lN (2 * (10 ^ j * R0 / U) + 1) := by
            rw [show (2 : Int64) = lN 2 from rfl, lN_mul, lN_1]
          have eq1 : iI (ex f lp y) + 1 = iI (ex f lp y + 1) := by
            rw [show (1 : Int32) = iI 1 from rfl, iI_add]
          rw [e21, eq1]
          refine ok_b (mod_cmpD hfu (by omega) (by omega) hu5 (Nat.le_refl 2000) (by omega) (by omega) (by omega) (by omega)) (fun u9 hu9 => ?_)
          have e2V : pm_man f y * 2 ^ (ex f lp y + 1 + (2000 : Nat)).toNat = 2 * (pm_man f y * 2 ^ (ex f lp y + (2000 : Nat)).toNat) := by
            rw [show (ex f lp y + 1 + (2000 : Nat)).toNat = (ex f lp y + (2000 : Nat)).toNat + 1 by omega, Nat.pow_succ]
            generalize 2 ^ (ex f lp y + (2000 : Nat)).toNat = z
            grind
          rw [e2V] at hu9
          obtain ⟨c1, c2, c3⟩ := hu9
          refine ok_ii (c3.trans hmd.1) (fun c => ?_) (fun c => ?_)
          · refine ok_s ⟨?_, rfl⟩
            rw [r5 (fun q => by
              rcases q.2 with q2 | q2
              · exact q2 a'
              · unfold mdF at q2; omega)]
          · refine ok_ii (c2.trans hmd.2) (fun d => ?_) (fun d => ?_)
            · rw [wb_a1 (by omega)]
              refine ok_ii ((lg_cmp_eq _ _).trans (pk_lEQ (b := 0) (by omega) (by decide))) (fun e1 => ?_) (fun e1 => ?_)
              · refine ok_s ⟨?_, rfl⟩
                rw [r5 (fun q => by
                  rcases q.2 with q2 | q2
                  · exact q2 a'
                  · unfold mdF at q2; omega)]
              · refine ok_s ⟨?_, rfl⟩
                rw [r4 ⟨b', Or.inr (Or.inr ⟨d, by omega⟩)⟩]
            · refine ok_s ⟨?_, rfl⟩
              rw [r4 ⟨b', Or.inr (Or.inl (by omega))⟩]
    · have nn := r2 j hj2 (by omega)
      have z7 := hu7.mpr nn.1
      have z8 := hu8.mpr nn.2
      refine ok_t z7 ?_
      unfold f_Mod_shortest_159
      refine ok_t z7 (ok_t z8 ?_)
      rw [nI_1]
      exact mod_sh32 h h' hfu hy0 hy hs hn ⟨r1, r2, r3, r4, r5⟩ (e - 1) k (j + 1) _ _ _ _ _ _ _ _ _ _ _ _ (by omega) (by omega) (by omega)
theorem mod_short {aM bM fM lM rM tw pw : Int32} {aa ba fa L R : Nat → Int32} {num : Int64} {pwC : Int32} (h : fs x f lp M) (h' : fm x' f lp M) (hfu : 1000 < fu) (hy0 : 0 < y) (hy : y ≤ M * 2 ^ f) (hC : shC f lp y num pwC) :
    ok (f_Mod_shortest fu 520 520 520 520 520 (lN y) x aM bM fM lM rM tw pw aa ba fa L R) (fun r => r.1 = num ∧ r.2.2.2.2.2.2.2.1 = pwC) := by
  obtain ⟨P0, R0, U, H0, n, D, hs, hn, hR, rfl, rfl⟩ := hC
  have hb := fm_b h'
  have hq := ex_bm h' hy
  have hm1 := pm_man_lt f y
  have hf2 : 2 ^ (f + 1) ≤ 2 ^ 53 := Nat.pow_le_pow_right (by decide) (by omega)
  obtain ⟨hst, g1, g2⟩ := sst_stt (K := 2000) (Nat.le_refl _) h' hy0 hs
  have hs' := hs
  obtain ⟨s1, _, _, _, s5, s6, _⟩ := hs'
  have hP : P0 ≤ 311 := by
    rw [← st_ten (p := 311) hst (by omega) (by omega)]
    unfold tA tB
    have e1 : (-(311 : Int)).toNat = 0 := by decide
    have e2 : ((311 : Int) + (2000 : Nat)).toNat = 2311 := by decide
    have e3 : (311 : Int).toNat = 311 := by decide
    rw [e1, e2, e3, Nat.pow_zero, Nat.one_mul]
    refine Nat.lt_of_lt_of_le (Nat.mul_lt_mul_of_lt_of_le (show pm_man f y < 2 ^ 53 by omega) (Nat.pow_le_pow_right (show 0 < 2 by decide) (show (ex f lp y + (2000 : Nat)).toNat ≤ 2972 by omega)) (Nat.two_pow_pos _)) (by decide +kernel)
  unfold f_Mod_shortest
  refine ok_be (mod_man h (by omega)) (ok_be (mod_ex h hy) ?_)
  refine ok_b (mod_tens hfu (Nat.le_refl 2000) (by omega) (by omega) (by omega) hst (by omega) hP) (fun u3 hu3 => ?_)
  rw [hu3]
  have h2n := hR.1
  exact mod_sh32 h h' hfu hy0 hy hs hn hR (n - 2) fu 2 _ _ _ _ _ _ _ _ _ _ _ _ (by omega) (by omega) (by omega)
end MShort3
