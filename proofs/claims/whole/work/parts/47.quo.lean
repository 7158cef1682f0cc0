-- the class's quotient
theorem dgv_lt {B : Nat} {a : Nat → Int32} (hB : 0 < B) : ∀ {k : Nat}, (∀ i, i < k → un (a i) < B) → dgv B a k < B ^ k
  | 0, _ => by simp [dgv]
  | k + 1, h => by
    have ih := dgv_lt hB (fun i hi => h i (by omega)) (k := k)
    have hu := h k (by omega)
    show dgv B a k * B + un (a k) < _
    rw [Nat.pow_succ]
    have h1 : dgv B a k * B + un (a k) < (dgv B a k + 1) * B := by rw [Nat.add_mul, Nat.one_mul]; omega
    have h2 : (dgv B a k + 1) * B ≤ B ^ k * B := Nat.mul_le_mul_right _ ih
    omega
theorem quo_num_18 {fu N D w : Nat} {arr : Nat → Int32} (hN : N = 128) (hfu : 1200 < fu) (hD : w ≤ D) (hD2 : D < 2 ^ 31) (hw : w ≤ 1200) (hd : ∀ i, i < w → un (arr i) < 10) :
    ∀ (d m i g G : Nat) (s : Int32) (a : Nat → Int32), i + d = w → d < m → g ≤ 8 → g ≤ i → G < 10 ^ g → (i = w → g = 0) → dgv 10 arr i = dgv 10 arr (i - g) * 10 ^ g + G → bb N (dgv 10 arr (i - g)) s a →
    ok (f_Quo_setNumerator_18 fu N D (nI w) arr m (nI G) (nI (10 ^ g)) (nI g) (nI i) s a) (fun r => bb N (dgv 10 arr w) r.1 r.2)
  | d, 0, _, _, _, _, _, _, q, _, _, _, _, _, _ => by omega
  | 0, m + 1, i, g, G, s, a, hi, _, hg, hgi, hG, hiw, hv, hb => by
    have hie : i = w := by omega
    have hg0 := hiw hie
    subst hie hg0
    rw [f_Quo_setNumerator_18_s]
    exact ok_t (nI_le (Nat.le_refl _) (by omega)) (ok_s hb)
  | d + 1, m + 1, i, g, G, s, a, hi, hm, hg, hgi, hG, hiw, hv, hb => by
    have hu := hd i (by omega)
    have hpw : 10 ^ g ≤ 10 ^ 8 := Nat.pow_le_pow_right (by decide) hg
    have hp0 : 0 < 10 ^ g := Nat.pow_pos (by decide)
    rw [f_Quo_setNumerator_18_s]
    refine ok_f (nI_ge (by omega) (by omega)) (ok_t (in_N (by omega) hD2) ?_)
    have e1 : nI G * 10 + arr (nI i).toNatClampNeg = nI (G * 10 + un (arr i)) := by
      rw [nI_clamp (by omega), show (10 : Int32) = nI 10 from rfl, pk_mul]
      conv => lhs; rw [← nI_un (arr i)]
      exact nI_add _ _
    have e2 : nI (10 ^ g) * 10 = nI (10 ^ (g + 1)) := by
      rw [show (10 : Int32) = nI 10 from rfl, pk_mul, Nat.pow_succ]
    rw [e1, e2, nI_1]
    have hv2 : dgv 10 arr (i + 1) = dgv 10 arr (i - g) * 10 ^ (g + 1) + (G * 10 + un (arr i)) := by
      show dgv 10 arr i * 10 + un (arr i) = _
      rw [hv, Nat.pow_succ]
      generalize 10 ^ g = p
      generalize dgv 10 arr (i - g) = x
      grind
    have hG2 : G * 10 + un (arr i) < 10 ^ (g + 1) := by rw [Nat.pow_succ]; omega
    refine ok_l (ok_l ?_)
    have hpw2 : 10 ^ (g + 1) ≤ 10 ^ 9 := Nat.pow_le_pow_right (by decide) (by omega)
    have flush : ok (f_Quo_setNumerator_66 fu N D (nI w) arr (f_Quo_setNumerator_18 fu N D (nI w) arr m) (nI (G * 10 + un (arr i))) (nI (10 ^ (g + 1))) (nI i) s a) (fun r => bb N (dgv 10 arr w) r.1 r.2) := by
      unfold f_Quo_setNumerator_66
      have hlt : dgv 10 arr (i + 1) < 4294967296 ^ N := by
        have h1 := dgv_lt (B := 10) (a := arr) (k := i + 1) (by decide) (fun j hj => hd j (by omega))
        have h2 : 10 ^ (i + 1) ≤ 10 ^ 1200 := Nat.pow_le_pow_right (by decide) (by omega)
        have h3 : (10 : Nat) ^ 1200 < 4294967296 ^ 128 := by decide +kernel
        rw [hN]
        omega
      have hmul := big_mul (fu := fu) (N := N) (F := 10 ^ (g + 1)) (S := G * 10 + un (arr i)) (by omega) (by omega) (Nat.pow_pos (by decide)) (by omega) (by omega) hb (by rw [← hv2]; exact hlt)
      rw [← hv2] at hmul
      refine ok_b hmul (fun r hr => ?_)
      rw [nI_1]
      exact quo_num_18 hN hfu hD hD2 hw hd d m (i + 1) 0 0 r.1 r.2 (by omega) (by omega) (by omega) (by omega) (by decide) (fun _ => rfl) (by simp) (by simpa using hr)
    refine ok_ii (nI_eq (b := 9) (by omega) (by decide)) (fun q => flush) (fun q => ?_)
    have e3 : nI w - 1 = nI (w - 1) := by
      obtain ⟨x, rfl⟩ : ∃ x, w = x + 1 := ⟨w - 1, by omega⟩
      rw [nI_pred, Nat.add_sub_cancel]
    rw [e3]
    refine ok_ii (nI_eq (by omega) (by omega)) (fun q2 => flush) (fun q2 => ?_)
    rw [nI_1]
    exact quo_num_18 hN hfu hD hD2 hw hd d m (i + 1) (g + 1) _ s a (by omega) (by omega) (by omega) (by omega) hG2 (fun q3 => by omega) (by rw [show i + 1 - (g + 1) = i - g by omega]; exact hv2) (by rw [show i + 1 - (g + 1) = i - g by omega]; exact hb)
theorem quo_num {fu N D w : Nat} {arr : Nat → Int32} {s : Int32} {a : Nat → Int32} (hN : N = 128) (hfu : 1200 < fu) (hD : w ≤ D) (hD2 : D < 2 ^ 31) (hw : w ≤ 1200) (hd : ∀ i, i < w → un (arr i) < 10) :
    ok (f_Quo_setNumerator fu N D s a (nI w) arr) (fun r => bb N (dgv 10 arr w) r.1 r.2) := by
  unfold f_Quo_setNumerator
  refine ok_b (big_set (x := 0) (by omega) (by omega) (by omega) (by decide)) (fun r hr => ?_)
  exact quo_num_18 hN hfu hD hD2 hw hd w fu 0 0 0 r.1 r.2 (by omega) (by omega) (by omega) (by omega) (by decide) (fun _ => rfl) rfl hr
theorem quo_bits_7 {fu N Q : Nat} {ds : Int32} {da : Nat → Int32} {num : Nat} (hN : N = 128) (hfu : 1200 < fu) (hb : bb N Q ds da) (hQ : Q < 2 ^ 4000) :
    ∀ (d m i l R : Nat) (s : Int32) (a : Nat → Int32), i + d = 63 → d < m → l < 2 ^ i → R < 2 * Q → num * 2 ^ i = l * (2 * Q) + R → bb N R s a →
    ok (f_Quo_divideBits_7 fu N N ds da m (nI i) (lN l) s a) (fun r => ∃ l' R', r.1 = lN l' ∧ l' < 2 ^ 63 ∧ R' < 2 * Q ∧ num * 2 ^ 63 = l' * (2 * Q) + R' ∧ bb N R' r.2.1 r.2.2)
  | d, 0, _, _, _, _, _, _, q, _, _, _, _ => by omega
  | 0, m + 1, i, l, R, s, a, hi, _, hl, hR, hv, ha => by
    have hie : i = 63 := by omega
    subst hie
    rw [f_Quo_divideBits_7_s]
    exact ok_t (by decide) (ok_s ⟨l, R, rfl, hl, hR, hv, ha⟩)
  | d + 1, m + 1, i, l, R, s, a, hi, hm, hl, hR, hv, ha => by
    have hpi : 2 ^ i ≤ 2 ^ 62 := Nat.pow_le_pow_right (by decide) (by omega)
    rw [f_Quo_divideBits_7_s]
    refine ok_f (nI_ge (b := 63) (by omega) (by decide)) ?_
    refine ok_b (big_cmp (by omega) (by omega) (by omega) ha hb) (fun r hr => ?_)
    have esl : lN l <<< ((1 : Int32).toInt64 &&& 63) = lN (l * 2) := by
      rw [show (1 : Int32) = nI 1 from rfl, wb_shl _ (by decide)]
    rw [esl]
    have hW : (4294967296 : Nat) ^ (N - 1) = 2 ^ 4064 := by rw [hN]; decide +kernel
    have hbig : (2 : Nat) ^ 4000 * 4 ≤ 2 ^ 4064 := by decide +kernel
    refine ok_ii hr.1 (fun q => ?_) (fun q => ?_)
    · unfold f_Quo_divideBits_58
      have hs := big_shl (fu := fu) (N := N) (c := 1) (by omega) (by omega) (by decide) ha (by rw [hW]; omega) (by omega)
      refine ok_b hs (fun r2 hr2 => ?_)
      rw [nI_1]
      exact quo_bits_7 hN hfu hb hQ d m (i + 1) _ _ _ _ (by omega) (by omega) (by rw [Nat.pow_succ]; omega) (by omega) (by rw [Nat.pow_succ, ← Nat.mul_assoc, hv]; grind) hr2
    · refine ok_b (big_sub (by omega) (by omega) (by omega) ha hb (by omega)) (fun r1 hr1 => ?_)
      unfold f_Quo_divideBits_58
      have hs := big_shl (fu := fu) (N := N) (c := 1) (by omega) (by omega) (by decide) hr1 (by rw [hW]; omega) (by omega)
      refine ok_b hs (fun r2 hr2 => ?_)
      rw [nI_1]
      have eor : lN (l * 2) ||| 1 = lN (l * 2 + 1) := g_or (k := 1) (p := 2) (a := 1) rfl (by decide) (by omega)
      rw [eor]
      exact quo_bits_7 hN hfu hb hQ d m (i + 1) _ _ _ _ (by omega) (by omega) (by rw [Nat.pow_succ]; omega) (by omega) (by rw [Nat.pow_succ, ← Nat.mul_assoc, hv]; grind) hr2
/-- lead, power and more of D * 10^s -/
def quoR (D : Nat) (s : Int) (u : Int64 × Int32 × Int32 × Int32 × (Nat → Int32) × Int32 × (Nat → Int32)) : Prop :=
  ∃ (lead more : Nat) (p : Int), u.1 = lN lead ∧ u.2.1 = iI p ∧ u.2.2.1 = nI more ∧ more ≤ 1 ∧ 2 ^ 61 ≤ lead ∧ lead < 2 ^ 63 ∧ -2 ^ 20 < p ∧ p < 2 ^ 20 ∧
    ∀ K : Nat, 0 ≤ p + K → 0 ≤ s + K → (more = 0 → D * 5 ^ s.toNat * 2 ^ (s + K).toNat = lead * 2 ^ (p + K).toNat * 5 ^ (-s).toNat) ∧ (more = 1 → lead * 2 ^ (p + K).toNat * 5 ^ (-s).toNat < D * 5 ^ s.toNat * 2 ^ (s + K).toNat ∧ D * 5 ^ s.toNat * 2 ^ (s + K).toNat < (lead + 1) * 2 ^ (p + K).toNat * 5 ^ (-s).toNat)
theorem fives_any {fu N v : Nat} {z : Int} {s : Int32} {a : Nat → Int32} (hN : N < 2 ^ 30) (hfu : N < fu) (h1 : -2 ^ 20 < z) (h2 : z < 2 ^ 20) (hfz : z < fu) (h : bb N v s a) (hlt : v * 5 ^ z.toNat < 4294967296 ^ N) : ok (f_Big_multiplyByFives fu N (iI z) s a) (fun r => bb N (v * 5 ^ z.toNat) r.1 r.2) := by
  by_cases q : z ≤ 0
  · rw [big_fives0 ((iI_le (b := 0) (by omega) (by omega) (by omega) (by omega)).mpr q) (by omega), show z.toNat = 0 by omega]
    refine ok_s ?_
    rw [Nat.pow_zero, Nat.mul_one]
    exact h
  · rw [show iI z = nI z.toNat by rw [← iI_nat]; congr 1; omega]
    exact big_fives hN hfu (by omega) (by omega) h hlt
theorem shl_any {fu N v : Nat} {z : Int} {s : Int32} {a : Nat → Int32} (hN : N < 2 ^ 30) (hN0 : 0 < N) (hfu : N + 1 < fu) (h1 : -2 ^ 20 < z) (h2 : z < 2 ^ 20) (h : bb N v s a) (hlt : v * 2 ^ z.toNat < 4294967296 ^ (N - 1)) : ok (f_Big_shiftLeft fu N (iI z) s a) (fun r => bb N (v * 2 ^ z.toNat) r.1 r.2) := by
  by_cases q : z ≤ 0
  · rw [big_shl0 ((iI_le (b := 0) (by omega) (by omega) (by omega) (by omega)).mpr q), show z.toNat = 0 by omega]
    refine ok_s ?_
    rw [Nat.pow_zero, Nat.mul_one]
    exact h
  · rw [show iI z = nI z.toNat by rw [← iI_nat]; congr 1; omega]
    exact big_shl hN hfu (by omega) h hlt hN0
theorem quo_div {fu N D w : Nat} {arr : Nat → Int32} {s : Int} {ld : Int64} {pw mr ns ds : Int32} {na da : Nat → Int32} (hN : N = 128) (hfu : 5000 < fu) (hD : w ≤ D) (hD2 : D < 2 ^ 31) (hw : w ≤ 1200) (hd : ∀ i, i < w → un (arr i) < 10) (h0 : 0 < dgv 10 arr w) (hs1 : -4000 < s) (hs2 : s < 4000) (hb1 : dgv 10 arr w * 5 ^ s.toNat < 2 ^ 3990) (hb2 : 5 ^ (-s).toNat < 2 ^ 3990) :
    ok (f_Quo_divide fu N N D (iI s) ld pw mr ns na ds da (nI w) arr) (quoR (dgv 10 arr w) s) := by
  have hW : (4294967296 : Nat) ^ (N - 1) = 2 ^ 4064 := by rw [hN]; decide +kernel
  have hWN : (2 : Nat) ^ 4064 ≤ 4294967296 ^ N := by rw [hN]; decide +kernel
  have hbig : (2 : Nat) ^ 3990 ≤ 2 ^ 4000 := Nat.pow_le_pow_right (by decide) (by decide)
  have hbig2 : (2 : Nat) ^ 4000 ≤ 2 ^ 4064 := Nat.pow_le_pow_right (by decide) (by decide)
  unfold f_Quo_divide
  refine ok_b (quo_num hN (by omega) hD hD2 hw hd) (fun r1 hr1 => ?_)
  refine ok_b (big_set (x := 1) (by omega) (by omega) (by omega) (by decide)) (fun r2 hr2 => ?_)
  generalize dgv 10 arr w = V at *
  refine ok_b (fives_any (by omega) (by omega) (by omega) (by omega) (by omega) hr1 (by omega)) (fun r3 hr3 => ?_)
  rw [iI_neg]
  refine ok_b (fives_any (by omega) (by omega) (by omega) (by omega) (by omega) hr2 (by omega)) (fun r4 hr4 => ?_)
  rw [Nat.one_mul] at hr4
  generalize hnum : V * 5 ^ s.toNat = num at *
  generalize hden : 5 ^ (-s).toNat = den at *
  have hnum0 : 0 < num := by rw [← hnum]; exact Nat.mul_pos h0 (Nat.pow_pos (by decide))
  have hden0 : 0 < den := by rw [← hden]; exact Nat.pow_pos (by decide)
  refine ok_b (big_bits (by omega) (by omega) hr3) (fun r5 hr5 => ?_)
  obtain ⟨L1, rfl, b1, b1n⟩ := hr5
  refine ok_b (big_bits (by omega) (by omega) hr4) (fun r6 hr6 => ?_)
  obtain ⟨L2, rfl, b2, b2n⟩ := hr6
  obtain ⟨b11, b12, _⟩ := b1
  obtain ⟨b21, b22, _⟩ := b2
  have b12 := b12 hnum0
  have b22 := b22 hden0
  have hL1 : L1 ≤ 3990 := by
    have : 2 ^ (L1 - 1) < 2 ^ 3990 := by omega
    have := (Nat.pow_lt_pow_iff_right (by decide)).mp this
    omega
  have hL2 : L2 ≤ 3990 := by
    have : 2 ^ (L2 - 1) < 2 ^ 3990 := by omega
    have := (Nat.pow_lt_pow_iff_right (by decide)).mp this
    omega
  rw [← iI_nat, ← iI_nat, iI_sub]
  refine ok_l ?_
  obtain ⟨A, hA⟩ : ∃ A : Int, A = (L1 : Int) - L2 := ⟨_, rfl⟩
  rw [← hA]
  -- both with L bits
  obtain ⟨L, hL, hLn⟩ : ∃ L, L = max L1 L2 ∧ L ≤ 3990 := ⟨max L1 L2, rfl, by omega⟩
  have hL0 : 0 < L := by omega
  have hp2 : 2 * 2 ^ (L - 1) = 2 ^ L := by rw [Nat.mul_comm, ← Nat.pow_succ]; congr 1; omega
  have hnL : num * 2 ^ (-A).toNat < 2 ^ L ∧ 2 ^ (L - 1) ≤ num * 2 ^ (-A).toNat := by
    have e1 : L1 + (-A).toNat = L := by omega
    constructor
    · rw [← e1, Nat.pow_add]; exact Nat.mul_lt_mul_of_pos_right b11 (Nat.two_pow_pos _)
    · rw [show L - 1 = (L1 - 1) + (-A).toNat by omega, Nat.pow_add]; exact Nat.mul_le_mul_right _ b12.2
  have hdL : den * 2 ^ A.toNat < 2 ^ L ∧ 2 ^ (L - 1) ≤ den * 2 ^ A.toNat := by
    have e1 : L2 + A.toNat = L := by omega
    constructor
    · rw [← e1, Nat.pow_add]; exact Nat.mul_lt_mul_of_pos_right b21 (Nat.two_pow_pos _)
    · rw [show L - 1 = (L2 - 1) + A.toNat by omega, Nat.pow_add]; exact Nat.mul_le_mul_right _ b22.2
  have hLp : 2 ^ L ≤ 2 ^ 3990 := Nat.pow_le_pow_right (by decide) hLn
  refine ok_b (shl_any (z := A) (by omega) (by omega) (by omega) (by omega) (by omega) hr4 (by omega)) (fun r8 hr8 => ?_)
  rw [iI_neg]
  refine ok_b (shl_any (z := -A) (by omega) (by omega) (by omega) (by omega) (by omega) hr3 (by omega)) (fun r9 hr9 => ?_)
  have hbits := quo_bits_7 (fu := fu) (N := N) (Q := den * 2 ^ A.toNat) (num := num * 2 ^ (-A).toNat) hN (by omega) hr8 (by omega) 63 fu 0 0 _ r9.1 r9.2 (by omega) (by omega) (by decide) (by omega) (by rw [Nat.pow_zero, Nat.mul_one, Nat.zero_mul, Nat.zero_add]) hr9
  refine ok_b hbits (fun r10 hr10 => ?_)
  obtain ⟨l, R, e1, e2, e3, e4, e5⟩ := hr10
  refine ok_be (big_isZero (by omega) e5) ?_
  have hlead : 2 ^ 61 ≤ l := by
    generalize den * 2 ^ A.toNat = Q at *
    generalize num * 2 ^ (-A).toNat = n1 at *
    have h1 : Q * 2 ^ 62 < (2 * (l + 1)) * Q := by
      have h2 : Q + 1 ≤ 2 * n1 := by omega
      have h3 := Nat.mul_le_mul_right (2 ^ 62) h2
      have h4 : 2 * n1 * 2 ^ 62 = n1 * 2 ^ 63 := by grind
      have h5 : 2 * (l + 1) * Q = l * (2 * Q) + 2 * Q := by grind
      rw [Nat.add_mul] at h3
      omega
    rw [Nat.mul_comm Q] at h1
    have := Nat.lt_of_mul_lt_mul_right h1
    omega
  have hp : iI s + iI A - 62 = iI (s + A - 62) := by
    rw [iI_add, show (62 : Int32) = iI 62 from rfl, iI_sub]
  rw [hp]
  have main : ∀ K : Nat, 0 ≤ (s + A - 62) + K → 0 ≤ s + K → num * 2 ^ (s + K).toNat * 2 ^ (A.toNat + 1) = l * 2 ^ ((s + A - 62) + K).toNat * den * 2 ^ (A.toNat + 1) + R * 2 ^ ((s + A - 62) + K).toNat := by
    intro K k1 k2
    obtain ⟨Z, hZ⟩ : ∃ Z, Z = ((s + A - 62) + K).toNat := ⟨_, rfl⟩
    rw [← hZ]
    have h1 : num * 2 ^ (s + K).toNat * 2 ^ (A.toNat + 1) = num * 2 ^ (-A).toNat * 2 ^ 63 * 2 ^ Z := by
      rw [Nat.mul_assoc, Nat.mul_assoc, Nat.mul_assoc, ← Nat.pow_add, ← Nat.pow_add, ← Nat.pow_add]
      congr 2
      omega
    rw [h1, e4, Nat.pow_succ]
    generalize 2 ^ A.toNat = x
    generalize 2 ^ Z = y
    grind
  have fin : ∀ more : Nat, (more = 0 ∧ R = 0) ∨ (more = 1 ∧ ¬ R = 0) → quoR V s (r10.1, iI (s + A - 62), nI more, r10.2.1, r10.2.2, r8.1, r8.2) := by
    intro more hmore
    refine ⟨l, more, s + A - 62, e1, rfl, rfl, by omega, hlead, e2, by omega, by omega, fun K k1 k2 => ?_⟩
    have m1 := main K k1 k2
    rw [hnum, hden]
    have hx : 0 < 2 ^ (A.toNat + 1) := Nat.two_pow_pos _
    have hy : 0 < 2 ^ ((s + A - 62) + K).toNat := Nat.two_pow_pos _
    have hR2 : R < den * 2 ^ (A.toNat + 1) := by
      rw [Nat.pow_succ]
      have : 2 * (den * 2 ^ A.toNat) = den * (2 ^ A.toNat * 2) := by generalize 2 ^ A.toNat = x; grind
      omega
    generalize 2 ^ ((s + A - 62) + K).toNat = Z at *
    generalize 2 ^ (s + K).toNat = Y at *
    generalize 2 ^ (A.toNat + 1) = W at *
    constructor
    · intro q
      have hR0 : R = 0 := by omega
      rw [hR0, Nat.zero_mul, Nat.add_zero] at m1
      exact Nat.eq_of_mul_eq_mul_right hx m1
    · intro q
      have hR0 : 0 < R := by omega
      constructor
      · apply Nat.lt_of_mul_lt_mul_right (a := W)
        rw [m1]
        have := Nat.mul_pos hR0 hy
        omega
      · apply Nat.lt_of_mul_lt_mul_right (a := W)
        rw [m1]
        have h3 : R * Z < den * W * Z := Nat.mul_lt_mul_of_pos_right hR2 hy
        have h4 : (l + 1) * Z * den * W = l * Z * den * W + den * W * Z := by grind
        omega
  by_cases hR : R = 0
  · rw [if_pos hR]
    exact ok_f (by decide) (ok_s (fin 0 (Or.inl ⟨rfl, hR⟩)))
  · rw [if_neg hR]
    exact ok_t rfl (ok_s (fin 1 (Or.inr ⟨rfl, hR⟩)))
