-- the class's whole numbers, further
section Big
variable {fu N : Nat}
theorem big_sub {M v w : Nat} {s t : Int32} {a b : Nat → Int32} (hN : N < 2 ^ 30) (hM : M < 2 ^ 30) (hfu : N < fu) (ha : bb N v s a) (hb : bb M w t b) (hle : w ≤ v) : ok (f_Big_subtract fu N M s a t b) (fun r => bb N (v - w) r.1 r.2) := by
  obtain ⟨k, rfl, hk, hv, hd, ht⟩ := ha
  obtain ⟨l, rfl, hl, hw, he, hu⟩ := hb
  unfold f_Big_subtract
  have hlk : l ≤ k := by
    rcases Nat.lt_or_ge k l with q | q
    · have h1 := hu (by omega)
      have h2 := vl_lt (by decide) hd
      have h3 : 4294967296 ^ k ≤ 4294967296 ^ (l - 1) := Nat.pow_le_pow_right (by decide) (by omega)
      omega
    · exact q
  have hz : vl 4294967296 (zr l b) k = w := by rw [vl_zr hlk, hw]
  have := big_sub_5 (fu := fu) (N := N) (M := M) (a0 := a) (b := b) (by omega) (by omega) hfu hk hl (by rw [hz, hv]; exact hle) k fu 0 0 a (by omega) (by omega) (by omega) (fun _ _ => rfl) (by simp [vl])
  rw [hz, hv] at this
  exact this
theorem vl_sh {B w : Nat} {a : Nat → Int32} (hz : ∀ i, i < w → a i = 0) : ∀ m, vl B a (w + m) = B ^ w * vl B (fun i => a (w + i)) m
  | 0 => by rw [Nat.add_zero, vl_z hz]; rfl
  | m + 1 => by
    rw [← Nat.add_assoc, vl_s, vl_s, vl_sh hz m, Nat.pow_add]
    generalize un (a (w + m)) = x
    generalize vl B (fun i => a (w + i)) m = y
    grind
/-- the limbs of a shifted row: A_i * 2^p + carry -/
theorem sh_limb {A C p : Nat} (hp : p < 32) (hC : C < 4294967296) : (A * 4294967296 + C) * 2 ^ p % 18446744073709551616 / 4294967296 = (A * 2 ^ p + C * 2 ^ p / 4294967296) % 4294967296 := by
  have h1 : (A * 4294967296 + C) * 2 ^ p = A * 2 ^ p * 4294967296 + C * 2 ^ p := by
    generalize 2 ^ p = x
    grind
  rw [h1]
  omega
theorem sh_carry {A C p : Nat} (hp : p < 32) (hC : C < 4294967296) : (A * 2 ^ p + C * 2 ^ p / 4294967296) / 4294967296 = A * 2 ^ p / 4294967296 := by
  have e : 4294967296 = 2 ^ (32 - p) * 2 ^ p := by rw [← Nat.pow_add, show 32 - p + p = 32 by omega]
  have hx : 0 < 2 ^ p := Nat.two_pow_pos p
  have hy : 0 < 2 ^ (32 - p) := Nat.two_pow_pos _
  have h1 : C * 2 ^ p / 4294967296 < 2 ^ p := by
    rw [Nat.div_lt_iff_lt_mul (by decide)]
    rw [Nat.mul_comm (2 ^ p)]
    exact Nat.mul_lt_mul_of_pos_right hC hx
  rw [e] at h1 ⊢
  generalize C * 2 ^ p / (2 ^ (32 - p) * 2 ^ p) = c at h1 ⊢
  rw [Nat.mul_comm (2 ^ (32 - p)), ← Nat.div_div_eq_div_mul, ← Nat.div_div_eq_div_mul, Nat.mul_div_cancel _ hx, Nat.add_comm, Nat.add_mul_div_right _ _ hx, Nat.div_eq_of_lt h1, Nat.zero_add]
def shL (k p : Nat) (a : Nat → Int32) (i : Nat) : Nat := (un (zr k a i) * 2 ^ p + (if i = 0 then 0 else un (zr k a (i - 1)) * 2 ^ p / 4294967296)) % 4294967296
theorem sh_sum {k p : Nat} {a b : Nat → Int32} (hp : p < 32) : ∀ m, (∀ i, i < m → un (b i) = shL k p a i) → vl 4294967296 b m + (if m = 0 then 0 else un (zr k a (m - 1)) * 2 ^ p / 4294967296) * 4294967296 ^ m = vl 4294967296 (zr k a) m * 2 ^ p
  | 0, _ => by simp [vl]
  | m + 1, h => by
    have ih := sh_sum hp m (fun i hi => h i (by omega))
    rw [vl_s, vl_s, h m (by omega), if_neg (by omega), Nat.add_sub_cancel]
    unfold shL
    generalize hc : (if m = 0 then 0 else un (zr k a (m - 1)) * 2 ^ p / 4294967296) = c at ih ⊢
    have h2 : (un (zr k a m) * 2 ^ p + c) / 4294967296 = un (zr k a m) * 2 ^ p / 4294967296 := by
      rw [← hc]
      by_cases q : m = 0
      · rw [if_pos q, Nat.add_zero]
      · rw [if_neg q]
        exact sh_carry hp (un_lt _)
    rw [← h2]
    have hdm := Nat.mod_add_div (un (zr k a m) * 2 ^ p + c) 4294967296
    generalize (un (zr k a m) * 2 ^ p + c) % 4294967296 = x at hdm ⊢
    generalize (un (zr k a m) * 2 ^ p + c) / 4294967296 = y at hdm ⊢
    rw [Nat.pow_succ]
    generalize 4294967296 ^ m = B at ih ⊢
    generalize 2 ^ p = P at hdm ih ⊢
    grind
theorem big_shl_86 {w k p v : Nat} {x1 : Int32} {a0 : Nat → Int32} (hN : N < 2 ^ 31) (hfu : N < fu) (hw : k + w < N) (hp : p < 32) (hv : vl 4294967296 a0 k = v) :
    ∀ (d n j : Nat) (a : Nat → Int32), j + d = w → d < n → (∀ i, i < j → a i = 0) → (∀ i, i ≤ k → un (a (w + i)) = shL k p a0 i) →
    ok (f_Big_shiftLeft_86 fu N x1 n (nI w) (nI j) (nI k) a) (fun r => bb N (v * 2 ^ (32 * w + p)) r.1 r.2)
  | d, 0, _, _, _, h, _, _ => by omega
  | 0, n + 1, j, a, hj, _, hz, hs => by
    have hjw : j = w := by omega
    subst hjw
    rw [f_Big_shiftLeft_86_s]
    refine ok_t (nI_le (Nat.le_refl _) (by omega)) ?_
    rw [nI_1, nI_add]
    refine ok_b (P := fun r => bb N (v * 2 ^ (32 * j + p)) r a) (bg_trim hN _ fu (by omega) (by omega) ?_ (bb_d _)) (fun v hv => ok_s hv)
    rw [show k + (j + 1) = j + (k + 1) by omega, vl_sh hz]
    have h1 := sh_sum (k := k) (a := a0) (b := fun i => a (j + i)) hp (k + 1) (fun i hi => hs i (by omega))
    rw [if_neg (by omega), Nat.add_sub_cancel, un_zr, if_neg (by omega), Nat.zero_mul, Nat.zero_div, Nat.zero_mul, Nat.add_zero, vl_zr (by omega), hv] at h1
    rw [h1, Nat.pow_add, Nat.pow_mul]
    generalize (2 ^ 32) ^ j = x
    generalize 2 ^ p = y
    grind
  | d + 1, n + 1, j, a, hj, hn, hz, hs => by
    rw [f_Big_shiftLeft_86_s]
    refine ok_f (nI_ge (by omega) (by omega)) (ok_t (in_N (by omega) hN) ?_)
    rw [nI_1, nI_clamp (by omega)]
    refine big_shl_86 hN hfu hw hp hv d n (j + 1) _ (by omega) (by omega) (fun i hi => ?_) (fun i hi => ?_)
    · by_cases q : i = j
      · rw [q, pk_us]
      · rw [pk_un q]; exact hz i (by omega)
    · rw [pk_un (by omega)]; exact hs i hi
theorem big_shl_35 {w k p v : Nat} {x1 : Int32} {a0 : Nat → Int32} (hN : N < 2 ^ 31) (hfu : N < fu) (hw : k + w < N) (hp : p < 32) (hv : vl 4294967296 a0 k = v) :
    ∀ (j n : Nat) (a : Nat → Int32), j < n → j ≤ k + 1 → (∀ i, i < j → a i = a0 i) → (∀ i, j ≤ i → i ≤ k → un (a (w + i)) = shL k p a0 i) →
    ok (f_Big_shiftLeft_35 fu N x1 n (nI w) (nI p) (nI j - 1) (nI k) a) (fun r => bb N (v * 2 ^ (32 * w + p)) r.1 r.2)
  | j, 0, _, h, _, _, _ => by omega
  | 0, n + 1, a, _, _, _, hs => by
    rw [f_Big_shiftLeft_35_s]
    refine ok_t (by decide) ?_
    exact big_shl_86 hN hfu hw hp hv w fu 0 a (by omega) (by omega) (fun i hi => by omega) (fun i hi => hs i (by omega) hi)
  | j + 1, n + 1, a, hn, hj, ha, hs => by
    rw [f_Big_shiftLeft_35_s, nI_pred]
    refine ok_f (nI_pos (by omega)) ?_
    have e1 : (if j < k then un (a j) else 0) = un (zr k a0 j) := by
      rw [un_zr, ha j (by omega)]
    have e2 : f_Big_limbAt N (nI j - 1) (nI k) a = some (lN (if j = 0 then 0 else un (zr k a0 (j - 1)))) := by
      cases j with
      | zero => rw [if_pos rfl]; exact big_limbN (by decide)
      | succ i => rw [nI_pred, big_limb hN (by omega) (by omega), if_neg (show ¬ i + 1 = 0 by omega), un_zr, Nat.add_sub_cancel, ha i (by omega)]
    refine ok_be (big_limb hN (by omega) (by omega)) (ok_be e2 (ok_l ?_))
    rw [e1]
    have hu := un_lt (zr k a0 j)
    generalize hC : (if j = 0 then 0 else un (zr k a0 (j - 1))) = C
    have hC2 : C < 4294967296 := by
      rw [← hC]
      by_cases q : j = 0
      · rw [if_pos q]; omega
      · rw [if_neg q]; exact un_lt _
    rw [nI_add]
    refine ok_t (in_N (by omega) hN) ?_
    rw [show (32 : Int32) = nI 32 from rfl, wb_shl _ (by decide), g_or (k := 32) (p := 2 ^ 32) rfl hC2 (by omega), wb_shl _ (by omega), wb_mod, show nI 32 = (32 : Int32) from rfl, wb_ushr32 (Nat.mod_lt _ (by decide)), lN_i, nI_clamp (by omega), ← Int32.sub_eq_add_neg]
    rw [show (2 : Nat) ^ 64 = 18446744073709551616 from rfl, show (2 : Nat) ^ 32 = 4294967296 from rfl, sh_limb hp hC2]
    refine big_shl_35 hN hfu hw hp hv j n _ (by omega) (by omega) (fun i hi => by rw [pk_un (by omega)]; exact ha i (by omega)) (fun i h1 h2 => ?_)
    by_cases q : i = j
    · rw [q, Nat.add_comm w j, pk_us, un_nI (Nat.mod_lt _ (by decide))]
      unfold shL
      rw [← hC]
      by_cases q0 : j = 0
      · rw [if_pos q0, if_pos q0]; simp
      · rw [if_neg q0, if_neg q0]
    · rw [pk_un (by omega)]; exact hs i (by omega) h2
theorem big_shl {c v : Nat} {s : Int32} {a : Nat → Int32} (hN : N < 2 ^ 30) (hfu : N + 1 < fu) (hc : c < 2 ^ 30) (h : bb N v s a) (hlt : v * 2 ^ c < 4294967296 ^ (N - 1)) (hN0 : 0 < N) : ok (f_Big_shiftLeft fu N (nI c) s a) (fun r => bb N (v * 2 ^ c) r.1 r.2) := by
  have hbb := h
  obtain ⟨k, rfl, hk, hv, hd, ht⟩ := h
  unfold f_Big_shiftLeft
  refine ok_l (ok_l ?_)
  refine ok_if (fun q => ?_) (fun q => ?_)
  · have hc0 : c = 0 := by
      rw [← nI_0, nI_leI (by omega) (by omega)] at q
      omega
    subst hc0
    simp only [Nat.pow_zero, Nat.mul_one]
    exact ok_s hbb
  · rw [show (32 : Int32) = nI 32 from rfl, pk_rem (by omega) (by decide) (by decide), pk_div (by omega) (by decide) (by decide), nI_add]
    refine ok_ii (nI_ltI (by omega) (by omega)) (fun g => ?_) (fun g => ?_)
    · have := big_shl_35 (fu := fu) (N := N) (x1 := nI c) (k := k) (w := c / 32) (p := c % 32) (a0 := a) (by omega) (by omega) g (Nat.mod_lt _ (by decide)) hv (k + 1) fu a (by omega) (by omega) (fun _ _ => rfl) (fun i h1 h2 => by omega)
      rw [nI_pred, show 32 * (c / 32) + c % 32 = c from Nat.div_add_mod c 32] at this
      exact this
    · have hv0 : v = 0 := by
        rcases Nat.eq_zero_or_pos k with q0 | q0
        · subst q0; exact hv.symm
        · exfalso
          have h1 := ht q0
          have h2 : 2 ^ (32 * (c / 32)) ≤ 2 ^ c := Nat.pow_le_pow_right (by decide) (Nat.mul_div_le c 32)
          have h3 := Nat.mul_le_mul h1 h2
          rw [Nat.pow_mul, show (2 : Nat) ^ 32 = 4294967296 from rfl, ← Nat.pow_add] at h3
          have h4 : 4294967296 ^ (N - 1) ≤ 4294967296 ^ (k - 1 + c / 32) := Nat.pow_le_pow_right (by decide) (by omega)
          omega
      subst hv0
      rw [Nat.zero_mul]
      exact ok_s hbb
theorem big_shl0 {z : Int32} {s : Int32} {a : Nat → Int32} (hz : z ≤ 0) : f_Big_shiftLeft fu N z s a = some (s, a) := by
  show (if z ≤ 0 then _ else _) = _
  rw [if_pos hz]
theorem big_copy {M v : Nat} {s t : Int32} {a b : Nat → Int32} (hN : N < 2 ^ 30) (hM : M < 2 ^ 30) (hMN : M ≤ N) (hb : bb M v t b) : ok (f_Big_copy N M s a t b) (fun r => bb N v r.1 r.2) := by
  obtain ⟨l, rfl, hl, hw, he, hu⟩ := hb
  unfold f_Big_copy
  refine ok_be (big_min (by omega) (by omega)) ?_
  rw [Nat.min_eq_left (by omega)]
  refine ok_t ?_ (ok_s ?_)
  · simp only [zz_cp, Bool.and_eq_true, decide_eq_true_eq]
    rw [nI_toInt (by omega), nI_clamp (by omega)]
    refine ⟨by decide, by decide, by omega, ?_, ?_⟩
    · show 0 + l ≤ M; omega
    · show 0 + l ≤ N; omega
  · refine ⟨l, rfl, by omega, ?_, bb_d _, hu⟩
    rw [← hw]
    refine vl_c (fun i hi => ?_)
    rw [nI_clamp (by omega)]
    show va_cpy b a 0 0 l i = b i
    rw [pk_cpy_in (by omega) (by omega)]
    congr 1
    omega
theorem zx_pw5 : ∀ k, k < 14 → zx_pw k = nI (5 ^ k) := by decide +kernel
theorem big_fives0 {z : Int32} {s : Int32} {a : Nat → Int32} (hz : z ≤ 0) (hfu : 0 < fu) : f_Big_multiplyByFives fu N z s a = some (s, a) := by
  unfold f_Big_multiplyByFives
  obtain ⟨n, rfl⟩ : ∃ n, fu = n + 1 := ⟨fu - 1, by omega⟩
  rw [f_Big_multiplyByFives_2_s, if_pos hz]
theorem big_fives_2 {x1 : Int32} (hN : N < 2 ^ 30) (hfu : N < fu) : ∀ (n c v : Nat) (z s : Int32) (a : Nat → Int32), c < n → c < 2 ^ 30 → z = nI c ∨ (c = 0 ∧ z < 0) → bb N v s a → v * 5 ^ c < 4294967296 ^ N → ok (f_Big_multiplyByFives_2 fu N x1 n z s a) (fun r => bb N (v * 5 ^ c) r.1 r.2)
  | 0, c, _, _, _, _, h, _, _, _, _ => by omega
  | n + 1, c, v, z, s, a, hn, hc, hz, hb, hlt => by
    rw [f_Big_multiplyByFives_2_s]
    rcases Nat.eq_zero_or_pos c with h0 | h0
    · subst h0
      refine ok_t ?_ (ok_s ?_)
      · rcases hz with hz | hz
        · rw [hz, nI_0]; decide
        · have := hz.2
          rw [Int32.lt_iff_toInt_lt] at this
          rw [Int32.le_iff_toInt_le]
          omega
      · simp only [Nat.pow_zero, Nat.mul_one]
        exact hb
    · have hz : z = nI c := by
        rcases hz with hz | hz
        · exact hz
        · omega
      subst hz
      refine ok_f (nI_nle h0 (by omega)) ?_
      refine ok_be (big_min (l := 13) (by omega) (by decide)) ?_
      refine ok_t (in_N (by omega) (by decide)) ?_
      rw [nI_clamp (by omega), zx_pw5 _ (by omega)]
      have hle : 5 ^ min c 13 ≤ 5 ^ 13 := Nat.pow_le_pow_right (by decide) (by omega)
      have hp : 0 < 5 ^ min c 13 := Nat.pow_pos (by decide)
      have e : 5 ^ c = 5 ^ min c 13 * 5 ^ (c - 13) := by rw [← Nat.pow_add]; congr 1; omega
      have hp2 : 0 < 5 ^ (c - 13) := Nat.pow_pos (by decide)
      rw [e, ← Nat.mul_assoc] at hlt ⊢
      have hlt2 : v * 5 ^ min c 13 < 4294967296 ^ N := Nat.lt_of_le_of_lt (Nat.le_mul_of_pos_right _ hp2) hlt
      have h1 := big_mul (fu := fu) (N := N) (F := 5 ^ min c 13) (S := 0) (s := s) (a := a) (by omega) hfu hp (by have : (5 : Nat) ^ 13 = 1220703125 := rfl; omega) (by decide) hb (by rw [Nat.add_zero]; exact hlt2)
      refine ok_b h1 (fun r hr => ?_)
      rw [Nat.add_zero] at hr
      refine big_fives_2 hN hfu n (c - 13) _ _ _ _ (by omega) (by omega) ?_ hr hlt
      rcases Nat.lt_or_ge c 13 with q | q
      · right
        refine ⟨by omega, ?_⟩
        rw [← iI_nat, show (-13 : Int32) = iI (-13) from rfl, iI_add, show (0 : Int32) = iI 0 from rfl, iI_lt (by omega) (by omega) (by omega) (by omega)]
        omega
      · left
        rw [← iI_nat, ← iI_nat, show (-13 : Int32) = iI (-13) from rfl, iI_add]
        congr 1
        omega
theorem big_fives {c v : Nat} {s : Int32} {a : Nat → Int32} (hN : N < 2 ^ 30) (hfu : N < fu) (hfc : c < fu) (hc : c < 2 ^ 30) (h : bb N v s a) (hlt : v * 5 ^ c < 4294967296 ^ N) : ok (f_Big_multiplyByFives fu N (nI c) s a) (fun r => bb N (v * 5 ^ c) r.1 r.2) :=
  big_fives_2 hN hfu fu c v _ s a hfc hc (Or.inl rfl) h hlt
theorem big_tens {c v : Nat} {s : Int32} {a : Nat → Int32} (hN : N < 2 ^ 30) (hfu : N + 1 < fu) (hfc : c < fu) (hc : c < 2 ^ 30) (h : bb N v s a) (hN0 : 0 < N) (hlt : v * 10 ^ c < 4294967296 ^ (N - 1)) : ok (f_Big_multiplyByTens fu N (nI c) s a) (fun r => bb N (v * 10 ^ c) r.1 r.2) := by
  unfold f_Big_multiplyByTens
  have e : 10 ^ c = 5 ^ c * 2 ^ c := by rw [← Nat.mul_pow]
  rw [e, ← Nat.mul_assoc] at hlt ⊢
  have h2 : v * 5 ^ c ≤ v * 5 ^ c * 2 ^ c := Nat.le_mul_of_pos_right _ (Nat.two_pow_pos c)
  have h3 : 4294967296 ^ (N - 1) ≤ 4294967296 ^ N := Nat.pow_le_pow_right (by decide) (by omega)
  refine ok_b (big_fives hN (by omega) hfc hc h (by omega)) (fun r hr => ?_)
  exact ok_b (big_shl hN hfu hc hr hlt hN0) (fun q hq => ok_s hq)
theorem big_tens0 {z : Int32} {s : Int32} {a : Nat → Int32} (hz : z ≤ 0) (hfu : 0 < fu) : f_Big_multiplyByTens fu N z s a = some (s, a) := by
  unfold f_Big_multiplyByTens
  rw [big_fives0 hz hfu]
  show (f_Big_shiftLeft fu N z s a).bind _ = _
  rw [big_shl0 hz]
  rfl
/-- L is the number of v's bits -/
def bln (v L : Nat) : Prop := v < 2 ^ L ∧ (0 < v → 0 < L ∧ 2 ^ (L - 1) ≤ v) ∧ (v = 0 → L = 0)
theorem big_bits_22 {k t : Nat} {a : Nat → Int32} (ht : t < 2 ^ 32) : ∀ (d n j : Nat), d + j = 32 → 0 < j → d < n → 2 ^ (j - 1) ≤ t → ok (f_Big_bitLength_22 fu N (nI k) a n (lN t) (nI j)) (fun r => ∃ x, 0 < x ∧ x ≤ 32 ∧ 2 ^ (x - 1) ≤ t ∧ t < 2 ^ x ∧ r = (nI k - 1) * 32 + nI x)
  | d, 0, _, _, _, h, _ => by omega
  | 0, n + 1, j, hj, h0, _, hl => by
    have hj32 : j = 32 := by omega
    subst hj32
    rw [f_Big_bitLength_22_s]
    exact ok_t (by decide) (ok_s ⟨32, by omega, by omega, hl, ht, rfl⟩)
  | d + 1, n + 1, j, hj, h0, hn, hl => by
    rw [f_Big_bitLength_22_s]
    refine ok_f (nI_ge (b := 32) (by omega) (by decide)) ?_
    rw [wb_shr (by omega) (by omega), nI_1]
    refine ok_ii ((lg_cmp_eq _ _).trans (pk_lEQ (b := 0) (Nat.lt_of_le_of_lt (Nat.div_le_self _ _) (by omega)) (by decide))) (fun q => ?_) (fun q => ?_)
    · refine ok_s ⟨j, by omega, by omega, hl, ?_, rfl⟩
      have := Nat.two_pow_pos j
      rcases (Nat.div_eq_zero_iff).mp q with h | h
      · omega
      · exact h
    · refine big_bits_22 ht d n (j + 1) (by omega) (by omega) (by omega) ?_
      rw [Nat.add_sub_cancel]
      rcases Nat.lt_or_ge t (2 ^ j) with h | h
      · exact absurd (Nat.div_eq_of_lt h) q
      · exact h
theorem big_bits {v : Nat} {s : Int32} {a : Nat → Int32} (hN : N < 2 ^ 20) (hfu : 32 < fu) (h : bb N v s a) : ok (f_Big_bitLength fu N s a) (fun r => ∃ L, r = nI L ∧ bln v L ∧ L ≤ 32 * N) := by
  obtain ⟨k, rfl, hk, hv, hd, ht⟩ := h
  unfold f_Big_bitLength
  refine ok_if (fun q => ?_) (fun q => ?_)
  · rw [← nI_0, nI_eq (by omega) (by omega)] at q
    subst q
    have hv0 : v = 0 := hv.symm
    exact ok_s ⟨0, rfl, ⟨by rw [hv0]; decide, by omega, fun _ => rfl⟩, by omega⟩
  · obtain ⟨m, rfl⟩ : ∃ m, k = m + 1 := ⟨k - 1, by
      rcases Nat.eq_zero_or_pos k with h0 | h0
      · subst h0; exact absurd rfl q
      · omega⟩
    rw [nI_pred]
    refine ok_be (big_limb (by omega) hk (by omega)) ?_
    rw [if_pos (by omega : m < m + 1)]
    have hu := un_lt (a m)
    have h1 : 1 ≤ un (a m) := by
      have h2 := ht (by omega)
      have h3 := vl_lt (B := 4294967296) (a := a) (n := m) (by decide) (bb_d _)
      rw [vl_s] at hv
      rw [Nat.add_sub_cancel] at h2
      rcases Nat.eq_zero_or_pos (un (a m)) with h0 | h0
      · rw [h0, Nat.zero_mul] at hv; omega
      · exact h0
    refine ok_m (big_bits_22 (k := m + 1) (a := a) hu 31 fu 1 (by omega) (by omega) (by omega) h1) (fun r hr => ?_)
    obtain ⟨x, hx0, hx, hx1, hx2, rfl⟩ := hr
    have h3 := vl_lt (B := 4294967296) (a := a) (n := m) (by decide) (bb_d _)
    rw [vl_s] at hv
    have e : (4294967296 : Nat) ^ m = 2 ^ (32 * m) := by rw [Nat.pow_mul]
    refine ⟨32 * m + x, ?_, ⟨?_, fun _ => ⟨by omega, ?_⟩, fun h0 => ?_⟩, by omega⟩
    · rw [nI_pred, show (32 : Int32) = nI 32 from rfl, pk_mul, nI_add, Nat.mul_comm]
    · rw [Nat.pow_add, ← e, ← hv]
      have h4 := Nat.mul_le_mul_right (4294967296 ^ m) (show un (a m) + 1 ≤ 2 ^ x from hx2)
      rw [Nat.add_mul, Nat.one_mul] at h4
      rw [Nat.mul_comm (4294967296 ^ m)]
      omega
    · rw [show 32 * m + x - 1 = 32 * m + (x - 1) by omega, Nat.pow_add, ← e, ← hv, Nat.mul_comm (4294967296 ^ m)]
      have h4 := Nat.mul_le_mul_right (4294967296 ^ m) hx1
      omega
    · exfalso
      have h4 := Nat.mul_le_mul_right (4294967296 ^ m) h1
      have h5 : 0 < 4294967296 ^ m := Nat.pow_pos (by decide)
      omega
end Big
