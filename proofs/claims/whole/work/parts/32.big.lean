-- the class's whole numbers
abbrev W32 : Nat := 4294967296
abbrev bb (N v : Nat) (s : Int32) (a : Nat → Int32) : Prop := bg 4294967296 N v s a
theorem bb_d {k : Nat} (a : Nat → Int32) : ∀ i, i < k → un (a i) < 4294967296 := fun i _ => un_lt (a i)
section Big
variable {fu N : Nat}
theorem big_limb {k i : Nat} {a : Nat → Int32} (hN : N < 2 ^ 31) (hk : k ≤ N) (hi : i < 2 ^ 31) : f_Big_limbAt N (nI i) (nI k) a = some (lN (if i < k then un (a i) else 0)) := by
  unfold f_Big_limbAt
  rw [if_neg (nI_pos hi)]
  by_cases h : i < k
  · rw [if_neg (nI_ge h (by omega)), if_pos (in_N (by omega) hN), nI_clamp hi, un_64, if_pos h]
  · rw [if_pos (nI_le (by omega) hi), if_neg h]
    rfl
theorem big_limbN {k : Nat} {a : Nat → Int32} {x : Int32} (hx : x < 0) : f_Big_limbAt N x (nI k) a = some (lN 0) := by
  unfold f_Big_limbAt
  rw [if_pos hx]
  rfl
theorem big_addLimb {k c : Nat} {a : Nat → Int32} (hN : N < 2 ^ 31) (hk : k < N) : f_Big_addLimb N (lN c) (nI k) a = some (nI (k + 1), upd a k (nI c)) := by
  unfold f_Big_addLimb
  rw [if_neg (nI_ge hk hN), if_pos (in_N hk hN), nI_clamp (by omega), lN_i, nI_1]
/-- one limb more on top -/
theorem bb_push {k v c : Nat} {a : Nat → Int32} (hv : vl 4294967296 a k = v) (hk : k < N) (hc : c < 4294967296) (h0 : 0 < c) : bb N (v + c * 4294967296 ^ k) (nI (k + 1)) (upd a k (nI c)) := by
  refine ⟨k + 1, rfl, hk, ?_, bb_d _, fun _ => ?_⟩
  · rw [vl_us, hv, un_nI hc]
  · have := Nat.mul_le_mul_right (4294967296 ^ k) (show 1 ≤ c from h0)
    simp only [Nat.add_sub_cancel]
    omega
theorem big_mul_6 {x2 : Int32} {F k : Nat} (hN : N < 2 ^ 31) (hF2 : F < 2147483648) (hk : k ≤ N) {S : Nat} {a0 : Nat → Int32} :
    ∀ (d n j c : Nat) (a : Nat → Int32), j + d = k → d < n → c ≤ 2147483648 → (∀ i, j ≤ i → a i = a0 i) → vl 4294967296 a j + c * 4294967296 ^ j = vl 4294967296 a0 j * F + S → vl 4294967296 a0 k * F + S < 4294967296 ^ N → (0 < k → 4294967296 ^ (k - 1) ≤ vl 4294967296 a0 k * F + S) →
    ok (f_Big_multiplyAndAdd_6 fu N (nI F) x2 n (lN c) (nI j) (nI k) a) (fun r => bb N (vl 4294967296 a0 k * F + S) r.1 r.2)
  | d, 0, _, _, _, _, h, _, _, _, _, _ => by omega
  | 0, n + 1, j, c, a, hj, _, hc, ha, hv, hlt, ht => by
    have hjk : j = k := by omega
    subst hjk
    rw [f_Big_multiplyAndAdd_6_s]
    refine ok_t (nI_le (Nat.le_refl _) (by omega)) ?_
    refine ok_if (fun h => ?_) (fun h => ?_)
    · rw [lg_cmp_eq, show (0 : Int64) = lN 0 from rfl, pk_lEQ (by omega) (by omega)] at h
      subst h
      simp only [Nat.zero_mul, Nat.add_zero] at hv
      exact ok_s ⟨j, rfl, hk, hv, bb_d _, ht⟩
    · rw [lg_cmp_eq, show (0 : Int64) = lN 0 from rfl, pk_lEQ (by omega) (by omega)] at h
      have hjN : j < N := by
        have h1 : 4294967296 ^ j ≤ c * 4294967296 ^ j := Nat.le_mul_of_pos_left _ (by omega)
        have h2 : 4294967296 ^ j < 4294967296 ^ N := by omega
        exact (Nat.pow_lt_pow_iff_right (by decide)).mp h2
      refine ok_be (big_addLimb hN hjN) (ok_s ?_)
      rw [← hv]
      exact bb_push rfl hjN (by omega) (by omega)
  | d + 1, n + 1, j, c, a, hj, hn, hc, ha, hv, hlt, ht => by
    rw [f_Big_multiplyAndAdd_6_s]
    refine ok_f (nI_ge (by omega) (by omega)) ?_
    refine ok_be (big_limb hN hk (by omega)) ?_
    rw [if_pos (by omega), nI_l (by omega), lN_mul, lN_add]
    have hu := un_lt (a j)
    have hm : un (a j) * F ≤ 4294967295 * 2147483647 := Nat.mul_le_mul (by omega) (by omega)
    refine ok_l (ok_t (in_N (by omega) hN) ?_)
    rw [wb_ushr32 (by omega), nI_1, nI_clamp (by omega), lN_i]
    refine ok_l (big_mul_6 hN hF2 hk d n (j + 1) _ _ (by omega) (by omega) (by omega) (fun i hi => by rw [pk_un (by omega)]; exact ha i (by omega)) ?_ hlt ht)
    rw [vl_us, vl_s, un_mod, ha j (Nat.le_refl _)]
    have hdm := Nat.mod_add_div (c + un (a0 j) * F) 4294967296
    rw [Nat.pow_succ]
    generalize (c + un (a0 j) * F) % 4294967296 = q at hdm ⊢
    generalize (c + un (a0 j) * F) / 4294967296 = r at hdm ⊢
    generalize 4294967296 ^ j = B at hv ⊢
    grind
theorem big_mul {F S v : Nat} {s : Int32} {a : Nat → Int32} (hN : N < 2 ^ 31) (hfu : N < fu) (h0 : 0 < F) (hF2 : F < 2147483648) (hS : S < 2147483648) (h : bb N v s a) (hlt : v * F + S < 4294967296 ^ N) :
    ok (f_Big_multiplyAndAdd fu N (nI F) (nI S) s a) (fun r => bb N (v * F + S) r.1 r.2) := by
  obtain ⟨k, rfl, hk, hv, _, ht⟩ := h
  unfold f_Big_multiplyAndAdd
  rw [nI_l (by omega)]
  have hge : 0 < k → 4294967296 ^ (k - 1) ≤ v * F + S := fun h => by
    have h1 := ht h
    have h2 : v ≤ v * F := Nat.le_mul_of_pos_right _ h0
    omega
  have := big_mul_6 (fu := fu) (x2 := nI S) (F := F) (S := S) (a0 := a) hN hF2 hk k fu 0 S a (by omega) (by omega) (by omega) (fun _ _ => rfl) (by simp [vl]) (by rw [hv]; exact hlt) (by rw [hv]; exact hge)
  rw [hv, nI_0] at this
  exact this
theorem big_set {x : Nat} {s : Int32} {a : Nat → Int32} (hN : N < 2 ^ 31) (hN2 : 2 ≤ N) (hfu : 2 < fu) (hx : x < 2 ^ 64) : ok (f_Big_set fu N (lN x) s a) (fun r => bb N x r.1 r.2) := by
  unfold f_Big_set
  rw [show (4294967295 : Int64) = lN (2 ^ 32 - 1) from rfl, wb_mask hx (by decide), wb_ushr32 hx, ← nI_0]
  refine ok_be (big_addLimb hN (by omega)) (ok_be (big_addLimb hN (by omega)) ?_)
  refine ok_b (P := fun r => bb N x r (upd (upd a 0 (nI (x % 2 ^ 32))) (0 + 1) (nI (x / 4294967296)))) ?_ (fun v hv => ok_s hv)
  refine bg_trim hN 2 fu (by omega) hN2 ?_ (bb_d _)
  rw [vl_us, vl_us, un_mod, un_mod]
  simp [vl]
  omega
theorem big_isZero {v : Nat} {s : Int32} {a : Nat → Int32} (hN : N < 2 ^ 31) (h : bb N v s a) : f_Big_isZero s = some (if v = 0 then 1 else 0) := by
  obtain ⟨k, rfl, hk, hv, _, ht⟩ := h
  unfold f_Big_isZero
  by_cases h0 : k = 0
  · subst h0
    have hv0 : v = 0 := hv.symm
    subst hv0
    rfl
  · rw [if_neg (nI_ne0 (by omega) (by omega))]
    have := ht (by omega)
    have : 0 < 4294967296 ^ (k - 1) := Nat.pow_pos (by decide)
    rw [if_neg (by omega)]
theorem vl_cmp {B : Nat} {a b : Nat → Int32} {j k : Nat} (hB : 0 < B) (hd : ∀ i, i < k → un (a i) < B) (hlt : un (a j) < un (b j)) (hs : ∀ i, j < i → i < k → a i = b i) (hj : j < k) : vl B a k < vl B b k := by
  have key : ∀ d, j + 1 + d ≤ k → vl B a (j + 1 + d) < vl B b (j + 1 + d) := by
    intro d
    induction d with
    | zero =>
      intro _
      have h1 : vl B a j < B ^ j := vl_lt hB (fun i hi => hd i (by omega))
      have h2 := Nat.mul_le_mul_right (B ^ j) (show un (a j) + 1 ≤ un (b j) from hlt)
      rw [Nat.add_mul, Nat.one_mul] at h2
      show vl B a j + _ < vl B b j + _
      omega
    | succ d ih =>
      intro h
      have := ih (by omega)
      rw [show j + 1 + (d + 1) = (j + 1 + d) + 1 from rfl, vl_s, vl_s, hs (j + 1 + d) (by omega) (by omega)]
      omega
  have := key (k - (j + 1)) (by omega)
  rw [show j + 1 + (k - (j + 1)) = k by omega] at this
  exact this
/-- what a comparison answers -/
def sg (r : Int32) (v w : Nat) : Prop := (r < 0 ↔ v < w) ∧ (r = 0 ↔ v = w) ∧ (0 < r ↔ w < v)
theorem sg_lt {r : Int32} {v w : Nat} (hr : r < 0) (h : v < w) : sg r v w := by
  rw [Int32.lt_iff_toInt_lt, Int32.toInt_zero] at hr
  refine ⟨⟨fun _ => h, fun _ => ?_⟩, ⟨fun q => ?_, fun q => by omega⟩, ⟨fun q => ?_, fun q => by omega⟩⟩
  · rw [Int32.lt_iff_toInt_lt, Int32.toInt_zero]; exact hr
  · subst q; rw [Int32.toInt_zero] at hr; omega
  · rw [Int32.lt_iff_toInt_lt, Int32.toInt_zero] at q; omega
theorem sg_gt {r : Int32} {v w : Nat} (hr : 0 < r) (h : w < v) : sg r v w := by
  rw [Int32.lt_iff_toInt_lt, Int32.toInt_zero] at hr
  refine ⟨⟨fun q => ?_, fun q => by omega⟩, ⟨fun q => ?_, fun q => by omega⟩, ⟨fun _ => h, fun _ => ?_⟩⟩
  · rw [Int32.lt_iff_toInt_lt, Int32.toInt_zero] at q; omega
  · subst q; rw [Int32.toInt_zero] at hr; omega
  · rw [Int32.lt_iff_toInt_lt, Int32.toInt_zero]; exact hr
theorem sg_eq {v : Nat} : sg 0 v v := ⟨⟨fun q => absurd q (by decide), fun q => by omega⟩, ⟨fun _ => rfl, fun _ => rfl⟩, ⟨fun q => absurd q (by decide), fun q => by omega⟩⟩
theorem sg_ge {r : Int32} {v w : Nat} (h : sg r v w) : 0 ≤ r ↔ w ≤ v := by
  obtain ⟨h1, _, _⟩ := h
  have : 0 ≤ r ↔ ¬ r < 0 := by
    rw [Int32.lt_iff_toInt_lt, Int32.le_iff_toInt_le]; omega
  rw [this, h1]
  omega
theorem sg_le {r : Int32} {v w : Nat} (h : sg r v w) : r ≤ 0 ↔ v ≤ w := by
  obtain ⟨_, _, h1⟩ := h
  have : r ≤ 0 ↔ ¬ 0 < r := by
    rw [Int32.lt_iff_toInt_lt, Int32.le_iff_toInt_le]; omega
  rw [this, h1]
  omega
theorem sg_size {B k l v w : Nat} {a b : Nat → Int32} (hB : 0 < B) (hk : k < 2 ^ 30) (hl : l < 2 ^ 30) (hne : ¬ k = l) (hv : vl B a k = v) (hw : vl B b l = w) (hd : ∀ i, i < k → un (a i) < B) (he : ∀ i, i < l → un (b i) < B) (ht : 0 < k → B ^ (k - 1) ≤ v) (hu : 0 < l → B ^ (l - 1) ≤ w) : sg (nI k - nI l) v w := by
  rcases Nat.lt_or_ge k l with h | h
  · refine sg_lt (pk_sneg hl h) ?_
    have h1 := vl_lt hB hd
    have h2 := hu (by omega)
    have h3 : B ^ k ≤ B ^ (l - 1) := Nat.pow_le_pow_right hB (by omega)
    omega
  · refine sg_gt ?_ ?_
    · rw [pk_sub h, Int32.lt_iff_toInt_lt, nI_toInt (by omega), Int32.toInt_zero]; omega
    · have h1 := vl_lt hB he
      have h2 := ht (by omega)
      have h3 : B ^ l ≤ B ^ (k - 1) := Nat.pow_le_pow_right hB (by omega)
      omega
theorem big_cmp_28 {M k v w : Nat} {a b : Nat → Int32} (hN : N < 2 ^ 30) (hM : M < 2 ^ 30) (hk : k ≤ N) (hkM : k ≤ M) (hv : vl 4294967296 a k = v) (hw : vl 4294967296 b k = w) : ∀ (j n : Nat), j < n → j ≤ k → (∀ i, j ≤ i → i < k → a i = b i) →
    ok (f_Big_compare_28 fu N M (nI k) a (nI k) b n (nI j - 1)) (fun r => sg r v w)
  | j, 0, h, _, _ => by omega
  | 0, n + 1, _, _, hs => by
    rw [f_Big_compare_28_s]
    refine ok_t (by decide) (ok_s ?_)
    rw [← hv, ← hw, vl_c (fun i hi => hs i (by omega) hi)]
    exact sg_eq
  | j + 1, n + 1, hn, hj, hs => by
    rw [f_Big_compare_28_s, nI_pred]
    refine ok_f (nI_pos (by omega)) (ok_t (in_N (by omega) (by omega)) (ok_t (in_N (by omega) (by omega)) ?_))
    rw [nI_clamp (by omega), ← Int32.sub_eq_add_neg]
    refine ok_if (fun h => ?_) (fun h => ?_)
    · exact big_cmp_28 hN hM hk hkM hv hw j n (by omega) (by omega) (fun i h1 h2 => by
        rcases Nat.lt_or_ge j i with h3 | h3
        · exact hs i (by omega) h2
        · rw [show i = j by omega]; exact h)
    · refine ok_be (big_limb (by omega) hk (by omega)) (ok_be (big_limb (by omega) hkM (by omega)) ?_)
      have hjk : j < k := by omega
      rw [if_pos hjk, if_pos hjk]
      have hua := un_lt (a j)
      have hub := un_lt (b j)
      have hne : ¬ un (a j) = un (b j) := fun q => h (un_inj q)
      refine ok_ii ((lg_cmp_ge _ _).trans (pk_lLE (by omega) (by omega))) (fun q => ok_s (sg_gt (by decide) ?_)) (fun q => ok_s (sg_lt (by decide) ?_))
      · rw [← hv, ← hw]
        exact vl_cmp (j := j) (by decide) (bb_d _) (by omega) (fun i h1 h2 => (hs i (by omega) h2).symm) (by omega)
      · rw [← hv, ← hw]
        exact vl_cmp (j := j) (by decide) (bb_d _) (by omega) (fun i h1 h2 => hs i (by omega) h2) (by omega)
theorem big_cmp {M v w : Nat} {s t : Int32} {a b : Nat → Int32} (hN : N < 2 ^ 30) (hM : M < 2 ^ 30) (hfu : N < fu) (ha : bb N v s a) (hb : bb M w t b) : ok (f_Big_compare fu N M s a t b) (fun r => sg r v w) := by
  obtain ⟨k, rfl, hk, hv, hd, ht⟩ := ha
  obtain ⟨l, rfl, hl, hw, he, hu⟩ := hb
  unfold f_Big_compare
  refine ok_if (fun h => ?_) (fun h => ?_)
  · rw [nI_eq (by omega) (by omega)] at h
    subst h
    exact ok_l (big_cmp_28 hN hM hk hl hv hw k fu (by omega) (Nat.le_refl _) (fun i h1 h2 => by omega))
  · rw [nI_eq (by omega) (by omega)] at h
    exact ok_s (sg_size (by decide) (by omega) (by omega) h hv hw hd he ht hu)
theorem big_max {k l : Nat} (hk : k < 2 ^ 31) (hl : l < 2 ^ 31) : f_Mat_max (nI k) (nI l) = some (nI (max k l)) := by
  unfold f_Mat_max
  by_cases h : k < l
  · rw [if_pos (nI_lt h hl), Nat.max_eq_right (by omega)]
  · rw [if_neg (nI_nlt (by omega) hk), Nat.max_eq_left (by omega)]
theorem big_min {k l : Nat} (hk : k < 2 ^ 31) (hl : l < 2 ^ 31) : f_Mat_min (nI k) (nI l) = some (nI (min k l)) := by
  unfold f_Mat_min
  by_cases h : l < k
  · rw [if_pos (nI_lt h hk), Nat.min_eq_right (by omega)]
  · rw [if_neg (nI_nlt (by omega) hl), Nat.min_eq_left (by omega)]
/-- a row with zeros behind its limbs -/
def zr (k : Nat) (a : Nat → Int32) : Nat → Int32 := fun i => if i < k then a i else 0
theorem vl_zr {B k : Nat} {a : Nat → Int32} : ∀ {n : Nat}, k ≤ n → vl B (zr k a) n = vl B a k
  | n, h => by
    obtain ⟨d, rfl⟩ : ∃ d, n = k + d := ⟨n - k, by omega⟩
    induction d with
    | zero => exact vl_c (fun i hi => if_pos hi)
    | succ d ih => rw [← Nat.add_assoc, vl_top (by show (if k + d < k then _ else _) = _; rw [if_neg (by omega)]), ih (by omega)]
theorem un_zr {k i : Nat} {a : Nat → Int32} : un (zr k a i) = if i < k then un (a i) else 0 := by
  unfold zr
  by_cases h : i < k
  · rw [if_pos h, if_pos h]
  · rw [if_neg h, if_neg h]; rfl
theorem big_add_18 {M k l m : Nat} {a0 b : Nat → Int32} (hN : N < 2 ^ 31) (hM : M < 2 ^ 31) (hk : k ≤ N) (hl : l ≤ M) (hm : m = max k l) (hlt : vl 4294967296 a0 k + vl 4294967296 b l < 4294967296 ^ N) (ht : 0 < m → 4294967296 ^ (m - 1) ≤ vl 4294967296 a0 k + vl 4294967296 b l) :
    ∀ (d n j c z : Nat) (a : Nat → Int32), j + d = m → d < n → c ≤ 1 → z = max k j → (∀ i, j ≤ i → i < k → a i = a0 i) → vl 4294967296 a j + c * 4294967296 ^ j = vl 4294967296 (zr k a0) j + vl 4294967296 (zr l b) j →
    ok (f_Big_add_18 fu N M (nI l) b n (lN c) (nI m) (nI j) (nI z) a) (fun r => bb N (vl 4294967296 a0 k + vl 4294967296 b l) r.1 r.2)
  | d, 0, _, _, _, _, _, h, _, _, _, _ => by omega
  | 0, n + 1, j, c, z, a, hj, _, hc, hz, ha, hv => by
    have hjm : j = m := by omega
    subst hjm
    have hzj : z = j := by omega
    subst hzj
    have hjN : z ≤ N := by
      rcases Nat.le_total k l with q | q
      · have hzl : z = l := by omega
        rcases Nat.eq_zero_or_pos z with h0 | h0
        · omega
        · have := ht h0
          have h2 : 4294967296 ^ (z - 1) < 4294967296 ^ N := by omega
          have := (Nat.pow_lt_pow_iff_right (by decide)).mp h2
          omega
      · omega
    rw [vl_zr (by omega), vl_zr (by omega)] at hv
    rw [f_Big_add_18_s]
    refine ok_t (nI_le (Nat.le_refl _) (by omega)) ?_
    refine ok_if (fun h => ?_) (fun h => ?_)
    · rw [lg_cmp_eq, show (0 : Int64) = lN 0 from rfl, pk_lEQ (by omega) (by omega)] at h
      subst h
      simp only [Nat.zero_mul, Nat.add_zero] at hv
      exact ok_s ⟨z, rfl, hjN, hv, bb_d _, ht⟩
    · rw [lg_cmp_eq, show (0 : Int64) = lN 0 from rfl, pk_lEQ (by omega) (by omega)] at h
      have hzN : z < N := by
        have h1 : 4294967296 ^ z ≤ c * 4294967296 ^ z := Nat.le_mul_of_pos_left _ (by omega)
        have h2 : 4294967296 ^ z < 4294967296 ^ N := by omega
        exact (Nat.pow_lt_pow_iff_right (by decide)).mp h2
      refine ok_be (big_addLimb hN hzN) (ok_s ?_)
      rw [← hv]
      exact bb_push rfl hzN (by omega) (by omega)
  | d + 1, n + 1, j, c, z, a, hj, hn, hc, hz, ha, hv => by
    have hmN : m ≤ N := by
      rcases Nat.eq_zero_or_pos m with h0 | h0
      · omega
      · have := ht h0
        have h2 : 4294967296 ^ (m - 1) < 4294967296 ^ N := by omega
        have := (Nat.pow_lt_pow_iff_right (by decide)).mp h2
        omega
    rw [f_Big_add_18_s]
    refine ok_f (nI_ge (by omega) (by omega)) ?_
    refine ok_be (big_limb hN (by omega) (by omega)) (ok_be (big_limb hM hl (by omega)) ?_)
    have e1 : (if j < z then un (a j) else 0) = un (zr k a0 j) := by
      rw [un_zr]
      by_cases q : j < k
      · rw [if_pos (by omega), if_pos q, ha j (Nat.le_refl _) q]
      · rw [if_neg (by omega), if_neg q]
    rw [e1, ← un_zr (a := b), lN_add, lN_add]
    have hu1 := un_lt (zr k a0 j)
    have hu2 := un_lt (zr l b j)
    refine ok_l ?_
    have hset : f_Big_setLimb N (nI j) (lN (c + (un (zr k a0 j) + un (zr l b j)))) (nI z) a = some (nI (max k (j + 1)), upd a j (nI (c + (un (zr k a0 j) + un (zr l b j))))) := by
      unfold f_Big_setLimb
      by_cases q : j < k
      · rw [if_neg (nI_ge (by omega) (by omega)), if_pos (in_N (by omega) hN), nI_clamp (by omega), lN_i, show z = max k (j + 1) by omega]
      · rw [if_pos (nI_le (by omega) (by omega)), show z = j by omega, big_addLimb hN (by omega)]
        show some _ = some _
        rw [show max k (j + 1) = j + 1 by omega]
    refine ok_be hset ?_
    dsimp only
    rw [wb_ushr32 (by omega), nI_1]
    refine ok_l (big_add_18 hN hM hk hl hm hlt ht d n (j + 1) _ _ _ (by omega) (by omega) (by omega) rfl (fun i h1 h2 => by rw [pk_un (by omega)]; exact ha i (by omega) h2) ?_)
    rw [vl_us, vl_s, vl_s, un_mod]
    have hdm := Nat.mod_add_div (c + (un (zr k a0 j) + un (zr l b j))) 4294967296
    rw [Nat.pow_succ]
    generalize (c + (un (zr k a0 j) + un (zr l b j))) % 4294967296 = q at hdm ⊢
    generalize (c + (un (zr k a0 j) + un (zr l b j))) / 4294967296 = r at hdm ⊢
    generalize 4294967296 ^ j = B at hv ⊢
    grind
theorem big_add {M v w : Nat} {s t : Int32} {a b : Nat → Int32} (hN : N < 2 ^ 30) (hM : M < 2 ^ 30) (hfu : N < fu) (hfv : M < fu) (ha : bb N v s a) (hb : bb M w t b) (hlt : v + w < 4294967296 ^ N) : ok (f_Big_add fu N M s a t b) (fun r => bb N (v + w) r.1 r.2) := by
  obtain ⟨k, rfl, hk, hv, hd, ht⟩ := ha
  obtain ⟨l, rfl, hl, hw, he, hu⟩ := hb
  unfold f_Big_add
  refine ok_be (big_max (by omega) (by omega)) ?_
  have hmm : 0 < max k l → 4294967296 ^ (max k l - 1) ≤ v + w := fun q => by
    rcases Nat.le_total k l with h | h
    · rw [Nat.max_eq_right h]
      have := hu (by omega)
      omega
    · rw [Nat.max_eq_left h]
      have := ht (by omega)
      omega
  have := big_add_18 (fu := fu) (N := N) (M := M) (a0 := a) (b := b) (by omega) (by omega) hk hl rfl (by rw [hv, hw]; exact hlt) (by rw [hv, hw]; exact hmm) (max k l) fu 0 0 k a (by omega) (by omega) (by omega) (by omega) (fun _ _ _ => rfl) (by simp [vl])
  rw [hv, hw] at this
  exact this
theorem big_sub_5 {M k l : Nat} {a0 b : Nat → Int32} (hN : N < 2 ^ 31) (hM : M < 2 ^ 31) (hfu : N < fu) (hk : k ≤ N) (hl : l ≤ M) (hle : vl 4294967296 (zr l b) k ≤ vl 4294967296 a0 k) :
    ∀ (d n j c : Nat) (a : Nat → Int32), j + d = k → d < n → c ≤ 1 → (∀ i, j ≤ i → a i = a0 i) → vl 4294967296 a j + vl 4294967296 (zr l b) j = vl 4294967296 a0 j + c * 4294967296 ^ j →
    ok (f_Big_subtract_5 fu N M (nI l) b n (lN c) (nI j) (nI k) a) (fun r => bb N (vl 4294967296 a0 k - vl 4294967296 (zr l b) k) r.1 r.2)
  | d, 0, _, _, _, _, h, _, _, _ => by omega
  | 0, n + 1, j, c, a, hj, _, hc, ha, hv => by
    have hjk : j = k := by omega
    subst hjk
    rw [f_Big_subtract_5_s]
    refine ok_t (nI_le (Nat.le_refl _) (by omega)) ?_
    have hlt := vl_lt (B := 4294967296) (a := a) (n := j) (by decide) (bb_d _)
    have hc0 : c = 0 := by
      rcases Nat.eq_zero_or_pos c with q | q
      · exact q
      · rw [show c = 1 by omega, Nat.one_mul] at hv
        omega
    subst hc0
    refine ok_b (P := fun r => bb N (vl 4294967296 a0 j - vl 4294967296 (zr l b) j) r a) (bg_trim hN j fu (by omega) hk (by omega) (bb_d _)) (fun v hv => ok_s hv)
  | d + 1, n + 1, j, c, a, hj, hn, hc, ha, hv => by
    rw [f_Big_subtract_5_s]
    refine ok_f (nI_ge (by omega) (by omega)) ?_
    refine ok_be (big_limb hN hk (by omega)) (ok_be (big_limb hM hl (by omega)) ?_)
    rw [if_pos (by omega : j < k), ← un_zr (a := b)]
    refine ok_l ?_
    refine ok_t (in_N (by omega) hN) ?_
    have hu1 := un_lt (a j)
    have hu2 := un_lt (zr l b j)
    have haj := ha j (Nat.le_refl _)
    rw [nI_1, nI_clamp (by omega)]
    by_cases q : un (zr l b j) + c ≤ un (a j)
    · have e1 : lN (un (a j)) - lN (un (zr l b j)) - lN c = lN (un (a j) - un (zr l b j) - c) := by
        rw [lN_sub (by omega), lN_sub (by omega)]
      rw [e1, show (0 : Int64) = lN 0 from rfl]
      refine ok_t ((lg_cmp_ge _ _).mpr ((pk_lLE (by omega) (by omega)).mpr (by omega))) ?_
      rw [lN_i]
      refine big_sub_5 hN hM hfu hk hl hle d n (j + 1) 0 _ (by omega) (by omega) (by omega) (fun i h1 => by rw [pk_un (by omega)]; exact ha i (by omega)) ?_
      rw [vl_us, vl_s, vl_s, un_nI (by omega), ← haj]
      have hq : un (a j) = (un (a j) - un (zr l b j) - c) + un (zr l b j) + c := by omega
      generalize un (a j) - un (zr l b j) - c = x at hq ⊢
      rw [hq]
      generalize 4294967296 ^ j = B at hv ⊢
      grind
    · have e1 : lN (un (a j)) - lN (un (zr l b j)) - lN c = -lN (un (zr l b j) + c - un (a j)) := by
        rw [← lN_sub (by omega), ← lN_add]
        generalize lN (un (a j)) = x
        generalize lN (un (zr l b j)) = y
        generalize lN c = z
        simp only [Int64.sub_eq_add_neg, Int64.neg_add, Int64.neg_neg]
        ac_rfl
      have e2 : (-lN (un (zr l b j) + c - un (a j))).toInt = -((un (zr l b j) + c - un (a j) : Nat) : Int) := by
        rw [Int64.toInt_neg, pk_lT (by omega)]
        apply Int.bmod_eq_of_le <;> omega
      rw [e1]
      refine ok_f (by rw [lg_cmp_ge, Int64.le_iff_toInt_le, e2]; simp; omega) ?_
      have e3 : (-lN (un (zr l b j) + c - un (a j))).toInt32 = nI (4294967296 + un (a j) - un (zr l b j) - c) := by
        apply Int32.toBitVec_inj.mp
        apply BitVec.eq_of_toInt_eq
        show (-lN (un (zr l b j) + c - un (a j))).toInt32.toInt = (nI (4294967296 + un (a j) - un (zr l b j) - c)).toInt
        rw [Int64.toInt_toInt32, e2]
        rw [← iI_nat]
        show _ = (Int32.ofInt _).toInt
        rw [Int32.toInt_ofInt]
        have : ((4294967296 + un (a j) - un (zr l b j) - c : Nat) : Int) = -((un (zr l b j) + c - un (a j) : Nat) : Int) + 2 ^ 32 := by omega
        rw [this]
        exact (Int.add_bmod_right _ 4294967296).symm
      rw [e3]
      show ok (f_Big_subtract_5 fu N M (nI l) b n (lN 1) _ _ _) _
      refine big_sub_5 hN hM hfu hk hl hle d n (j + 1) 1 _ (by omega) (by omega) (by omega) (fun i h1 => by rw [pk_un (by omega)]; exact ha i (by omega)) ?_
      rw [vl_us, vl_s, vl_s, un_nI (by omega), ← haj]
      have hq : (4294967296 + un (a j) - un (zr l b j) - c) + un (zr l b j) + c = 4294967296 + un (a j) := by omega
      generalize 4294967296 + un (a j) - un (zr l b j) - c = x at hq ⊢
      rw [Nat.pow_succ]
      generalize 4294967296 ^ j = B at hv ⊢
      grind
end Big
