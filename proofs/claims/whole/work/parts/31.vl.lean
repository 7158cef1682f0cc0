-- rows of limbs as numbers
def vl (B : Nat) (a : Nat → Int32) : Nat → Nat
  | 0 => 0
  | n + 1 => vl B a n + un (a n) * B ^ n
theorem vl_s (B : Nat) (a : Nat → Int32) (n : Nat) : vl B a (n + 1) = vl B a n + un (a n) * B ^ n := rfl
theorem vl_c {B : Nat} {a b : Nat → Int32} : ∀ {n : Nat}, (∀ i, i < n → a i = b i) → vl B a n = vl B b n
  | 0, _ => rfl
  | n + 1, h => by rw [vl_s, vl_s, vl_c (fun i hi => h i (by omega)), h n (by omega)]
theorem vl_u {B : Nat} {a : Nat → Int32} {n k : Nat} {x : Int32} (h : n ≤ k) : vl B (upd a k x) n = vl B a n := vl_c (fun _ _ => pk_un (by omega))
theorem vl_us {B : Nat} {a : Nat → Int32} {k : Nat} {x : Int32} : vl B (upd a k x) (k + 1) = vl B a k + un x * B ^ k := by
  rw [vl_s, vl_u (Nat.le_refl k), pk_us]
theorem vl_lt {B : Nat} {a : Nat → Int32} (hB : 0 < B) : ∀ {n : Nat}, (∀ i, i < n → un (a i) < B) → vl B a n < B ^ n
  | 0, _ => by simp [vl]
  | n + 1, h => by
    have h1 := vl_lt hB (fun i hi => h i (by omega)) (n := n)
    have h2 := h n (by omega)
    rw [vl_s, Nat.pow_succ]
    have h3 : (un (a n) + 1) * B ^ n ≤ B * B ^ n := Nat.mul_le_mul_right _ (by omega)
    rw [Nat.add_mul, Nat.one_mul] at h3
    rw [Nat.mul_comm (B ^ n) B]
    omega
theorem vl_z {B : Nat} {a : Nat → Int32} : ∀ {n : Nat}, (∀ i, i < n → a i = 0) → vl B a n = 0
  | 0, _ => rfl
  | n + 1, h => by rw [vl_s, vl_z (fun i hi => h i (by omega)), h n (by omega), un_0]; simp
/-- a row that stands for v: k limbs below B, the highest not 0 -/
def bg (B N v : Nat) (s : Int32) (a : Nat → Int32) : Prop := ∃ k, s = nI k ∧ k ≤ N ∧ vl B a k = v ∧ (∀ i, i < k → un (a i) < B) ∧ (0 < k → B ^ (k - 1) ≤ v)
theorem bg_k {B N v m : Nat} {k : Nat} (hB : 2 ≤ B) (ht : 0 < k → B ^ (k - 1) ≤ v) (h : v < B ^ m) : k ≤ m := by
  rcases Nat.eq_zero_or_pos k with h0 | h0
  · omega
  · have h1 := ht h0
    have h2 : B ^ (k - 1) < B ^ m := Nat.lt_of_le_of_lt h1 h
    have := (Nat.pow_lt_pow_iff_right (by omega : 1 < B)).mp h2
    omega
theorem bg_lt {B N v : Nat} {s : Int32} {a : Nat → Int32} (hB : 0 < B) (h : bg B N v s a) : v < B ^ N := by
  obtain ⟨k, _, h2, h3, h4, _⟩ := h
  have := vl_lt hB h4
  rw [h3] at this
  exact Nat.lt_of_lt_of_le this (Nat.pow_le_pow_right hB h2)
/-- zeros at the high end fall away -/
theorem vl_top {B : Nat} {a : Nat → Int32} {k : Nat} (hz : a k = 0) : vl B a (k + 1) = vl B a k := by rw [vl_s, hz, un_0]; simp
theorem vl_ge {B : Nat} {a : Nat → Int32} {k : Nat} (hz : ¬ a k = 0) : B ^ k ≤ vl B a (k + 1) := by
  rw [vl_s]
  have : 1 ≤ un (a k) := by
    have : ¬ un (a k) = 0 := fun q => hz ((un_z (a k)).mpr q)
    omega
  have := Nat.mul_le_mul_right (B ^ k) this
  omega
theorem bg_trim {fu B N : Nat} {a : Nat → Int32} {v : Nat} (hN : N < 2 ^ 31) : ∀ (k n : Nat), k < n → k ≤ N → vl B a k = v → (∀ i, i < k → un (a i) < B) → ok (f_Big_trim_0 fu N a n (nI k)) (fun r => bg B N v r a)
  | k, 0, h, _, _, _ => by omega
  | 0, n + 1, _, _, hv, _ => by
    rw [f_Big_trim_0_s]
    exact ok_t (by rw [nI_0]; decide) (ok_s ⟨0, rfl, by omega, hv, by intro i hi; omega, by intro h; omega⟩)
  | k + 1, n + 1, h, hk, hv, hd => by
    rw [f_Big_trim_0_s]
    refine ok_f (nI_nle (by omega) (by omega)) ?_
    rw [nI_pred]
    refine ok_t (in_N (by omega) hN) ?_
    rw [nI_clamp (by omega)]
    refine ok_if (fun hz => ?_) (fun hz => ?_)
    · exact bg_trim hN k n (by omega) (by omega) (by rw [← hv, vl_top hz]) (fun i hi => hd i (by omega))
    · exact ok_s ⟨k + 1, rfl, hk, hv, hd, fun _ => by rw [← hv]; exact vl_ge hz⟩
theorem bm_trim {fu B N : Nat} {a : Nat → Int32} {v : Nat} {y : Int32} (hN : N < 2 ^ 31) : ∀ (k n : Nat), k < n → k ≤ N → vl B a k = v → (∀ i, i < k → un (a i) < B) → ok (f_Mod_trimmed_2 fu N y a n (nI k)) (fun r => bg B N v r a)
  | k, 0, h, _, _, _ => by omega
  | 0, n + 1, _, _, hv, _ => by
    rw [f_Mod_trimmed_2_s]
    exact ok_t (by rw [nI_0]; decide) (ok_s ⟨0, rfl, by omega, hv, by intro i hi; omega, by intro h; omega⟩)
  | k + 1, n + 1, h, hk, hv, hd => by
    rw [f_Mod_trimmed_2_s]
    refine ok_f (nI_nle (by omega) (by omega)) ?_
    rw [nI_pred]
    refine ok_t (in_N (by omega) hN) ?_
    rw [nI_clamp (by omega), pk_m1]
    refine ok_if (fun hz => ?_) (fun hz => ?_)
    · exact bm_trim hN k n (by omega) (by omega) (by rw [← hv, vl_top hz]) (fun i hi => hd i (by omega))
    · exact ok_s ⟨k + 1, rfl, hk, hv, hd, fun _ => by rw [← hv]; exact vl_ge hz⟩
