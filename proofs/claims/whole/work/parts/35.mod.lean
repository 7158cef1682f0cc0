-- the reference's whole numbers, further: times, compare
section Mod
variable {fu N M : Nat}
/-- a run of a loop's step -/
theorem mod_times_51 {x : Nat → Int32} {k c B v m : Nat} {x3 : Int64} {s26 : Int32 → (Nat → Int32) → Option (Int32 × (Nat → Int32))} {Q : Int32 × (Nat → Int32) → Prop} {T0 : Nat → Int32} (hN : N < 2 ^ 30) (hM : M < 2 ^ 30) (hk : k ≤ M) (hkN : k + 5 ≤ N) (hc : c < 4) (hB : B < 65536) (hd0 : ∀ i, i < k → un (x i) < 65536) (hv : vl 65536 x k = v) (hT : ∀ i, i < k + 5 → un (T0 i) < 65536) (hTv : vl 65536 T0 (c + k + 1) = v * m) (hm : m < 65536 ^ c)
    (kk : ∀ T : Nat → Int32, (∀ i, c + k + 1 ≤ i → T i = T0 i) → (∀ i, i < k + 5 → un (T i) < 65536) → vl 65536 T (c + k + 1) = v * (m + B * 65536 ^ c) → ok (s26 (nI (c + 1)) T) Q) :
    ∀ (d n j r : Nat) (T : Nat → Int32), j + d = k + 1 → d < n → r < 65536 → (∀ i, c + j ≤ i → T i = T0 i) → (∀ i, i < k + 5 → un (T i) < 65536) → vl 65536 T (c + j) + r * 65536 ^ (c + j) = vl 65536 T0 (c + j) + vl 65536 (zr k x) j * B * 65536 ^ c →
    ok (f_Mod_times_51 fu M N (nI k) x3 x s26 n (nI c) (lN B) (lN r) (nI j) T) Q
  | d, 0, _, _, _, _, h, _, _, _, _ => by omega
  | 0, n + 1, j, r, T, hj, _, hr, hs, hd, he => by
    have hjk : j = k + 1 := by omega
    subst hjk
    rw [f_Mod_times_51_s]
    refine ok_t (nI_lt (by omega) (by omega)) ?_
    rw [nI_1]
    rw [← Nat.add_assoc, hTv, vl_zr (by omega), hv] at he
    have hsum : v * m + v * B * 65536 ^ c = v * (m + B * 65536 ^ c) := by
      generalize 65536 ^ c = p
      grind
    rw [hsum] at he
    have hr0 : r = 0 := by
      have h1 : v < 65536 ^ k := by rw [← hv]; exact vl_lt (by decide) hd0
      have h2 : m + B * 65536 ^ c < 65536 ^ (c + 1) := by
        rw [Nat.pow_succ]
        have := Nat.mul_le_mul_right (65536 ^ c) (show B + 1 ≤ 65536 from hB)
        rw [Nat.add_mul, Nat.one_mul] at this
        omega
      have h3 : v * (m + B * 65536 ^ c) < 65536 ^ (c + k + 1) := by
        rw [show c + k + 1 = k + (c + 1) by omega, Nat.pow_add]
        exact Nat.mul_lt_mul_of_lt_of_lt h1 h2
      rcases Nat.eq_zero_or_pos r with q | q
      · exact q
      · have := Nat.mul_le_mul_right (65536 ^ (c + k + 1)) (show 1 ≤ r from q)
        omega
    subst hr0
    rw [Nat.zero_mul, Nat.add_zero] at he
    exact kk T (fun i hi => hs i (by omega)) hd he
  | d + 1, n + 1, j, r, T, hj, hn, hr, hs, hd, he => by
    rw [f_Mod_times_51_s]
    refine ok_f (nI_nlt (by omega) (by omega)) ?_
    rw [nI_add]
    refine ok_t (in_N (by omega) (by omega)) ?_
    have hTj : T (j + c) = T0 (j + c) := hs _ (by omega)
    have hu := hT (j + c) (by omega)
    have key : ∀ X : Nat, X = un (zr k x j) → ok (f_Mod_times_87 fu M N (nI k) x3 x s26 (f_Mod_times_51 fu M N (nI k) x3 x s26 n) (nI c) (lN B) (nI j) ((T (nI (j + c)).toNatClampNeg).toInt64 + lN r) (lN (X * B)) T) Q := by
      intro X hX
      have hXu : X < 65536 := by
        rw [hX, un_zr]
        by_cases q : j < k
        · rw [if_pos q]; exact hd0 j q
        · rw [if_neg q]; decide
      unfold f_Mod_times_87
      rw [nI_clamp (by omega), hTj, un_l (by omega), lN_add, lN_add, nI_add]
      have hm2 : X * B ≤ 65535 * 65535 := Nat.mul_le_mul (by omega) (by omega)
      refine ok_l (ok_t (in_N (by omega) (by omega)) ?_)
      rw [show (16 : Int32) = nI 16 from rfl, wb_sshr (by omega) (by decide), wb_16 (by omega), lN_i, nI_1, nI_clamp (by omega), show (2 : Nat) ^ 16 = 65536 from rfl]
      refine ok_l (mod_times_51 hN hM hk hkN hc hB hd0 hv hT hTv hm kk d n (j + 1) _ _ (by omega) (by omega) (by omega) (fun i hi => by rw [pk_un (by omega)]; exact hs i (by omega)) (fun i hi => ?_) ?_)
      · by_cases q : i = j + c
        · rw [q, pk_us, un_nI (by omega)]; omega
        · rw [pk_un q]; exact hd i hi
      · rw [← Nat.add_assoc, Nat.add_comm c j, vl_us, vl_s, vl_s, un_nI (by omega), ← hX]
        rw [Nat.add_comm c j] at he
        have hdm := Nat.mod_add_div (un (T0 (j + c)) + r + X * B) 65536
        generalize (un (T0 (j + c)) + r + X * B) % 65536 = q1 at hdm ⊢
        generalize (un (T0 (j + c)) + r + X * B) / 65536 = q2 at hdm ⊢
        rw [Nat.pow_succ]
        rw [Nat.pow_add] at he ⊢
        generalize 65536 ^ c = p1 at he ⊢
        generalize 65536 ^ j = p2 at he ⊢
        generalize un (T0 (j + c)) = u at hdm ⊢
        generalize vl 65536 T (j + c) = u1 at he ⊢
        generalize vl 65536 T0 (j + c) = u2 at he ⊢
        generalize vl 65536 (zr k x) j = u3 at he ⊢
        grind
    refine ok_if (fun q => ?_) (fun q => ?_)
    · rw [nI_leI (by omega) (by omega)] at q
      have := key 0 (by rw [un_zr, if_neg (by omega)])
      rw [Nat.zero_mul] at this
      exact this
    · rw [nI_leI (by omega) (by omega)] at q
      refine ok_t (in_N (by omega) (by omega)) ?_
      have hxj := hd0 j (by omega)
      have := key (un (x j)) (by rw [un_zr, if_pos (by omega)])
      rw [← lN_mul, ← un_l (by omega)] at this
      rw [nI_clamp (show j < 2 ^ 31 by omega)]
      exact this
theorem mod_times_26 {x : Nat → Int32} {k v m : Nat} (hN : N < 2 ^ 30) (hM : M < 2 ^ 30) (hfu : N < fu) (hk : k ≤ M) (hkN : k + 5 ≤ N) (hd0 : ∀ i, i < k → un (x i) < 65536) (hv : vl 65536 x k = v) (hm : m < 2 ^ 63) :
    ∀ (d n c : Nat) (T : Nat → Int32), c + d = 4 → d < n → (∀ i, i < k + 5 → un (T i) < 65536) → (∀ i, c + k ≤ i → i < k + 5 → T i = 0) → vl 65536 T (c + k) = v * (m % 65536 ^ c) →
    ok (f_Mod_times_26 fu M N (nI k) (lN m) x n (nI c) T) (fun r => bm N (v * m) r.1 r.2)
  | d, 0, _, _, _, h, _, _, _ => by omega
  | 0, n + 1, c, T, hc, _, hd, hz, he => by
    have hc4 : c = 4 := by omega
    subst hc4
    rw [f_Mod_times_26_s]
    refine ok_t (by decide) ?_
    rw [show (5 : Int32) = nI 5 from rfl, nI_add]
    refine ok_b (P := fun r => bm N (v * m) r T) (bm_trim (by omega) (k + 5) fu (by omega) (by omega) ?_ hd) (fun v hv => ok_s hv)
    rw [show k + 5 = (4 + k) + 1 by omega, vl_top (hz _ (by omega) (by omega)), he, Nat.mod_eq_of_lt (by omega)]
  | d + 1, n + 1, c, T, hc, hn, hd, hz, he => by
    rw [f_Mod_times_26_s]
    refine ok_f (nI_ge (b := 4) (by omega) (by decide)) ?_
    have hq : m / 2 ^ (16 * c) ≤ m := Nat.div_le_self _ _
    rw [show (16 : Int32) = nI 16 from rfl, pk_mul, wb_sshr hm (by omega), wb_16 (by omega), pw16]
    refine ok_l ?_
    refine mod_times_51 (T0 := T) (v := v) (m := m % 65536 ^ c) hN hM hk hkN (by omega) (Nat.mod_lt _ (by decide)) hd0 hv hd ?_ (Nat.mod_lt _ (Nat.pow_pos (by decide))) ?_ (k + 1) fu 0 0 T (by omega) (by omega) (by omega) (fun _ _ => rfl) hd (by simp [vl])
    · rw [vl_top (hz _ (by omega) (by omega)), he]
    · intro T' h1 h2 h3
      refine mod_times_26 hN hM hfu hk hkN hd0 hv hm d n (c + 1) T' (by omega) (by omega) h2 (fun i h4 h5 => ?_) ?_
      · rw [h1 i (by omega)]; exact hz i (by omega) h5
      · rw [show c + 1 + k = c + k + 1 by omega, h3, Nat.mod_pow_succ, Nat.mul_comm (m / 65536 ^ c % 65536)]
theorem mod_times_3 {x : Nat → Int32} {k v m : Nat} (hN : N < 2 ^ 30) (hM : M < 2 ^ 30) (hfu : N < fu) (hk : k ≤ M) (hkN : k + 5 ≤ N) (hd0 : ∀ i, i < k → un (x i) < 65536) (hv : vl 65536 x k = v) (hm : m < 2 ^ 63) :
    ∀ (d n j : Nat) (T : Nat → Int32), j + d = k + 5 → d < n → (∀ i, i < j → T i = 0) → ok (f_Mod_times_3 fu M N (nI k) (lN m) x n (nI j) T) (fun r => bm N (v * m) r.1 r.2)
  | d, 0, _, _, _, h, _ => by omega
  | 0, n + 1, j, T, hj, _, hz => by
    have hjk : j = k + 5 := by omega
    subst hjk
    rw [f_Mod_times_3_s]
    rw [show (5 : Int32) = nI 5 from rfl, nI_add]
    refine ok_t (nI_le (Nat.le_refl _) (by omega)) ?_
    refine mod_times_26 hN hM hfu hk hkN hd0 hv hm 4 fu 0 T (by omega) (by omega) (fun i hi => by rw [hz i hi, un_0]; decide) (fun i _ h => hz i h) ?_
    rw [vl_z (fun i hi => hz i (by omega)), Nat.pow_zero, Nat.mod_one, Nat.mul_zero]
  | d + 1, n + 1, j, T, hj, hn, hz => by
    rw [f_Mod_times_3_s]
    rw [show (5 : Int32) = nI 5 from rfl, nI_add]
    refine ok_f (nI_ge (by omega) (by omega)) (ok_t (in_N (by omega) (by omega)) ?_)
    rw [nI_1, nI_clamp (by omega)]
    refine mod_times_3 hN hM hfu hk hkN hd0 hv hm d n (j + 1) _ (by omega) (by omega) (fun i hi => ?_)
    by_cases q : i = j
    · rw [q, pk_us]
    · rw [pk_un q]; exact hz i (by omega)
theorem mod_times {v m : Nat} {s : Int32} {x T : Nat → Int32} (hN : N < 2 ^ 30) (hM : M < 2 ^ 30) (hfu : N < fu) (hN5 : 5 ≤ N) (hm : m < 2 ^ 63) (h : bm M v s x) (hlt : v < 65536 ^ (N - 5)) : ok (f_Mod_times fu M N s (lN m) x T) (fun r => bm N (v * m) r.1 r.2) := by
  obtain ⟨k, rfl, hk, hv, hd, ht⟩ := h
  have hkN := bg_k (N := N) (by decide) ht hlt
  exact mod_times_3 hN hM hfu hk (by omega) hd hv hm (k + 5) fu 0 T (by omega) (by omega) (fun i hi => by omega)
end Mod
