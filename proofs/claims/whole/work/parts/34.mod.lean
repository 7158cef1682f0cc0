-- the reference's whole numbers: rows of 16 bits
abbrev bm (N v : Nat) (s : Int32) (a : Nat → Int32) : Prop := bg 65536 N v s a
theorem un_l {x : Int32} (h : un x < 2147483648) : x.toInt64 = lN (un x) := by
  rw [← nI_l (by omega), nI_un]
theorem wb_sshr {n k : Nat} (hn : n < 2 ^ 63) (hk : k < 64) : lN n >>> ((nI k).toInt64 &&& 63) = lN (n / 2 ^ k) := by
  rw [wb_c k hk]
  have hd : n / 2 ^ k ≤ n := Nat.div_le_self _ _
  apply Int64.toInt_inj.mp
  have e : (lN n >>> lN k).toInt = (lN n).toInt >>> k := by
    have h1 : ((lN k).toBitVec.smod 64).toNat = k := by
      rw [wb_tb, wb_sm k hk, BitVec.toNat_ofNat, Nat.mod_eq_of_lt (by omega)]
    conv => rhs; rw [← h1]
    exact BitVec.toInt_sshiftRight ..
  rw [e, Int.shiftRight_eq_div_pow, pk_lT hn, pk_lT (by omega)]
  rfl
theorem wb_16 {n : Nat} (hn : n < 2 ^ 64) : lN n &&& 65535 = lN (n % 65536) := wb_mask (k := 16) hn (by decide)
section Mod
variable {fu N : Nat}
theorem mod_grow_7 {x3 : Int32} {F k : Nat} (hN : N < 2 ^ 31) (hfu : N < fu) (hF : F < 65536) (hk : k < N) {S : Nat} {a0 : Nat → Int32} (hd0 : ∀ i, i < k → un (a0 i) < 65536) :
    ∀ (d n j c : Nat) (a : Nat → Int32), j + d = k → d < n → c < 65536 → (∀ i, j ≤ i → a i = a0 i) → (∀ i, i < j → un (a i) < 65536) → vl 65536 a j + c * 65536 ^ j = vl 65536 a0 j * F + S →
    ok (f_Mod_grow_7 fu N (nI k) (nI F) x3 n (lN c) (nI j) a) (fun r => bm N (vl 65536 a0 k * F + S) r.1 r.2)
  | d, 0, _, _, _, _, h, _, _, _, _ => by omega
  | 0, n + 1, j, c, a, hj, _, hc, ha, hd, hv => by
    have hjk : j = k := by omega
    subst hjk
    rw [f_Mod_grow_7_s]
    refine ok_t (nI_le (Nat.le_refl _) (by omega)) (ok_t (in_N hk hN) ?_)
    rw [nI_clamp (by omega), lN_i, nI_1]
    refine ok_b (P := fun r => bm N (vl 65536 a0 j * F + S) r (upd a j (nI c))) (bm_trim hN (j + 1) fu (by omega) (by omega) ?_ ?_) (fun v hv => ok_s hv)
    · rw [vl_us, un_nI (by omega), hv]
    · intro i hi
      by_cases q : i = j
      · rw [q, pk_us, un_nI (by omega)]; exact hc
      · rw [pk_un q]; exact hd i (by omega)
  | d + 1, n + 1, j, c, a, hj, hn, hc, ha, hd, hv => by
    rw [f_Mod_grow_7_s]
    refine ok_f (nI_ge (by omega) (by omega)) (ok_t (in_N (by omega) hN) ?_)
    have haj := ha j (Nat.le_refl _)
    have hu := hd0 j (by omega)
    rw [nI_clamp (by omega), haj, un_l (by omega), nI_l (by omega), lN_mul, lN_add]
    have hm : un (a0 j) * F ≤ 65535 * 65535 := Nat.mul_le_mul (by omega) (by omega)
    refine ok_l (ok_t (in_N (by omega) hN) ?_)
    rw [show (16 : Int32) = nI 16 from rfl, wb_sshr (by omega) (by decide), wb_16 (by omega), lN_i, nI_1]
    refine ok_l (mod_grow_7 hN hfu hF hk hd0 d n (j + 1) _ _ (by omega) (by omega) (by omega) (fun i hi => by rw [pk_un (by omega)]; exact ha i (by omega)) (fun i hi => ?_) ?_)
    · by_cases q : i = j
      · rw [q, pk_us, un_nI (by omega)]; omega
      · rw [pk_un q]; exact hd i (by omega)
    rw [vl_us, vl_s, un_nI (by omega)]
    have hdm := Nat.mod_add_div (un (a0 j) * F + c) 65536
    rw [show (2 : Nat) ^ 16 = 65536 from rfl, Nat.pow_succ]
    generalize (un (a0 j) * F + c) % 65536 = q at hdm ⊢
    generalize (un (a0 j) * F + c) / 65536 = r at hdm ⊢
    generalize 65536 ^ j = B at hv ⊢
    grind
theorem mod_growK {F S k v : Nat} {a : Nat → Int32} (hN : N < 2 ^ 31) (hfu : N < fu) (hF : F < 65536) (hS : S < 65536) (hk : k < N) (hd : ∀ i, i < k → un (a i) < 65536) (hv : vl 65536 a k = v) : ok (f_Mod_grow fu N (nI k) (nI F) (nI S) a) (fun r => bm N (v * F + S) r.1 r.2) := by
  unfold f_Mod_grow
  rw [nI_l (by omega)]
  have := mod_grow_7 (fu := fu) (N := N) (x3 := nI S) (F := F) (S := S) (a0 := a) hN hfu hF hk hd k fu 0 S a (by omega) (by omega) (by omega) (fun _ _ => rfl) (fun i hi => by omega) (by simp [vl])
  rw [hv, nI_0] at this
  exact this
theorem mod_grow {F S v : Nat} {s : Int32} {a : Nat → Int32} (hN : N < 2 ^ 31) (hN0 : 0 < N) (hfu : N < fu) (hF : F < 65536) (hS : S < 65536) (h : bm N v s a) (hlt : v < 65536 ^ (N - 1)) : ok (f_Mod_grow fu N s (nI F) (nI S) a) (fun r => bm N (v * F + S) r.1 r.2) := by
  obtain ⟨k, rfl, hk, hv, hd, ht⟩ := h
  have hkN := bg_k (N := N) (by decide) ht hlt
  exact mod_growK hN hfu hF hS (by omega) hd hv
theorem mod_fives_5 {x1 : Int32} {c v : Nat} (hN : N < 2 ^ 31) (hN0 : 0 < N) (hfu : N < fu) (hc : c < 2 ^ 30) (hlt : v * 5 ^ c < 65536 ^ (N - 1)) : ∀ (d n j : Nat) (s : Int32) (a : Nat → Int32), j + d = c → d < n → bm N (v * 5 ^ j) s a → ok (f_Mod_fives_5 fu N x1 (nI c) n s (nI j) a) (fun r => bm N (v * 5 ^ c) r.1 r.2)
  | d, 0, _, _, _, _, h, _ => by omega
  | 0, n + 1, j, s, a, hj, _, hb => by
    have hjc : j = c := by omega
    subst hjc
    rw [f_Mod_fives_5_s]
    exact ok_t (nI_le (Nat.le_refl _) (by omega)) (ok_s hb)
  | d + 1, n + 1, j, s, a, hj, hn, hb => by
    rw [f_Mod_fives_5_s]
    refine ok_f (nI_ge (by omega) (by omega)) ?_
    have hle : v * 5 ^ j ≤ v * 5 ^ c := Nat.mul_le_mul_left _ (Nat.pow_le_pow_right (by decide) (by omega))
    refine ok_b (mod_grow (F := 5) (S := 0) hN hN0 hfu (by decide) (by decide) hb (by omega)) (fun r hr => ?_)
    rw [Nat.add_zero, Nat.mul_assoc, ← Nat.pow_succ] at hr
    rw [nI_1]
    exact mod_fives_5 hN hN0 hfu hc hlt d n (j + 1) _ _ (by omega) (by omega) hr
theorem mod_fives {c v : Nat} {s : Int32} {a : Nat → Int32} (hN : N < 2 ^ 31) (hN0 : 0 < N) (hfu : N < fu) (hfc : c < fu) (hc : c < 2 ^ 30) (h : bm N v s a) (hlt : v * 5 ^ c < 65536 ^ (N - 1)) : ok (f_Mod_fives fu N s (nI c) a) (fun r => bm N (v * 5 ^ c) r.1 r.2) := by
  unfold f_Mod_fives
  exact mod_fives_5 hN hN0 hfu hc hlt c fu 0 s a (by omega) hfc (by simpa using h)
theorem pw16 (j : Nat) : 2 ^ (16 * j) = 65536 ^ j := by rw [Nat.pow_mul]
theorem mod_set_2 {m : Nat} (hN : N < 2 ^ 31) (hN4 : 4 ≤ N) (hfu : 4 < fu) (hm : m < 2 ^ 63) : ∀ (d n j : Nat) (a : Nat → Int32), j + d = 4 → d < n → (∀ i, i < j → un (a i) < 65536) → vl 65536 a j = m % 65536 ^ j → ok (f_Mod_set_2 fu N (lN m) n (nI j) a) (fun r => bm N m r.1 r.2)
  | d, 0, _, _, _, h, _, _ => by omega
  | 0, n + 1, j, a, hj, _, hd, hv => by
    have hj4 : j = 4 := by omega
    subst hj4
    rw [f_Mod_set_2_s]
    refine ok_t (by decide) ?_
    refine ok_b (P := fun r => bm N m r a) (bm_trim hN 4 fu hfu hN4 (by rw [hv]; exact Nat.mod_eq_of_lt (by omega)) hd) (fun v hv => ok_s hv)
  | d + 1, n + 1, j, a, hj, hn, hd, hv => by
    rw [f_Mod_set_2_s]
    refine ok_f (nI_ge (b := 4) (by omega) (by decide)) (ok_t (in_N (by omega) hN) ?_)
    have hq : m / 2 ^ (16 * j) ≤ m := Nat.div_le_self _ _
    rw [nI_1, nI_clamp (by omega), show (16 : Int32) = nI 16 from rfl, pk_mul, wb_sshr hm (by omega), wb_16 (by omega), lN_i]
    refine mod_set_2 hN hN4 hfu hm d n (j + 1) _ (by omega) (by omega) (fun i hi => ?_) ?_
    · by_cases q : i = j
      · rw [q, pk_us, un_nI (by omega)]; omega
      · rw [pk_un q]; exact hd i (by omega)
    · rw [vl_us, hv, un_nI (by omega), pw16, Nat.mod_pow_succ, Nat.mul_comm]
theorem mod_set {m : Nat} {a : Nat → Int32} (hN : N < 2 ^ 31) (hN4 : 4 ≤ N) (hfu : 4 < fu) (hm : m < 2 ^ 63) : ok (f_Mod_set fu N (lN m) a) (fun r => bm N m r.1 r.2) :=
  mod_set_2 hN hN4 hfu hm 4 fu 0 a (by omega) hfu (fun i hi => by omega) (by simp [vl]; omega)
theorem mod_shl_42 {w k p v : Nat} {x2 : Int32} {a0 : Nat → Int32} (hN : N < 2 ^ 31) (hfu : N < fu) (hw : k + w < N) (hp : p < 16) (hd0 : ∀ i, i < k → un (a0 i) < 65536) (hv : vl 65536 a0 k = v) :
    ∀ (d n j : Nat) (a : Nat → Int32), j + d = w → d < n → (∀ i, i < j → a i = 0) → (∀ i, i < k → a (w + i) = a0 i) →
    ok (f_Mod_shifted_42 fu N (nI k) x2 n (nI w) (nI p) (nI j) a) (fun r => bm N (v * 2 ^ (16 * w + p)) r.1 r.2)
  | d, 0, _, _, _, h, _, _ => by omega
  | 0, n + 1, j, a, hj, _, hz, hs => by
    have hjw : j = w := by omega
    subst hjw
    rw [f_Mod_shifted_42_s]
    refine ok_t (nI_le (Nat.le_refl _) (by omega)) ?_
    have hsh : (1 : Int32) <<< (nI p &&& 31) = nI (2 ^ p) := by
      have : ∀ p, p < 16 → (1 : Int32) <<< (nI p &&& 31) = nI (2 ^ p) := by decide +kernel
      exact this p hp
    have hp2 : 2 ^ p < 65536 := Nat.pow_lt_pow_right (n := 16) (by decide) hp
    rw [nI_add, hsh]
    have hvv : vl 65536 a (k + j) = v * 65536 ^ j := by
      rw [Nat.add_comm, vl_sh hz, vl_c (b := a0) (fun i hi => hs i hi), hv, Nat.mul_comm]
    have := mod_growK (fu := fu) (N := N) (F := 2 ^ p) (S := 0) (k := k + j) (a := a) hN hfu hp2 (by decide) hw (fun i hi => ?_) hvv
    · refine ok_b this (fun r hr => ok_s ?_)
      rw [Nat.add_zero, ← pw16, Nat.mul_assoc, ← Nat.pow_add] at hr
      exact hr
    · rcases Nat.lt_or_ge i j with q | q
      · rw [hz i q, un_0]; decide
      · obtain ⟨t, rfl⟩ : ∃ t, i = j + t := ⟨i - j, by omega⟩
        rw [hs t (by omega)]
        exact hd0 t (by omega)
  | d + 1, n + 1, j, a, hj, hn, hz, hs => by
    rw [f_Mod_shifted_42_s]
    refine ok_f (nI_ge (by omega) (by omega)) (ok_t (in_N (by omega) hN) ?_)
    rw [nI_1, nI_clamp (by omega)]
    refine mod_shl_42 hN hfu hw hp hd0 hv d n (j + 1) _ (by omega) (by omega) (fun i hi => ?_) (fun i hi => ?_)
    · by_cases q : i = j
      · rw [q, pk_us]
      · rw [pk_un q]; exact hz i (by omega)
    · rw [pk_un (by omega)]; exact hs i hi
theorem mod_shl_18 {w k p v : Nat} {x2 : Int32} {a0 : Nat → Int32} (hN : N < 2 ^ 31) (hfu : N < fu) (hw : k + w < N) (hp : p < 16) (hd0 : ∀ i, i < k → un (a0 i) < 65536) (hv : vl 65536 a0 k = v) :
    ∀ (j n : Nat) (a : Nat → Int32), j < n → j ≤ k → (∀ i, i < j → a i = a0 i) → (∀ i, j ≤ i → i < k → a (w + i) = a0 i) →
    ok (f_Mod_shifted_18 fu N (nI k) x2 n (nI w) (nI p) (nI j - 1) a) (fun r => bm N (v * 2 ^ (16 * w + p)) r.1 r.2)
  | j, 0, _, h, _, _, _ => by omega
  | 0, n + 1, a, _, _, _, hs => by
    rw [f_Mod_shifted_18_s]
    refine ok_t (by decide) ?_
    exact mod_shl_42 hN hfu hw hp hd0 hv w fu 0 a (by omega) (by omega) (fun i hi => by omega) (fun i hi => hs i (by omega) hi)
  | j + 1, n + 1, a, hn, hj, ha, hs => by
    rw [f_Mod_shifted_18_s, nI_pred]
    refine ok_f (nI_pos (by omega)) (ok_t (in_N (by omega) hN) ?_)
    rw [nI_add]
    refine ok_t (in_N (by omega) hN) ?_
    rw [nI_clamp (by omega), nI_clamp (by omega), ← Int32.sub_eq_add_neg]
    refine mod_shl_18 hN hfu hw hp hd0 hv j n _ (by omega) (by omega) (fun i hi => by rw [pk_un (by omega)]; exact ha i (by omega)) (fun i h1 h2 => ?_)
    by_cases q : i = j
    · rw [q, Nat.add_comm w j, pk_us]; exact ha j (by omega)
    · rw [pk_un (by omega)]; exact hs i (by omega) h2
theorem mod_shl {c v : Nat} {s : Int32} {a : Nat → Int32} (hN : N < 2 ^ 30) (hfu : N < fu) (hc : c < 2 ^ 30) (h : bm N v s a) (hv0 : 0 < v) (hlt : v * 2 ^ c < 65536 ^ (N - 1)) : ok (f_Mod_shifted fu N s (nI c) a) (fun r => bm N (v * 2 ^ c) r.1 r.2) := by
  obtain ⟨k, rfl, hk, hv, hd, ht⟩ := h
  unfold f_Mod_shifted
  have hk0 : 0 < k := by
    rcases Nat.eq_zero_or_pos k with q | q
    · subst q; have : v = 0 := hv.symm; omega
    · exact q
  have hw : k + c / 16 < N := by
    have h1 := ht hk0
    have h2 : 2 ^ (16 * (c / 16)) ≤ 2 ^ c := Nat.pow_le_pow_right (by decide) (Nat.mul_div_le c 16)
    have h3 := Nat.mul_le_mul h1 h2
    rw [pw16, ← Nat.pow_add] at h3
    have h4 : 65536 ^ (k - 1 + c / 16) < 65536 ^ (N - 1) := by omega
    have := (Nat.pow_lt_pow_iff_right (by decide)).mp h4
    omega
  rw [show (16 : Int32) = nI 16 from rfl, pk_div (by omega) (by decide) (by decide)]
  refine ok_l ?_
  have e : nI c - nI 16 * nI (c / 16) = nI (c % 16) := by
    rw [pk_mul, pk_sub (Nat.mul_div_le c 16)]
    congr 1
    omega
  rw [e]
  refine ok_l (ok_l ?_)
  have := mod_shl_18 (fu := fu) (N := N) (x2 := nI c) (w := c / 16) (p := c % 16) (a0 := a) (by omega) hfu hw (Nat.mod_lt _ (by decide)) hd hv k fu a (by omega) (by omega) (fun _ _ => rfl) (fun i h1 h2 => by omega)
  rw [Nat.div_add_mod] at this
  exact this
end Mod
