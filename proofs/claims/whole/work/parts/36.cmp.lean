-- the reference's compare
section Cmp
variable {fu N : Nat}
theorem mod_cmp_156 {x1 : Int64} {x3 aM bM tw lM rM : Int32} {aa ba L R : Nat → Int32} {k v w : Nat} (hN : N < 2 ^ 30) (hk : k ≤ N) (hdL : ∀ i, i < k → un (L i) < 65536) (hdR : ∀ i, i < k → un (R i) < 65536) (hv : vl 65536 L k = v) (hw : vl 65536 R k = w) : ∀ (j n : Nat), j < n → j ≤ k → (∀ i, j ≤ i → i < k → L i = R i) →
    ok (f_Mod_compare_156 fu N N N N x1 x3 aM bM tw aa ba n (nI j - 1) lM rM L R) (fun r => sg r.1 v w)
  | j, 0, h, _, _ => by omega
  | 0, n + 1, _, _, hs => by
    rw [f_Mod_compare_156_s]
    refine ok_t (by decide) (ok_s ?_)
    show sg 0 v w
    rw [← hv, ← hw, vl_c (fun i hi => hs i (by omega) hi)]
    exact sg_eq
  | j + 1, n + 1, hn, hj, hs => by
    rw [f_Mod_compare_156_s, nI_pred]
    refine ok_f (nI_pos (by omega)) (ok_t (in_N (by omega) (by omega)) (ok_t (in_N (by omega) (by omega)) ?_))
    rw [nI_clamp (by omega), ← Int32.sub_eq_add_neg]
    refine ok_if (fun h => ?_) (fun h => ?_)
    · exact mod_cmp_156 hN hk hdL hdR hv hw j n (by omega) (by omega) (fun i h1 h2 => by
        rcases Nat.lt_or_ge j i with h3 | h3
        · exact hs i (by omega) h2
        · rw [show i = j by omega]; exact h)
    · refine ok_t (in_N (by omega) (by omega)) (ok_t (in_N (by omega) (by omega)) (ok_s ?_))
      show sg (L j - R j) v w
      have hua := hdL j (by omega)
      have hub := hdR j (by omega)
      have hne : ¬ un (L j) = un (R j) := fun q => h (un_inj q)
      rw [← nI_un (L j), ← nI_un (R j)]
      rcases Nat.lt_or_ge (un (L j)) (un (R j)) with q | q
      · refine sg_lt (pk_sneg (by omega) q) ?_
        rw [← hv, ← hw]
        exact vl_cmp (j := j) (by decide) hdL q (fun i h1 h2 => hs i (by omega) h2) (by omega)
      · refine sg_gt ?_ ?_
        · rw [pk_sub q, Int32.lt_iff_toInt_lt, nI_toInt (by omega), Int32.toInt_zero]; omega
        · rw [← hv, ← hw]
          exact vl_cmp (j := j) (by decide) hdR (by omega) (fun i h1 h2 => (hs i (by omega) h2).symm) (by omega)
theorem mod_cmp_127 {x1 : Int64} {x3 aM bM tw lM rM : Int32} {aa ba L R : Nat → Int32} {v w : Nat} (hN : N < 2 ^ 30) (hfu : N < fu) (hL : bm N v lM L) (hR : bm N w rM R) : ok (f_Mod_compare_127 fu N N N N x1 x3 aM bM tw aa ba lM rM L R) (fun r => sg r.1 v w) := by
  obtain ⟨k, rfl, hk, hv, hd, ht⟩ := hL
  obtain ⟨l, rfl, hl, hw, he, hu⟩ := hR
  unfold f_Mod_compare_127
  refine ok_ii (nI_eq (by omega) (by omega)) (fun h => ?_) (fun h => ?_)
  · subst h
    exact ok_l (mod_cmp_156 hN hk hd he hv hw k fu (by omega) (Nat.le_refl _) (fun i h1 h2 => by omega))
  · exact ok_s (sg_size (by decide) (by omega) (by omega) h hv hw hd he ht hu)
theorem bm_pos {v : Nat} {s : Int32} {a : Nat → Int32} (hN : N < 2 ^ 30) (h : bm N v s a) : s ≤ 0 ↔ v = 0 := by
  obtain ⟨k, rfl, hk, hv, hd, ht⟩ := h
  rw [← nI_0, nI_leI (by omega) (by omega)]
  constructor
  · intro q
    have : k = 0 := by omega
    subst this
    exact hv.symm
  · intro q
    rcases Nat.eq_zero_or_pos k with h0 | h0
    · omega
    · have := ht h0
      have : 0 < 65536 ^ (k - 1) := Nat.pow_pos (by decide)
      omega
theorem mod_cmp_73 {m : Nat} {x3 aM bM tw lM rM k1 : Int32} {aa ba L R : Nat → Int32} {v b : Nat} {d : Int} (hN : N < 2 ^ 30) (hfu : N < fu) (hN5 : 5 ≤ N) (hd1 : -2 ^ 29 < d) (hd2 : d < 2 ^ 29) (hm : m < 2 ^ 63) (hL : bm N v k1 L) (hb : bm N b bM ba) (hlt : b < 65536 ^ (N - 5)) (hlt2 : b * m * 2 ^ (-d).toNat < 65536 ^ (N - 1)) :
    ok (f_Mod_compare_73 fu N N N N (lN m) x3 aM bM tw aa ba (iI d) k1 lM rM L R) (fun r => sg r.1 v (b * m * 2 ^ (-d).toNat)) := by
  unfold f_Mod_compare_73
  refine ok_b (mod_times hN hN hfu hN5 hm hb hlt) (fun r hr => ?_)
  refine ok_ii (iI_le (a := 0) (by omega) (by omega) (by omega) (by omega)) (fun q => ?_) (fun q => ?_)
  · rw [show (-d).toNat = 0 by omega, Nat.pow_zero, Nat.mul_one]
    exact mod_cmp_127 hN hfu hL hr
  · refine ok_ii (bm_pos hN hr) (fun h0 => ?_) (fun h0 => ?_)
    · rw [h0] at hr
      rw [h0, Nat.zero_mul]
      exact mod_cmp_127 hN hfu hL hr
    · rw [iI_neg, show -d = ((-d).toNat : Int) by omega, iI_nat, Int.toNat_natCast]
      exact ok_b (mod_shl hN hfu (by omega) hr (by omega) hlt2) (fun r2 hr2 => mod_cmp_127 hN hfu hL hr2)
theorem mod_cmp_11 {m : Nat} {x3 bM tw lM rM : Int32} {aa ba R : Nat → Int32} {k v b : Nat} {d : Int} (hN : N < 2 ^ 30) (hfu : N < fu) (hN5 : 5 ≤ N) (hd1 : -2 ^ 29 < d) (hd2 : d < 2 ^ 29) (hm : m < 2 ^ 63) (hk : k ≤ N) (hv : vl 65536 aa k = v) (hda : ∀ i, i < k → un (aa i) < 65536) (ht : 0 < k → 65536 ^ (k - 1) ≤ v) (hb : bm N b bM ba) (hlt : b < 65536 ^ (N - 5)) (hlt2 : b * m * 2 ^ (-d).toNat < 65536 ^ (N - 1)) (hlt3 : v * 2 ^ d.toNat < 65536 ^ (N - 1)) :
    ∀ (e n j : Nat) (L : Nat → Int32), j + e = k → e < n → (∀ i, i < j → L i = aa i) → ok (f_Mod_compare_11 fu N N N N (lN m) x3 (nI k) bM tw aa ba n (iI d) (nI j) lM rM L R) (fun r => sg r.1 (v * 2 ^ d.toNat) (b * m * 2 ^ (-d).toNat))
  | e, 0, _, _, _, h, _ => by omega
  | 0, n + 1, j, L, hj, _, hc => by
    have hjk : j = k := by omega
    subst hjk
    have hL : bm N v (nI j) L := ⟨j, rfl, hk, by rw [vl_c hc, hv], fun i hi => by rw [hc i hi]; exact hda i hi, ht⟩
    rw [f_Mod_compare_11_s]
    refine ok_t (nI_le (Nat.le_refl _) (by omega)) ?_
    refine ok_ii (iI_le (b := 0) (by omega) (by omega) (by omega) (by omega)) (fun q => ?_) (fun q => ?_)
    · rw [show d.toNat = 0 by omega, Nat.pow_zero, Nat.mul_one]
      exact mod_cmp_73 hN hfu hN5 hd1 hd2 hm hL hb hlt hlt2
    · refine ok_ii (bm_pos hN hL) (fun h0 => ?_) (fun h0 => ?_)
      · rw [h0, Nat.zero_mul]
        rw [h0] at hL
        exact mod_cmp_73 hN hfu hN5 hd1 hd2 hm hL hb hlt hlt2
      · have e1 : iI d = nI d.toNat := by rw [← iI_nat]; congr 1; omega
        rw [e1]
        refine ok_b (mod_shl hN hfu (by omega) hL (by omega) hlt3) (fun r2 hr2 => ?_)
        rw [← e1]
        exact mod_cmp_73 hN hfu hN5 hd1 hd2 hm hr2 hb hlt hlt2
  | e + 1, n + 1, j, L, hj, hn, hc => by
    rw [f_Mod_compare_11_s]
    refine ok_f (nI_ge (by omega) (by omega)) (ok_t (in_N (by omega) (by omega)) (ok_t (in_N (by omega) (by omega)) ?_))
    rw [nI_1, nI_clamp (by omega)]
    refine mod_cmp_11 hN hfu hN5 hd1 hd2 hm hk hv hda ht hb hlt hlt2 hlt3 e n (j + 1) _ (by omega) (by omega) (fun i hi => ?_)
    by_cases q : i = j
    · rw [q, pk_us]
    · rw [pk_un q]; exact hc i (by omega)
/-- a * 2^T against b * m * 2^q -/
theorem mod_cmp {m : Nat} {aM bM lM rM : Int32} {aa ba L R : Nat → Int32} {v b : Nat} {T q : Int} (hN : N < 2 ^ 30) (hfu : N < fu) (hN5 : 5 ≤ N) (hT1 : -2 ^ 28 < T) (hT2 : T < 2 ^ 28) (hq1 : -2 ^ 28 < q) (hq2 : q < 2 ^ 28) (hm : m < 2 ^ 63) (ha : bm N v aM aa) (hb : bm N b bM ba) (hlt : b < 65536 ^ (N - 5)) (hlt2 : b * m * 2 ^ (q - T).toNat < 65536 ^ (N - 1)) (hlt3 : v * 2 ^ (T - q).toNat < 65536 ^ (N - 1)) :
    ok (f_Mod_compare fu N N N N (lN m) (iI q) aM bM lM rM (iI T) aa ba L R) (fun r => sg r.1 (v * 2 ^ (T - q).toNat) (b * m * 2 ^ (q - T).toNat)) := by
  unfold f_Mod_compare
  obtain ⟨k, rfl, hk, hv, hd, ht⟩ := ha
  rw [iI_sub]
  refine ok_l ?_
  have e : q - T = -(T - q) := by omega
  rw [e] at hlt2 ⊢
  exact mod_cmp_11 hN hfu hN5 (by omega) (by omega) hm hk hv hd ht hb hlt hlt2 hlt3 k fu 0 L (by omega) (by omega) (fun i hi => by omega)
/-- the same with all exponents raised by K -/
theorem sg_K {r : Int32} {v w : Nat} {T q : Int} {K : Nat} (h : sg r (v * 2 ^ (T - q).toNat) (w * 2 ^ (q - T).toNat)) (hT : 0 ≤ T + K) (hq : 0 ≤ q + K) : sg r (v * 2 ^ (T + K).toNat) (w * 2 ^ (q + K).toNat) := by
  have hp : ∀ x y : Nat, ∀ e : Nat, (x * 2 ^ e < y * 2 ^ e ↔ x < y) := fun x y e => Nat.mul_lt_mul_right (Nat.two_pow_pos e)
  have key : ∃ e : Nat, v * 2 ^ (T + K).toNat = v * 2 ^ (T - q).toNat * 2 ^ e ∧ w * 2 ^ (q + K).toNat = w * 2 ^ (q - T).toNat * 2 ^ e := by
    rcases Int.le_total T q with h1 | h1
    · refine ⟨(T + K).toNat, ?_, ?_⟩
      · rw [show (T - q).toNat = 0 by omega]; simp
      · rw [Nat.mul_assoc, ← Nat.pow_add]; congr 2; omega
    · refine ⟨(q + K).toNat, ?_, ?_⟩
      · rw [Nat.mul_assoc, ← Nat.pow_add]; congr 2; omega
      · rw [show (q - T).toNat = 0 by omega]; simp
  obtain ⟨e, e1, e2⟩ := key
  rw [e1, e2]
  obtain ⟨h1, h2, h3⟩ := h
  have he := Nat.two_pow_pos e
  refine ⟨by rw [h1, hp], ?_, by rw [h3, hp]⟩
  rw [h2]
  constructor
  · intro q; rw [q]
  · intro q; exact Nat.eq_of_mul_eq_mul_right he q
end Cmp
