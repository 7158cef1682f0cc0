-- words: NaN, Infinity, 0.0
section Word
variable {fu N : Nat}
theorem row_all_2 {x : Nat} {s : List Nat} (hN : N < 2 ^ 31) (hlen : f_Str_length x = some (nI s.length)) (hs31 : s.length < 2 ^ 31) (hch : ∀ i, i < s.length → f_Str_charAt x (nI i) = some (nI (s.getD i 0))) (hs : ∀ c, c ∈ s → c < 128) :
    ∀ (d m i : Nat) (l : List Nat) (k : Int32) (a : Nat → Int32), i + d = s.length → d < m → tl l k a → l.length + d ≤ N →
    ok (f_Row_putAll_2 fu N x m (nI i) k a) (fun r => tl (l ++ s.drop i) r.1 r.2)
  | d, 0, _, _, _, _, _, h, _, _ => by omega
  | 0, m + 1, i, l, k, a, hi, _, hl, _ => by
    rw [f_Row_putAll_2_s]
    refine ok_be hlen (ok_t (nI_le (by omega) (by omega)) (ok_s ?_))
    rw [List.drop_eq_nil_of_le (by omega), List.append_nil]
    exact hl
  | d + 1, m + 1, i, l, k, a, hi, hm, hl, hb => by
    rw [f_Row_putAll_2_s]
    have hi' : i < s.length := by omega
    refine ok_be hlen (ok_f (nI_ge hi' hs31) ?_)
    refine ok_be (hch i hi') ?_
    have e : s.getD i 0 = s[i] := by simp [List.getD, hi']
    refine ok_b (row_put hl (by rw [e]; exact hs _ (List.getElem_mem hi')) (by omega) hN) (fun v hv => ?_)
    rw [nI_1]
    refine ok_m (row_all_2 hN hlen hs31 hch hs d m (i + 1) _ _ _ (by omega) (by omega) hv (by rw [List.length_append]; show l.length + 1 + d ≤ N; omega)) (fun r hr => ?_)
    rw [List.drop_eq_getElem_cons hi', ← e]
    rw [List.append_assoc] at hr
    exact hr
theorem row_all {x : Nat} {s l : List Nat} {k : Int32} {a : Nat → Int32} (hN : N < 2 ^ 31) (hfu : s.length < fu) (hlen : f_Str_length x = some (nI s.length)) (hs31 : s.length < 2 ^ 31) (hch : ∀ i, i < s.length → f_Str_charAt x (nI i) = some (nI (s.getD i 0))) (hs : ∀ c, c ∈ s → c < 128) (hl : tl l k a) (hb : l.length + s.length ≤ N) :
    ok (f_Row_putAll fu N x k a) (fun r => tl (l ++ s) r.1 r.2) := by
  unfold f_Row_putAll
  exact row_all_2 hN hlen hs31 hch hs s.length fu 0 l k a (by omega) hfu hl hb
theorem mod_word_9 {X : Int64} {x3 : Int32} {s : List Nat} (hN : N < 2 ^ 31) (hs9 : s.length ≤ 8) (hch : ∀ i, i < s.length → (((X >>> ((nI (8 * (s.length - 1 - i))).toInt64 &&& 63)) &&& 255).toInt32) = nI (s.getD i 0)) (hs : ∀ c, c ∈ s → c < 128) :
    ∀ (d m i : Nat) (l : List Nat) (k : Int32) (a : Nat → Int32), i + d = s.length → d < m → tl l k a → l.length + d ≤ N →
    ok (f_Mod_layWord_9 fu N X x3 m (iI (8 * (s.length : Int) - 8 - 8 * i)) k a) (fun r => tl (l ++ s.drop i) r.1 r.2)
  | d, 0, _, _, _, _, _, h, _, _ => by omega
  | 0, m + 1, i, l, k, a, hi, _, hl, _ => by
    rw [f_Mod_layWord_9_s]
    refine ok_t ((iI_lt (b := 0) (by omega) (by omega) (by decide) (by decide)).mpr (by omega)) (ok_s ?_)
    rw [List.drop_eq_nil_of_le (by omega), List.append_nil]
    exact hl
  | d + 1, m + 1, i, l, k, a, hi, hm, hl, hb => by
    rw [f_Mod_layWord_9_s]
    have hi' : i < s.length := by omega
    have e : s.getD i 0 = s[i] := by simp [List.getD, hi']
    have ei : iI (8 * (s.length : Int) - 8 - 8 * i) = nI (8 * (s.length - 1 - i)) := by
      rw [← iI_nat]
      congr 1
      omega
    refine ok_f (fun g => by rw [show (0 : Int32) = iI 0 from rfl, iI_lt (by omega) (by omega) (by decide) (by decide)] at g; omega) ?_
    have e8 : iI (8 * (s.length : Int) - 8 - 8 * i) + (-8) = iI (8 * (s.length : Int) - 8 - 8 * (i + 1 : Nat)) := by
      rw [show (-8 : Int32) = iI (-8) from rfl, iI_add]
      congr 1
      omega
    rw [e8, ei, hch i hi']
    refine ok_b (mod_lay hl (by rw [e]; exact hs _ (List.getElem_mem hi')) (by omega) hN) (fun v hv => ?_)
    refine ok_m (mod_word_9 hN hs9 hch hs d m (i + 1) _ _ _ (by omega) (by omega) hv (by rw [List.length_append]; show l.length + 1 + d ≤ N; omega)) (fun r hr => ?_)
    rw [List.drop_eq_getElem_cons hi', ← e]
    rw [List.append_assoc] at hr
    exact hr
theorem mod_word {X : Int64} {x3 : Int32} {s l : List Nat} {k : Int32} {a : Nat → Int32} (hN : N < 2 ^ 31) (hfu : 10 < fu) (hs9 : s.length ≤ 8) (h3 : 8 * x3 - 8 = iI (8 * (s.length : Int) - 8)) (hch : ∀ i, i < s.length → (((X >>> ((nI (8 * (s.length - 1 - i))).toInt64 &&& 63)) &&& 255).toInt32) = nI (s.getD i 0)) (hs : ∀ c, c ∈ s → c < 128) (hl : tl l k a) (hb : l.length + s.length ≤ N) :
    ok (f_Mod_layWord fu N X x3 k a) (fun r => tl (l ++ s) r.1 r.2) := by
  unfold f_Mod_layWord
  rw [h3]
  refine ok_l ?_
  have := mod_word_9 (fu := fu) (x3 := x3) hN hs9 hch hs s.length fu 0 l k a (by omega) (by omega) hl hb
  rw [show 8 * (s.length : Int) - 8 - 8 * ((0 : Nat) : Int) = 8 * (s.length : Int) - 8 by omega] at this
  exact this
def w_nan : List Nat := [78, 97, 78]
def w_inf : List Nat := [73, 110, 102, 105, 110, 105, 116, 121]
def w_zero : List Nat := [48, 46, 48]
theorem row_nan {l : List Nat} {k : Int32} {a : Nat → Int32} (hN : N < 2 ^ 31) (hfu : 10 < fu) (hl : tl l k a) (hb : l.length + 3 ≤ N) : ok (f_Row_putAll fu N 0 k a) (fun r => tl (l ++ w_nan) r.1 r.2) :=
  row_all (s := w_nan) hN (Nat.lt_trans (by decide) hfu) (by decide +kernel) (by decide) (by decide +kernel) (by decide) hl hb
theorem row_inf {l : List Nat} {k : Int32} {a : Nat → Int32} (hN : N < 2 ^ 31) (hfu : 10 < fu) (hl : tl l k a) (hb : l.length + 8 ≤ N) : ok (f_Row_putAll fu N 1 k a) (fun r => tl (l ++ w_inf) r.1 r.2) :=
  row_all (s := w_inf) hN (Nat.lt_trans (by decide) hfu) (by decide +kernel) (by decide) (by decide +kernel) (by decide) hl hb
theorem row_zero {l : List Nat} {k : Int32} {a : Nat → Int32} (hN : N < 2 ^ 31) (hfu : 10 < fu) (hl : tl l k a) (hb : l.length + 3 ≤ N) : ok (f_Row_putAll fu N 2 k a) (fun r => tl (l ++ w_zero) r.1 r.2) :=
  row_all (s := w_zero) hN (Nat.lt_trans (by decide) hfu) (by decide +kernel) (by decide) (by decide +kernel) (by decide) hl hb
theorem mod_nan {l : List Nat} {k : Int32} {a : Nat → Int32} (hN : N < 2 ^ 31) (hfu : 10 < fu) (hl : tl l k a) (hb : l.length + 3 ≤ N) : ok (f_Mod_layWord fu N 5136718 3 k a) (fun r => tl (l ++ w_nan) r.1 r.2) :=
  mod_word (s := w_nan) hN hfu (by decide) (by decide +kernel) (by decide +kernel) (by decide) hl hb
theorem mod_inf {l : List Nat} {k : Int32} {a : Nat → Int32} (hN : N < 2 ^ 31) (hfu : 10 < fu) (hl : tl l k a) (hb : l.length + 8 ≤ N) : ok (f_Mod_layWord fu N 5291279215216915577 8 k a) (fun r => tl (l ++ w_inf) r.1 r.2) :=
  mod_word (s := w_inf) hN hfu (by decide) (by decide +kernel) (by decide +kernel) (by decide) hl hb
theorem mod_zero {l : List Nat} {k : Int32} {a : Nat → Int32} (hN : N < 2 ^ 31) (hfu : 10 < fu) (hl : tl l k a) (hb : l.length + 3 ≤ N) : ok (f_Mod_layWord fu N 3157552 3 k a) (fun r => tl (l ++ w_zero) r.1 r.2) :=
  mod_word (s := w_zero) hN hfu (by decide) (by decide +kernel) (by decide +kernel) (by decide) hl hb
end Word
/-- a number without its last zeros, and how many digits are left -/
theorem dig_ex1 : ∀ (n D : Nat), D ≤ n → 0 < D → ∃ D' z, D = D' * 10 ^ z ∧ ¬ D' % 10 = 0
  | 0, D, h, h0 => by omega
  | n + 1, D, h, h0 => by
    by_cases q : D % 10 = 0
    · obtain ⟨D', z, e1, e2⟩ := dig_ex1 n (D / 10) (by omega) (by omega)
      refine ⟨D', z + 1, ?_, e2⟩
      rw [Nat.pow_succ, ← Nat.mul_assoc, ← e1]
      omega
    · exact ⟨D, 0, by rw [Nat.pow_zero, Nat.mul_one], q⟩
theorem dig_ex2 : ∀ (n D : Nat), D ≤ n → 0 < D → ∃ w, 0 < w ∧ 10 ^ (w - 1) ≤ D ∧ D < 10 ^ w
  | 0, D, h, h0 => by omega
  | n + 1, D, h, h0 => by
    by_cases q : D < 10
    · exact ⟨1, by decide, h0, q⟩
    · obtain ⟨w, e1, e2, e3⟩ := dig_ex2 n (D / 10) (by omega) (by omega)
      obtain ⟨v, rfl⟩ : ∃ v, w = v + 1 := ⟨w - 1, by omega⟩
      refine ⟨v + 1 + 1, by omega, ?_, ?_⟩
      · rw [Nat.add_sub_cancel, Nat.pow_succ]
        rw [Nat.add_sub_cancel] at e2
        omega
      · rw [Nat.pow_succ]
        omega
theorem dig_ex {D : Nat} (h0 : 0 < D) (h : D ≤ 10 ^ 17) : ∃ D' z w, D = D' * 10 ^ z ∧ dig D' w ∧ z + w ≤ 18 := by
  obtain ⟨D', z, e1, e2⟩ := dig_ex1 D D (Nat.le_refl D) h0
  have hD : 0 < D' := by
    rcases Nat.eq_zero_or_pos D' with q | q
    · subst q; exact absurd rfl e2
    · exact q
  obtain ⟨w, w1, w2, w3⟩ := dig_ex2 D' D' (Nat.le_refl D') hD
  refine ⟨D', z, w, e1, ⟨w1, w2, w3, e2⟩, ?_⟩
  have h1 : 10 ^ (w - 1 + z) ≤ 10 ^ 17 := by
    rw [Nat.pow_add]
    exact Nat.le_trans (Nat.mul_le_mul_right _ w2) (by rw [← e1]; exact h)
  have := (Nat.pow_le_pow_iff_right (show 1 < 10 by decide)).mp h1
  omega
