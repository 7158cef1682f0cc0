-- what is written, as a list of letters
def tl (l : List Nat) (k : Int32) (a : Nat → Int32) : Prop := k = nI l.length ∧ (∀ i, i < l.length → a i = nI (l.getD i 0)) ∧ (∀ c, c ∈ l → c < 128)
theorem nar_c {c : Nat} (h : c < 65536) : vp_nar .char (nI c) = nI c := by
  have e : nI c = ((nI c).toUInt32 % 65536).toInt32 := by
    rw [pk_char, pk_tn (by omega), Nat.mod_eq_of_lt h]
  rw [e, pk_vc]
theorem tl_put {l : List Nat} {c : Nat} {k : Int32} {a : Nat → Int32} (h : tl l k a) (hc : c < 128) (hl : l.length < 2 ^ 31) : tl (l ++ [c]) (k + 1) (upd a k.toNatClampNeg (nI c)) := by
  obtain ⟨rfl, h2, h3⟩ := h
  rw [nI_clamp hl]
  refine ⟨?_, ?_, ?_⟩
  · rw [nI_1, List.length_append]; rfl
  · intro i hi
    rw [List.length_append, List.length_singleton] at hi
    by_cases q : i = l.length
    · subst q
      rw [pk_us]
      simp [List.getD]
    · rw [pk_un q, h2 i (by omega)]
      simp [List.getD, List.getElem?_append_left (show i < l.length by omega)]
  · intro x hx
    rw [List.mem_append, List.mem_singleton] at hx
    rcases hx with q | q
    · exact h3 x q
    · omega
theorem row_put {N c : Nat} {l : List Nat} {k : Int32} {a : Nat → Int32} (h : tl l k a) (hc : c < 128) (hl : l.length < N) (hN : N < 2 ^ 31) : ok (f_Row_put N (nI c) k a) (fun r => tl (l ++ [c]) r.1 r.2) := by
  have ht := tl_put h hc (by omega)
  obtain ⟨rfl, h2, h3⟩ := h
  unfold f_Row_put
  refine ok_f (nI_ge hl hN) ?_
  rw [if_pos (in_N hl hN), nar_c (by omega)]
  exact ok_s ht
theorem mod_lay {N c : Nat} {l : List Nat} {k : Int32} {a : Nat → Int32} (h : tl l k a) (hc : c < 128) (hl : l.length < N) (hN : N < 2 ^ 31) : ok (f_Mod_lay N (nI c) k a) (fun r => tl (l ++ [c]) r.1 r.2) := by
  have ht := tl_put h hc (by omega)
  obtain ⟨rfl, h2, h3⟩ := h
  unfold f_Mod_lay
  rw [if_pos (in_N hl hN)]
  exact ok_s ht
/-- digit i from the front, of w digits of D -/
def dAt (D w : Nat) (i : Int) : Nat := if 0 ≤ i ∧ i < w then D / 10 ^ (w - 1 - i.toNat) % 10 else 0
theorem dAt_lt (D w : Nat) (i : Int) : dAt D w i < 10 := by
  unfold dAt
  by_cases h : 0 ≤ i ∧ i < w
  · rw [if_pos h]; omega
  · rw [if_neg h]; omega
def dgs (D w : Nat) : Int → Nat → List Nat
  | _, 0 => []
  | i, c + 1 => (48 + dAt D w i) :: dgs D w (i + 1) c
theorem dgs_len (D w : Nat) : ∀ (c : Nat) (i : Int), (dgs D w i c).length = c
  | 0, _ => rfl
  | c + 1, i => by
    show (dgs D w (i + 1) c).length + 1 = c + 1
    rw [dgs_len D w c (i + 1)]
theorem dgs_z (D w c : Nat) : ∀ z : Nat, dgs D w (-z) (z + c) = List.replicate z 48 ++ dgs D w 0 c
  | 0 => by
    rw [show (-((0 : Nat) : Int)) = 0 by rfl, Nat.zero_add]
    rfl
  | z + 1 => by
    rw [show z + 1 + c = (z + c) + 1 by omega]
    show (48 + dAt D w (-((z + 1 : Nat) : Int))) :: dgs D w (-((z + 1 : Nat) : Int) + 1) (z + c) = _
    rw [show -((z + 1 : Nat) : Int) + 1 = -(z : Int) by omega, dgs_z D w c z]
    unfold dAt
    rw [if_neg (by omega)]
    rfl
section Dec
variable {fu N D w : Nat} {rev : Nat → Int32}
theorem dec_at {i : Int} (hw : w ≤ 20) (hr : ∀ i, i < w → rev i = nI (D / 10 ^ i % 10)) (h1 : -10000 ≤ i) (h2 : i ≤ 10000) : f_Dec_digitAt 20 (iI i) (nI w) rev = some (nI (dAt D w i)) := by
  unfold f_Dec_digitAt dAt
  have e0 : (iI i < 0) ↔ i < 0 := iI_lt (b := 0) (by omega) (by omega) (by decide) (by decide)
  by_cases q : i < 0
  · rw [if_pos (e0.mpr q), if_neg (by omega)]; rfl
  · rw [if_neg (fun g => q (e0.mp g))]
    obtain ⟨j, rfl⟩ : ∃ j : Nat, i = j := ⟨i.toNat, by omega⟩
    rw [iI_nat]
    by_cases g : w ≤ j
    · rw [if_pos (nI_le g (by omega)), if_neg (by omega)]; rfl
    · rw [if_neg (nI_ge (by omega) (by omega)), if_pos (show 0 ≤ (j : Int) ∧ (j : Int) < (w : Int) by omega), Int.toNat_natCast]
      obtain ⟨v, rfl⟩ : ∃ v, w = v + 1 := ⟨w - 1, by omega⟩
      rw [nI_pred, pk_sub (by omega), if_pos (in_N (by omega) (by decide)), nI_clamp (by omega), hr _ (by omega), Nat.add_sub_cancel]
theorem ch_48 {d : Nat} (h : d < 100) : ((48 + nI d).toUInt32 % 65536).toInt32 = nI (48 + d) := by
  rw [show (48 : Int32) = nI 48 from rfl, nI_add, pk_char, pk_tn (by omega), Nat.mod_eq_of_lt (by omega)]
theorem dec_digits_3 {x2 : Int32} {to : Int} (hw : w ≤ 20) (hN : N < 2 ^ 31) (hr : ∀ i, i < w → rev i = nI (D / 10 ^ i % 10)) (ht : to ≤ 10000) :
    ∀ (d n : Nat) (i : Int) (l : List Nat) (k : Int32) (a : Nat → Int32), i + d = to → d < n → -10000 ≤ i → tl l k a → l.length + d ≤ N →
    ok (f_Dec_putDigits_3 fu 20 N x2 (iI to) (nI w) rev n (iI i) k a) (fun r => tl (l ++ dgs D w i d) r.1 r.2)
  | d, 0, _, _, _, _, _, h, _, _, _ => by omega
  | 0, n + 1, i, l, k, a, hi, _, h1, hl, _ => by
    rw [f_Dec_putDigits_3_s]
    refine ok_t ((iI_le (by omega) (by omega) (by omega) (by omega)).mpr (by omega)) (ok_s ?_)
    show tl (l ++ []) k a
    rw [List.append_nil]
    exact hl
  | d + 1, n + 1, i, l, k, a, hi, hn, h1, hl, hb => by
    rw [f_Dec_putDigits_3_s]
    have hd := dAt_lt D w i
    refine ok_f (fun g => by rw [iI_le (by omega) (by omega) (by omega) (by omega)] at g; omega) ?_
    refine ok_be (dec_at hw hr h1 (by omega)) ?_
    rw [ch_48 (by omega)]
    refine ok_b (row_put hl (by omega) (by omega) hN) (fun v hv => ?_)
    rw [show (1 : Int32) = iI 1 from rfl, iI_add]
    refine ok_m (dec_digits_3 hw hN hr ht d n (i + 1) _ _ _ (by omega) (by omega) (by omega) hv (by rw [List.length_append]; show l.length + 1 + d ≤ N; omega)) (fun r hr => ?_)
    rw [List.append_assoc] at hr
    exact hr
theorem dec_digits {lo to : Int} {d : Nat} {l : List Nat} {k : Int32} {a : Nat → Int32} (hfu : 100 < fu) (hw : w ≤ 20) (hN : N < 2 ^ 31) (hr : ∀ i, i < w → rev i = nI (D / 10 ^ i % 10)) (ht : to ≤ 10000) (hd : lo + d = to) (hd2 : d ≤ 100) (h1 : -10000 ≤ lo) (hl : tl l k a) (hb : l.length + d ≤ N) :
    ok (f_Dec_putDigits fu 20 N (iI lo) (iI to) (nI w) rev k a) (fun r => tl (l ++ dgs D w lo d) r.1 r.2) := by
  unfold f_Dec_putDigits
  exact dec_digits_3 hw hN hr ht d fu lo l k a hd (by omega) h1 hl hb
/-- an exponent's letters -/
def expo (s : Nat) : List Nat := (if 100 ≤ s then [48 + s / 100 % 10] else []) ++ ((if 10 ≤ s then [48 + s / 10 % 10] else []) ++ [48 + s % 10])
theorem dec_e1 {x1 : Int32} {s u m : Nat} {l : List Nat} {k : Int32} {a : Nat → Int32} {Q : Int32 × (Nat → Int32) → Prop} (hN : N < 2 ^ 31) (hs : s < 1000) (hu : 0 < u) (hu2 : u ≤ 100) (hl : tl l k a) (hb : l.length < N)
    (kk : ∀ k' a', tl (l ++ (if u ≤ s ∨ u = 1 then [48 + s / u % 10] else [])) k' a' → ok (f_Dec_putExponent_18 fu N x1 m (nI s) (nI (u / 10)) k' a') Q) :
    ok (f_Dec_putExponent_18 fu N x1 (m + 1) (nI s) (nI u) k a) Q := by
  rw [f_Dec_putExponent_18_s]
  have e10 : nI u / 10 = nI (u / 10) := by
    rw [show (10 : Int32) = nI 10 from rfl, pk_div (by omega) (by decide) (by decide)]
  refine ok_f (nI_nle hu (by omega)) ?_
  have t32 : (u ≤ s ∨ u = 1) → ok (f_Dec_putExponent_32 fu N x1 (f_Dec_putExponent_18 fu N x1 m) (nI s) (nI u) k a) Q := by
    intro g
    rw [if_pos g] at kk
    unfold f_Dec_putExponent_32
    rw [if_pos (nI_ne0 hu (by omega))]
    have hd : s / u ≤ s := Nat.div_le_self _ _
    rw [pk_div (by omega) hu (by omega), show (10 : Int32) = nI 10 from rfl, pk_rem (by omega) (by decide) (by decide), ch_48 (by omega)]
    refine ok_b (row_put hl (by omega) hb hN) (fun v hv => ?_)
    unfold f_Dec_putExponent_46
    rw [e10]
    exact ok_l (kk _ _ hv)
  refine ok_ii (nI_leI (by omega) (by omega)) (fun g => t32 (Or.inl g)) (fun g => ?_)
  refine ok_ii (nI_eq (b := 1) (by omega) (by decide)) (fun g2 => t32 (Or.inr g2)) (fun g2 => ?_)
  rw [if_neg (by omega), List.append_nil] at kk
  unfold f_Dec_putExponent_46
  rw [e10]
  exact ok_l (kk _ _ hl)
theorem dec_exp {e : Int} {l : List Nat} {k : Int32} {a : Nat → Int32} (hfu : 100 < fu) (hN : N < 2 ^ 31) (h1 : -1000 < e) (h2 : e < 1000) (hl : tl l k a) (hb : l.length + 4 ≤ N) :
    ok (f_Dec_putExponent fu N (iI e) k a) (fun r => tl (l ++ ((if e < 0 then [45] else []) ++ expo e.natAbs)) r.1 r.2) := by
  have tail : ∀ (l : List Nat) (k : Int32) (a : Nat → Int32) (s : Nat), s < 1000 → tl l k a → l.length + 3 ≤ N → ok (f_Dec_putExponent_15 fu N (iI e) (nI s) k a) (fun r => tl (l ++ expo s) r.1 r.2) := by
    intro l k a s hs hl hb
    unfold f_Dec_putExponent_15
    obtain ⟨m, rfl⟩ : ∃ m, fu = m + 1 + 1 + 1 + 1 := ⟨fu - 4, by omega⟩
    refine dec_e1 (u := 100) hN hs (by decide) (by decide) hl (by omega) (fun k1 a1 hl1 => ?_)
    refine dec_e1 (u := 10) hN hs (by decide) (by decide) hl1 ?_ (fun k2 a2 hl2 => ?_)
    · rw [List.length_append]
      have : (if 100 ≤ s ∨ 100 = 1 then [48 + s / 100 % 10] else []).length ≤ 1 := by split <;> simp
      omega
    refine dec_e1 (u := 1) hN hs (by decide) (by decide) hl2 ?_ (fun k3 a3 hl3 => ?_)
    · rw [List.length_append, List.length_append]
      have t1 : (if 100 ≤ s ∨ 100 = 1 then [48 + s / 100 % 10] else []).length ≤ 1 := by split <;> simp
      have t2 : (if 10 ≤ s ∨ 10 = 1 then [48 + s / 10 % 10] else []).length ≤ 1 := by split <;> simp
      omega
    rw [f_Dec_putExponent_18_s]
    refine ok_t (by decide) (ok_s ?_)
    show tl (l ++ expo s) k3 a3
    have eq : l ++ expo s = l ++ (if 100 ≤ s ∨ 100 = 1 then [48 + s / 100 % 10] else []) ++ (if 10 ≤ s ∨ 10 = 1 then [48 + s / 10 % 10] else []) ++ (if 1 ≤ s ∨ 1 = 1 then [48 + s / 1 % 10] else []) := by
      unfold expo
      simp
    rw [eq]
    exact hl3
  unfold f_Dec_putExponent f_Mat_abs
  have e0 : (0 ≤ iI e) ↔ 0 ≤ e := iI_le (a := 0) (by decide) (by decide) (by omega) (by omega)
  by_cases q : 0 ≤ e
  · obtain ⟨s, rfl⟩ : ∃ s : Nat, e = s := ⟨e.toNat, by omega⟩
    rw [if_pos (e0.mpr q)]
    refine ok_be (v := iI (s : Int)) rfl (ok_t (e0.mpr q) ?_)
    rw [if_neg (by omega), List.nil_append, Int.natAbs_natCast]
    have := tail l k a s (by omega) hl (by omega)
    rw [iI_nat] at this ⊢
    exact this
  · obtain ⟨s, hs⟩ : ∃ s : Nat, -e = s := ⟨(-e).toNat, by omega⟩
    rw [if_neg (fun g => q (e0.mp g)), iI_neg, hs]
    refine ok_be (v := iI (s : Int)) rfl (ok_f (fun g => q (e0.mp g)) ?_)
    refine ok_b (row_put (c := 45) hl (by decide) (by omega) hN) (fun v hv => ?_)
    rw [if_pos (by omega), ← List.append_assoc, show e.natAbs = s by omega]
    have := tail (l ++ [45]) v.1 v.2 s (by omega) hv (by rw [List.length_append]; show l.length + 1 + 3 ≤ N; omega)
    rw [← iI_nat] at this
    exact this
end Dec
