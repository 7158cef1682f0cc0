-- the reference's layout
section MLay
variable {fu N D w : Nat}
theorem mlay_66 {x1 : Int64} {x3 x4 x5 : Int32} {s3 : Int32 → Int32 → (Nat → Int32) → Option (Int32 × (Nat → Int32))} {i c : Nat} {l : List Nat} {k : Int32} {a : Nat → Int32} {Q : Int32 × (Nat → Int32) → Prop} (hN : N < 2 ^ 31) (hl : tl l k a) (hc : c < 128) (hb : l.length < N)
    (kk : ∀ k' a', tl (l ++ [c]) k' a' → ok (s3 (nI (i + 1)) k' a') Q) : ok (f_Mod_layDigits_66 fu N x1 x3 x4 x5 s3 (nI i) (nI c) k a) Q := by
  unfold f_Mod_layDigits_66
  refine ok_b (mod_lay hl hc hb hN) (fun v hv => ?_)
  rw [nI_1]
  exact kk _ _ hv
theorem mlay_19 {x3 x4 : Int32} {s3 : Int32 → Int32 → (Nat → Int32) → Option (Int32 × (Nat → Int32))} {i : Nat} {l : List Nat} {k : Int32} {a : Nat → Int32} {Q : Int32 × (Nat → Int32) → Prop} (hN : N < 2 ^ 31) (hw : w ≤ 18) (hD : D < 2 ^ 63) (hi : i < 100) (hl : tl l k a) (hb : l.length < N)
    (kk : ∀ k' a', tl (l ++ [48 + dAt D w i]) k' a' → ok (s3 (nI (i + 1)) k' a') Q) :
    ∀ (e m t : Nat), (i + 1 + t + e = w ∨ (e = 0 ∧ t = 0 ∧ w ≤ i)) → e < m → ok (f_Mod_layDigits_19 fu N (lN D) x3 x4 (nI w) s3 m (nI i) (lN (10 ^ t)) (nI (i + 1 + t)) k a) Q
  | e, 0, _, _, h => by omega
  | 0, m + 1, t, ht, _ => by
    rw [f_Mod_layDigits_19_s]
    refine ok_t (nI_le (by omega) (by omega)) ?_
    refine ok_ii (nI_leI (by omega) (by omega)) (fun g => ?_) (fun g => ?_)
    · refine mlay_66 (c := 48) hN hl (by decide) hb (fun k' a' h' => kk k' a' ?_)
      unfold dAt
      rw [if_neg (by omega)]
      exact h'
    · have ht' : t = w - 1 - i := by omega
      have hp : 10 ^ t ≤ 10 ^ 17 := Nat.pow_le_pow_right (by decide) (by omega)
      have hp0 : 0 < 10 ^ t := Nat.pow_pos (by decide)
      have hdl : D / 10 ^ t ≤ D := Nat.div_le_self _ _
      rw [if_pos (fun q => by rw [show (0 : Int64) = lN 0 from rfl, pk_lEQ (by omega) (by decide)] at q; omega)]
      rw [pk_lDiv (by omega) hp0 (by omega), l_rem10 (by omega), show (48 : Int64) = lN 48 from rfl, lN_add, lN_i]
      refine mlay_66 hN hl (by omega) hb (fun k' a' h' => kk k' a' ?_)
      unfold dAt
      rw [if_pos (by omega), Int.toNat_natCast, ← ht']
      exact h'
  | e + 1, m + 1, t, ht, hm => by
    rw [f_Mod_layDigits_19_s]
    refine ok_f (nI_ge (by omega) (by omega)) ?_
    rw [show (10 : Int64) = lN 10 from rfl, lN_mul, ← Nat.pow_succ, nI_1]
    refine ok_l ?_
    exact mlay_19 hN hw hD hi hl hb kk e m (t + 1) (by omega) (by omega)
theorem mlay_3 {x3 : Int32} {to : Nat} (hfu : 100 < fu) (hN : N < 2 ^ 31) (hw : w ≤ 18) (hD : D < 2 ^ 63) (ht : to ≤ 100) :
    ∀ (d m i : Nat) (l : List Nat) (k : Int32) (a : Nat → Int32), i + d = to → d < m → tl l k a → l.length + d ≤ N →
    ok (f_Mod_layDigits_3 fu N (lN D) x3 (nI to) (nI w) m (nI i) k a) (fun r => tl (l ++ dgs D w i d) r.1 r.2)
  | d, 0, _, _, _, _, _, h, _, _ => by omega
  | 0, m + 1, i, l, k, a, hi, _, hl, _ => by
    rw [f_Mod_layDigits_3_s]
    refine ok_t (nI_le (by omega) (by omega)) (ok_s ?_)
    show tl (l ++ []) k a
    rw [List.append_nil]
    exact hl
  | d + 1, m + 1, i, l, k, a, hi, hm, hl, hb => by
    rw [f_Mod_layDigits_3_s]
    refine ok_f (nI_ge (by omega) (by omega)) ?_
    rw [nI_1]
    refine ok_l ?_
    have go := mlay_19 (fu := fu) (D := D) (i := i) (x3 := x3) (x4 := nI to) (s3 := f_Mod_layDigits_3 fu N (lN D) x3 (nI to) (nI w) m) (Q := fun r => tl (l ++ dgs D w i (d + 1)) r.1 r.2) hN hw hD (by omega) hl (by omega) (fun k' a' h' => by
      refine ok_m (mlay_3 hfu hN hw hD ht d m (i + 1) _ _ _ (by omega) (by omega) h' (by rw [List.length_append]; show l.length + 1 + d ≤ N; omega)) (fun r hr => ?_)
      rw [List.append_assoc] at hr
      exact hr) (w - (i + 1)) fu 0 (by omega) (by omega)
    exact go
theorem mlay_dg {lo to d : Nat} {l : List Nat} {k : Int32} {a : Nat → Int32} (hfu : 100 < fu) (hN : N < 2 ^ 31) (hw : w ≤ 18) (hD : D < 2 ^ 63) (ht : to ≤ 99) (hd : lo + d = to) (hl : tl l k a) (hb : l.length + d ≤ N) :
    ok (f_Mod_layDigits fu N (lN D) (nI lo) (nI to) (nI w) k a) (fun r => tl (l ++ dgs D w lo d) r.1 r.2) := by
  unfold f_Mod_layDigits
  exact mlay_3 hfu hN hw hD (by omega) d fu lo l k a hd (by omega) hl hb
theorem mlay_n1 {s u m : Nat} {l : List Nat} {k : Int32} {a : Nat → Int32} {Q : Int32 × (Nat → Int32) → Prop} (hN : N < 2 ^ 31) (hs : s < 1000) (hu : 0 < u) (hu2 : u ≤ 100) (hl : tl l k a) (hb : l.length < N)
    (kk : ∀ k' a', tl (l ++ [48 + s / u % 10]) k' a' → ok (f_Mod_layNumber_18 fu N (nI s) m (nI (u / 10)) k' a') Q) :
    ok (f_Mod_layNumber_18 fu N (nI s) (m + 1) (nI u) k a) Q := by
  rw [f_Mod_layNumber_18_s]
  have e10 : nI u / 10 = nI (u / 10) := by
    rw [show (10 : Int32) = nI 10 from rfl, pk_div (by omega) (by decide) (by decide)]
  have hd : s / u ≤ s := Nat.div_le_self _ _
  refine ok_f (nI_nle hu (by omega)) ?_
  rw [if_pos (nI_ne0 hu (by omega))]
  have ec : (48 : Int32) + (nI s / nI u - nI s / nI u / 10 * 10) = nI (48 + s / u % 10) := by
    rw [pk_div (by omega) hu (by omega), show (10 : Int32) = nI 10 from rfl, pk_rem (by omega) (by decide) (by decide), show (48 : Int32) = nI 48 from rfl, nI_add]
  rw [ec, e10]
  refine ok_b (mod_lay hl (by omega) hb hN) (fun v hv => ok_l (kk _ _ hv))
theorem mlay_num {s : Nat} {l : List Nat} {k : Int32} {a : Nat → Int32} (hfu : 100 < fu) (hN : N < 2 ^ 31) (hs : s < 1000) (hl : tl l k a) (hb : l.length + 3 ≤ N) :
    ok (f_Mod_layNumber fu N (nI s) k a) (fun r => tl (l ++ expo s) r.1 r.2) := by
  obtain ⟨m, rfl⟩ : ∃ m, fu = m + 1 + 1 + 1 + 1 := ⟨fu - 4, by omega⟩
  unfold f_Mod_layNumber
  have base : ∀ (m' : Nat) (l' : List Nat) (k' : Int32) (a' : Nat → Int32), tl l' k' a' → ok (f_Mod_layNumber_18 (m + 1 + 1 + 1 + 1) N (nI s) (m' + 1) (nI (1 / 10)) k' a') (fun r => tl l' r.1 r.2) := by
    intro m' l' k' a' h'
    rw [f_Mod_layNumber_18_s]
    exact ok_t (by decide) (ok_s h')
  have st : ∀ (u : Nat), 0 < u → u ≤ 100 → (nI s / nI u ≤ 9 ↔ s / u ≤ 9) := by
    intro u hu hu2
    have hd : s / u ≤ s := Nat.div_le_self _ _
    rw [pk_div (by omega) hu (by omega)]
    exact nI_leI (b := 9) (by omega) (by decide)
  have ml : ∀ u : Nat, u ≤ 100 → nI u * 10 = nI (u * 10) := fun u _ => by rw [show (10 : Int32) = nI 10 from rfl, pk_mul]
  rw [f_Mod_layNumber_2_s, if_pos (by decide)]
  refine ok_ii (st 1 (by decide) (by decide)) (fun g => ?_) (fun g => ?_)
  · rw [Nat.div_one] at g
    refine mlay_n1 (u := 1) hN hs (by decide) (by decide) hl (by omega) (fun k1 a1 h1 => ?_)
    refine ok_m (base _ _ _ _ h1) (fun r hr => ?_)
    unfold expo
    rw [if_neg (by omega), if_neg (by omega)]
    rw [Nat.div_one] at hr
    exact hr
  · rw [Nat.div_one] at g
    have e1 : (1 : Int32) * 10 = nI 10 := by decide
    rw [e1]
    refine ok_l ?_
    rw [f_Mod_layNumber_2_s, if_pos (by decide)]
    refine ok_ii (st 10 (by decide) (by decide)) (fun g2 => ?_) (fun g2 => ?_)
    · refine mlay_n1 (u := 10) hN hs (by decide) (by decide) hl (by omega) (fun k1 a1 h1 => ?_)
      refine mlay_n1 (u := 1) hN hs (by decide) (by decide) h1 (by rw [List.length_append]; show l.length + 1 < N; omega) (fun k2 a2 h2 => ?_)
      refine ok_m (base _ _ _ _ h2) (fun r hr => ?_)
      unfold expo
      rw [if_neg (by omega), if_pos (by omega)]
      rw [Nat.div_one, List.append_assoc] at hr
      exact hr
    · have e2 : nI 10 * 10 = nI 100 := by decide
      rw [e2]
      refine ok_l ?_
      rw [f_Mod_layNumber_2_s, if_pos (by decide)]
      refine ok_ii (st 100 (by decide) (by decide)) (fun g3 => ?_) (fun g3 => by omega)
      refine mlay_n1 (u := 100) hN hs (by decide) (by decide) hl (by omega) (fun k1 a1 h1 => ?_)
      refine mlay_n1 (u := 10) hN hs (by decide) (by decide) h1 (by rw [List.length_append]; show l.length + 1 < N; omega) (fun k2 a2 h2 => ?_)
      refine mlay_n1 (u := 1) hN hs (by decide) (by decide) h2 (by rw [List.length_append, List.length_append]; show l.length + 1 + 1 < N; omega) (fun k3 a3 h3 => ?_)
      refine ok_m (base _ _ _ _ h3) (fun r hr => ?_)
      unfold expo
      rw [if_pos (by omega), if_pos (by omega)]
      rw [Nat.div_one, List.append_assoc, List.append_assoc] at hr
      exact hr
end MLay
