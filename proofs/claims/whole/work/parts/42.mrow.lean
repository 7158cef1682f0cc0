-- the reference's rows of digits
theorem bI_t {p : Prop} [Decidable p] (h : p) : bI p = 1 := if_pos h
theorem bI_f {p : Prop} [Decidable p] (h : ¬ p) : bI p = 0 := if_neg h
section Row
variable {h : Bool} {fu N M n s : Nat} {a : Nat → Int32} {t0 : Nat × Nat × Nat}
theorem mod_row_4 (ht : tx n a) (hN : 1200 ≤ N) (hN2 : N < 2 ^ 31) (hM : M = 520) (hfu : 1200 < fu) :
    ∀ (k m i E : Nat) (y3 aM : Int32) (g : Int32) (aa : Nat → Int32), i + k = n → k < m → s ≤ E → E ≤ i → (E = s → i = s) → ((fk h (lk n a) s t0 (i - s)).2.1 = 0 ↔ E = s) → (E = s ∨ y3 = bI (E = i)) → (fk h (lk n a) s t0 (i - s)).2.1 ≤ i → (fk h (lk n a) s t0 (i - s)).2.2 ≤ i → (fk h (lk n a) s t0 (i - s)).1 < 16 ^ i → bm M (fk h (lk n a) s t0 (i - s)).1 aM aa →
    ok (f_Mod_row_4 fu N M (hI h) (nI n) a m (nI (fk h (lk n a) s t0 (i - s)).2.1) y3 aM (nI i) (nI (fk h (lk n a) s t0 (i - s)).2.2) g aa) (fun u => u.1 = nI (fk h (lk n a) s t0 ((ru h (lk n a) s k i E).2 - s)).2.1 ∧ bm M (fk h (lk n a) s t0 ((ru h (lk n a) s k i E).2 - s)).1 u.2.1 u.2.2.2.2.2 ∧ u.2.2.1 = nI (ru h (lk n a) s k i E).2 ∧ u.2.2.2.1 = nI (fk h (lk n a) s t0 ((ru h (lk n a) s k i E).2 - s)).2.2 ∧ u.2.2.2.2.1 = (if (ru h (lk n a) s k i E).1 < (ru h (lk n a) s k i E).2 then 0 else g) ∧ (fk h (lk n a) s t0 ((ru h (lk n a) s k i E).2 - s)).2.1 ≤ (ru h (lk n a) s k i E).2 ∧ (fk h (lk n a) s t0 ((ru h (lk n a) s k i E).2 - s)).2.2 ≤ (ru h (lk n a) s k i E).2 ∧ (fk h (lk n a) s t0 ((ru h (lk n a) s k i E).2 - s)).1 < 16 ^ (ru h (lk n a) s k i E).2)
  | k, 0, _, _, _, _, _, _, _, q, _, _, _, _, _, _, _, _, _ => by omega
  | k, m + 1, i, E, y3, aM, g, aa, hi, hm, hsE, hEi, hEs, hcE, hy3, hci, hzi, hvi, hb => by
    have hn := ht.1
    have hlt := lk_lt (i := i) ht
    have hbs := bs_le h
    have stop : ok (f_Mod_row_124 fu N M (hI h) (nI n) a (nI (fk h (lk n a) s t0 (i - s)).2.1) y3 aM (nI i) (nI (fk h (lk n a) s t0 (i - s)).2.2) g aa) (fun u => u.1 = nI (fk h (lk n a) s t0 (i - s)).2.1 ∧ bm M (fk h (lk n a) s t0 (i - s)).1 u.2.1 u.2.2.2.2.2 ∧ u.2.2.1 = nI i ∧ u.2.2.2.1 = nI (fk h (lk n a) s t0 (i - s)).2.2 ∧ u.2.2.2.2.1 = (if E < i then 0 else g) ∧ (fk h (lk n a) s t0 (i - s)).2.1 ≤ i ∧ (fk h (lk n a) s t0 (i - s)).2.2 ≤ i ∧ (fk h (lk n a) s t0 (i - s)).1 < 16 ^ i) := by
      unfold f_Mod_row_124
      refine ok_ii (nI_leI (b := 0) (by omega) (by decide)) (fun q => ?_) (fun q => ?_)
      · have : E = s := hcE.mp (by omega)
        exact ok_s ⟨rfl, hb, rfl, rfl, by dsimp only; rw [if_neg (by have := hEs this; omega)], hci, hzi, hvi⟩
      · have hne : ¬ E = s := fun q2 => q (by have := hcE.mpr q2; omega)
        have hy : y3 = bI (E = i) := by
          rcases hy3 with q2 | q2
          · exact absurd q2 hne
          · exact q2
        rw [hy]
        refine ok_ii bI_0 (fun q2 => ?_) (fun q2 => ?_)
        · exact ok_s ⟨rfl, hb, rfl, rfl, by dsimp only; rw [if_pos (by omega)], hci, hzi, hvi⟩
        · exact ok_s ⟨rfl, hb, rfl, rfl, by dsimp only; rw [if_neg (by omega)], hci, hzi, hvi⟩
    have hf : fk h (lk n a) s t0 (i + 1 - s) = stp h (lk n a i) (fk h (lk n a) s t0 (i - s)) := by
      rw [show i + 1 - s = (i - s) + 1 by omega]
      show stp h (lk n a (s + (i - s))) _ = _
      rw [show s + (i - s) = i by omega]
    rw [f_Mod_row_4_s]
    refine ok_be (mod_look ht hN hN2 (by omega)) (ok_be (mod_dg hlt) ?_)
    cases hd : dg h (lk n a i) with
    | none =>
      have hs2 : stp h (lk n a i) (fk h (lk n a) s t0 (i - s)) = fk h (lk n a) s t0 (i - s) := by unfold stp; rw [hd]
      rw [hs2] at hf
      refine ok_f dI_n2 ?_
      by_cases hgo : lk n a i = 95 ∧ ¬ E = s
      · -- a _ after a digit
        have hin : i < n := lk_n (a := a) (by rw [hgo.1]; decide)
        obtain ⟨k', rfl⟩ : ∃ k', k = k' + 1 := ⟨k - 1, by omega⟩
        have hru : ru h (lk n a) s (k' + 1) i E = ru h (lk n a) s k' (i + 1) E := by
          show (if (dg h (lk n a i)).isSome = true then _ else if lk n a i = 95 ∧ ¬ E = s then _ else _) = _
          rw [hd, if_neg (show ¬ (none : Option Nat).isSome = true by simp), if_pos hgo]
        have hc0 : ¬ (fk h (lk n a) s t0 (i - s)).2.1 = 0 := fun q => hgo.2 (hcE.mp q)
        refine ok_f (fun q => hc0 (by rw [show (0 : Int32) = nI 0 from rfl, nI_leI (by omega) (by decide)] at q; omega)) (ok_be (mod_look ht hN hN2 (by omega)) (ok_t (by rw [hgo.1]; rfl) ?_))
        unfold f_Mod_row_28
        refine ok_be (mod_look ht hN hN2 (by omega)) (ok_t (by rw [hgo.1]; rfl) ?_)
        unfold f_Mod_row_42
        refine ok_t rfl ?_
        unfold f_Mod_row_111
        rw [nI_1]
        have hp16 : 16 ^ i ≤ 16 ^ (i + 1) := Nat.pow_le_pow_right (by decide) (by omega)
        have := mod_row_4 ht hN hN2 hM hfu k' m (i + 1) E 0 aM g aa (by omega) (by omega) hsE (by omega) (fun q => absurd q hgo.2) (by rw [hf]; exact hcE) (Or.inr (bI_f (by omega)).symm) (by rw [hf]; omega) (by rw [hf]; omega) (by rw [hf]; omega) (by rw [hf]; exact hb)
        rw [hf] at this
        rw [hru]
        exact this
      · have hru : ru h (lk n a) s k i E = (E, i) := by
          cases k with
          | zero => rfl
          | succ k' =>
            show (if (dg h (lk n a i)).isSome = true then _ else if lk n a i = 95 ∧ ¬ E = s then _ else _) = _
            rw [hd, if_neg (show ¬ (none : Option Nat).isSome = true by simp), if_neg hgo]
        rw [hru]
        refine ok_if (fun q => stop) (fun q => ?_)
        refine ok_be (mod_look ht hN hN2 (by omega)) (ok_f (fun q2 => ?_) stop)
        replace q2 := (li_eq (k := 95) rfl hlt (by decide)).mp q2
        have hne : ¬ E = s := fun q3 => q (by rw [hcE.mpr q3]; decide)
        exact hgo ⟨q2, hne⟩
    | some d =>
      have hdl := dg_lt hd
      have hin : i < n := lk_n hdl.2.2.2
      obtain ⟨k', rfl⟩ : ∃ k', k = k' + 1 := ⟨k - 1, by omega⟩
      have hru : ru h (lk n a) s (k' + 1) i E = ru h (lk n a) s k' (i + 1) (i + 1) := by
        show (if (dg h (lk n a i)).isSome = true then _ else _) = _
        rw [hd, if_pos (show (some d).isSome = true from rfl)]
      have hs2 : stp h (lk n a i) (fk h (lk n a) s t0 (i - s)) = ((fk h (lk n a) s t0 (i - s)).1 * bs h + d, (fk h (lk n a) s t0 (i - s)).2.1 + 1, if (fk h (lk n a) s t0 (i - s)).1 * bs h + d = 0 then (fk h (lk n a) s t0 (i - s)).2.2 else (fk h (lk n a) s t0 (i - s)).2.2 + 1) := by unfold stp; rw [hd]
      rw [hs2] at hf
      refine ok_t (dI_s2 (by omega)) ?_
      unfold f_Mod_row_28
      refine ok_be (mod_look ht hN hN2 (by omega)) (ok_f (fun q => hdl.2.1 ((li_eq (k := 95) rfl hlt (by decide)).mp q)) ?_)
      have hv300 : (fk h (lk n a) s t0 (i - s)).1 < 65536 ^ 300 := by
        refine Nat.lt_of_lt_of_le hvi ?_
        rw [show (65536 : Nat) = 16 ^ 4 from rfl, ← Nat.pow_mul]
        exact Nat.pow_le_pow_right (by decide) (by omega)
      have h510 : ¬ 510 ≤ aM := by
        obtain ⟨kk, rfl, q1, _, _, q2⟩ := hb
        have := bg_k (N := M) (by decide) q2 hv300
        exact nI_ge (b := 510) (by omega) (by decide)
      unfold f_Mod_row_42
      refine ok_f (by decide) (ok_f h510 ?_)
      have t77 : ok (f_Mod_row_77 fu N M (hI h) (nI n) a (f_Mod_row_4 fu N M (hI h) (nI n) a m) (nI (fk h (lk n a) s t0 (i - s)).2.1) 1 aM (nI (bs h)) aM (nI i) (nI (fk h (lk n a) s t0 (i - s)).2.2) g aa) (fun u => u.1 = nI (fk h (lk n a) s t0 ((ru h (lk n a) s (k' + 1) i E).2 - s)).2.1 ∧ bm M (fk h (lk n a) s t0 ((ru h (lk n a) s (k' + 1) i E).2 - s)).1 u.2.1 u.2.2.2.2.2 ∧ u.2.2.1 = nI (ru h (lk n a) s (k' + 1) i E).2 ∧ u.2.2.2.1 = nI (fk h (lk n a) s t0 ((ru h (lk n a) s (k' + 1) i E).2 - s)).2.2 ∧ u.2.2.2.2.1 = (if (ru h (lk n a) s (k' + 1) i E).1 < (ru h (lk n a) s (k' + 1) i E).2 then 0 else g) ∧ (fk h (lk n a) s t0 ((ru h (lk n a) s (k' + 1) i E).2 - s)).2.1 ≤ (ru h (lk n a) s (k' + 1) i E).2 ∧ (fk h (lk n a) s t0 ((ru h (lk n a) s (k' + 1) i E).2 - s)).2.2 ≤ (ru h (lk n a) s (k' + 1) i E).2 ∧ (fk h (lk n a) s t0 ((ru h (lk n a) s (k' + 1) i E).2 - s)).1 < 16 ^ (ru h (lk n a) s (k' + 1) i E).2) := by
        unfold f_Mod_row_77
        refine ok_be (mod_look ht hN hN2 (by omega)) (ok_be (mod_dg hlt) ?_)
        rw [hd]
        have hgr := mod_grow (fu := fu) (N := M) (F := bs h) (S := d) (by omega) (by omega) (by omega) (by omega) (by omega) hb (by rw [hM]; exact Nat.lt_of_lt_of_le hv300 (Nat.pow_le_pow_right (by decide) (by decide)))
        refine ok_b hgr (fun r hr => ?_)
        rw [hru]
        unfold f_Mod_row_91
        have hv16 : (fk h (lk n a) s t0 (i - s)).1 * bs h + d < 16 ^ (i + 1) := by
          rw [Nat.pow_succ]
          have h1 : (fk h (lk n a) s t0 (i - s)).1 * bs h + d < ((fk h (lk n a) s t0 (i - s)).1 + 1) * bs h := by rw [Nat.add_mul, Nat.one_mul]; omega
          have h2 : ((fk h (lk n a) s t0 (i - s)).1 + 1) * bs h ≤ 16 ^ i * 16 := Nat.mul_le_mul (by omega) (by omega)
          omega
        have this := mod_row_4 ht hN hN2 hM hfu k' m (i + 1) (i + 1) 1 r.1 g r.2 (by omega) (by omega) (by omega) (by omega) (fun q => by omega) (by rw [hf]; dsimp only; omega) (Or.inr (bI_t rfl).symm) (by rw [hf]; dsimp only; omega) (by rw [hf]; dsimp only; split <;> omega) (by rw [hf]; exact hv16) (by rw [hf]; exact hr)
        rw [hf] at this
        refine ok_ii (bm_pos (by omega) hr) (fun q => ?_) (fun q => ?_)
        · unfold f_Mod_row_111
          dsimp only at this
          rw [if_pos q] at this
          rw [nI_1, nI_1]
          exact this
        · unfold f_Mod_row_111
          dsimp only at this
          rw [if_neg q] at this
          rw [nI_1, nI_1, nI_1]
          exact this
      cases h with
      | false => exact ok_t rfl t77
      | true => exact ok_f (by decide) t77
theorem mod_row {v z : Nat} {g aM : Int32} {aa : Nat → Int32} (ht : tx n a) (hN : 1200 ≤ N) (hN2 : N < 2 ^ 31) (hM : M = 520) (hfu : 1200 < fu) (hs : s ≤ n) (hz : z ≤ s) (hv : v < 16 ^ s) (hb : bm M v aM aa) :
    ok (f_Mod_row fu N M (hI h) (nI n) aM (nI s) (nI z) g a aa) (fun u => u.1 = nI (fk h (lk n a) s (v, 0, z) ((ru h (lk n a) s (n - s) s s).1 - s)).2.1 ∧ bm M (fk h (lk n a) s (v, 0, z) ((ru h (lk n a) s (n - s) s s).1 - s)).1 u.2.1 u.2.2.2.2.2 ∧ u.2.2.1 = nI (ru h (lk n a) s (n - s) s s).2 ∧ u.2.2.2.1 = nI (fk h (lk n a) s (v, 0, z) ((ru h (lk n a) s (n - s) s s).1 - s)).2.2 ∧ u.2.2.2.2.1 = (if (ru h (lk n a) s (n - s) s s).1 < (ru h (lk n a) s (n - s) s s).2 then 0 else g) ∧ (fk h (lk n a) s (v, 0, z) ((ru h (lk n a) s (n - s) s s).1 - s)).2.1 ≤ (ru h (lk n a) s (n - s) s s).2 ∧ (fk h (lk n a) s (v, 0, z) ((ru h (lk n a) s (n - s) s s).1 - s)).2.2 ≤ (ru h (lk n a) s (n - s) s s).2 ∧ (fk h (lk n a) s (v, 0, z) ((ru h (lk n a) s (n - s) s s).1 - s)).1 < 16 ^ (ru h (lk n a) s (n - s) s s).2) := by
  have hn := ht.1
  have hru := ru_f (h := h) (L := lk n a) (s := s) (n - s) s s (Nat.le_refl _) (Nat.le_refl _) (fun j g1 g2 => by omega) (fun _ => rfl)
  have he : fk h (lk n a) s (v, 0, z) ((ru h (lk n a) s (n - s) s s).2 - s) = fk h (lk n a) s (v, 0, z) ((ru h (lk n a) s (n - s) s s).1 - s) := by
    obtain ⟨d, hd⟩ : ∃ d, (ru h (lk n a) s (n - s) s s).2 - s = ((ru h (lk n a) s (n - s) s s).1 - s) + d := ⟨(ru h (lk n a) s (n - s) s s).2 - (ru h (lk n a) s (n - s) s s).1, by omega⟩
    rw [hd, fk_95 d (fun j q1 q2 => hru.2.2.2.2.1 j (by omega) (by omega))]
  have := mod_row_4 (h := h) (fu := fu) (N := N) (M := M) (s := s) (t0 := (v, 0, z)) ht hN hN2 hM hfu (n - s) fu s s 0 aM g aa (by omega) (by omega) (by omega) (by omega) (fun _ => rfl) (by rw [Nat.sub_self]; exact ⟨fun _ => rfl, fun _ => rfl⟩) (Or.inl rfl) (by rw [Nat.sub_self]; exact Nat.zero_le _) (by rw [Nat.sub_self]; exact hz) (by rw [Nat.sub_self]; exact hv) (by rw [Nat.sub_self]; exact hb)
  rw [Nat.sub_self, he] at this
  exact this
end Row
