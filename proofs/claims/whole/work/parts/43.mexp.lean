-- the reference's exponent
section Exp
variable {fu N n s : Nat} {a : Nat → Int32}
theorem ek_m_le {L : Nat → Nat} {k : Nat} : ek em L s k ≤ 100000009 := by
  have := ek_r (L := L) (s := s) k
  unfold er at this
  omega
theorem mod_exp_55 {y1 pw g : Int32} (ht : tx n a) (hN : 1200 ≤ N) (hN2 : N < 2 ^ 31) :
    ∀ (k m i E cnt : Nat) (y4 : Int32), i + k = n → k < m → s ≤ E → E ≤ i → (E = s → i = s) → (cnt = 0 ↔ E = s) → cnt ≤ i → (E = s ∨ y4 = bI (E = i)) →
    ok (f_Mod_exponentRow_55 fu N (nI n) a m y1 (nI cnt) (nI (ek em (lk n a) s (i - s))) y4 (nI i) pw g) (fun u => u.1 = nI (ru false (lk n a) s k i E).2 ∧ u.2.1 = (if y1 = 0 then pw + nI (ek em (lk n a) s ((ru false (lk n a) s k i E).2 - s)) else pw + -nI (ek em (lk n a) s ((ru false (lk n a) s k i E).2 - s))) ∧ u.2.2 = (if (ru false (lk n a) s k i E).1 = s ∨ (ru false (lk n a) s k i E).1 < (ru false (lk n a) s k i E).2 then 0 else g))
  | k, 0, _, _, _, _, _, q, _, _, _, _, _, _ => by omega
  | k, m + 1, i, E, cnt, y4, hi, hm, hsE, hEi, hEs, hcE, hci, hy4 => by
    have hn := ht.1
    have hlt := lk_lt (i := i) ht
    have hbs : bs false = 10 := rfl
    have hle := ek_m_le (s := s) (L := lk n a) (k := i - s)
    have t155 : ∀ g2 : Int32, ok (f_Mod_exponentRow_155 fu N (nI n) a y1 (nI (ek em (lk n a) s (i - s))) (nI i) pw g2) (fun u => u.1 = nI i ∧ u.2.1 = (if y1 = 0 then pw + nI (ek em (lk n a) s (i - s)) else pw + -nI (ek em (lk n a) s (i - s))) ∧ u.2.2 = g2) := by
      intro g2
      unfold f_Mod_exponentRow_155
      refine ok_if (fun q => ?_) (fun q => ?_)
      · rw [if_pos q]; exact ok_s ⟨rfl, rfl, rfl⟩
      · rw [if_neg q]; exact ok_s ⟨rfl, rfl, rfl⟩
    have stop : ok (f_Mod_exponentRow_141 fu N (nI n) a y1 (nI cnt) (nI (ek em (lk n a) s (i - s))) y4 (nI i) pw g) (fun u => u.1 = nI i ∧ u.2.1 = (if y1 = 0 then pw + nI (ek em (lk n a) s (i - s)) else pw + -nI (ek em (lk n a) s (i - s))) ∧ u.2.2 = (if E = s ∨ E < i then 0 else g)) := by
      unfold f_Mod_exponentRow_141
      refine ok_ii (nI_eq (b := 0) (by omega) (by decide)) (fun q => ?_) (fun q => ?_)
      · rw [if_pos (show E = s ∨ E < i from Or.inl (hcE.mp q))]
        unfold f_Mod_exponentRow_150
        exact t155 0
      · have hne : ¬ E = s := fun q2 => q (hcE.mpr q2)
        have hy : y4 = bI (E = i) := by
          rcases hy4 with q2 | q2
          · exact absurd q2 hne
          · exact q2
        rw [hy]
        refine ok_ii bI_0 (fun q2 => ?_) (fun q2 => ?_)
        · rw [if_pos (show E = s ∨ E < i from Or.inr (by omega))]
          unfold f_Mod_exponentRow_150
          exact t155 0
        · rw [if_neg (show ¬ (E = s ∨ E < i) by omega)]
          exact t155 g
    have hf : ek em (lk n a) s (i + 1 - s) = em (lk n a i) (ek em (lk n a) s (i - s)) := by
      rw [show i + 1 - s = (i - s) + 1 by omega]
      show em (lk n a (s + (i - s))) _ = _
      rw [show s + (i - s) = i by omega]
    rw [f_Mod_exponentRow_55_s]
    refine ok_be (mod_look ht hN hN2 (by omega)) (ok_be (mod_dg (h := false) hlt) ?_)
    cases hd : dg false (lk n a i) with
    | none =>
      have hs2 : em (lk n a i) (ek em (lk n a) s (i - s)) = ek em (lk n a) s (i - s) := by
        generalize ek em (lk n a) s (i - s) = x
        unfold em; rw [hd]
      rw [hs2] at hf
      refine ok_f dI_n2 ?_
      by_cases hgo : lk n a i = 95 ∧ ¬ E = s
      · have hin : i < n := lk_n (a := a) (by rw [hgo.1]; decide)
        obtain ⟨k', rfl⟩ : ∃ k', k = k' + 1 := ⟨k - 1, by omega⟩
        have hru : ru false (lk n a) s (k' + 1) i E = ru false (lk n a) s k' (i + 1) E := by
          show (if (dg false (lk n a i)).isSome = true then _ else if lk n a i = 95 ∧ ¬ E = s then _ else _) = _
          rw [hd, if_neg (show ¬ (none : Option Nat).isSome = true by simp), if_pos hgo]
        have hc0 : ¬ cnt = 0 := fun q => hgo.2 (hcE.mp q)
        refine ok_f (nI_nle (by omega) (by omega)) (ok_be (mod_look ht hN hN2 (by omega)) (ok_t (by rw [hgo.1]; rfl) ?_))
        unfold f_Mod_exponentRow_79
        refine ok_be (mod_look ht hN hN2 (by omega)) (ok_t (by rw [hgo.1]; rfl) ?_)
        unfold f_Mod_exponentRow_93
        refine ok_t rfl ?_
        unfold f_Mod_exponentRow_128
        rw [nI_1]
        have := mod_exp_55 (y1 := y1) (pw := pw) (g := g) ht hN hN2 k' m (i + 1) E cnt 0 (by omega) (by omega) hsE (by omega) (fun q => absurd q hgo.2) hcE (by omega) (Or.inr (bI_f (by omega)).symm)
        rw [hf] at this
        rw [hru]
        exact this
      · have hru : ru false (lk n a) s k i E = (E, i) := by
          cases k with
          | zero => rfl
          | succ k' =>
            show (if (dg false (lk n a i)).isSome = true then _ else if lk n a i = 95 ∧ ¬ E = s then _ else _) = _
            rw [hd, if_neg (show ¬ (none : Option Nat).isSome = true by simp), if_neg hgo]
        rw [hru]
        refine ok_if (fun q => stop) (fun q => ?_)
        refine ok_be (mod_look ht hN hN2 (by omega)) (ok_f (fun q2 => ?_) stop)
        replace q2 := (li_eq (k := 95) rfl hlt (by decide)).mp q2
        have hne : ¬ E = s := fun q3 => q (by rw [hcE.mpr q3]; decide)
        exact hgo ⟨q2, hne⟩
    | some d =>
      have hdl := dg_lt hd
      have hin : i < n := lk_n hdl.2.2.2
      obtain ⟨k', rfl⟩ : ∃ k', k = k' + 1 := ⟨k - 1, by omega⟩
      have hru : ru false (lk n a) s (k' + 1) i E = ru false (lk n a) s k' (i + 1) (i + 1) := by
        show (if (dg false (lk n a i)).isSome = true then _ else _) = _
        rw [hd, if_pos (show (some d).isSome = true from rfl)]
      have hs2 : em (lk n a i) (ek em (lk n a) s (i - s)) = if 10000000 < ek em (lk n a) s (i - s) then 100000000 else 10 * ek em (lk n a) s (i - s) + d := by
        generalize ek em (lk n a) s (i - s) = x
        unfold em; rw [hd]
      rw [hs2] at hf
      refine ok_t (dI_s2 (by omega)) ?_
      unfold f_Mod_exponentRow_79
      refine ok_be (mod_look ht hN hN2 (by omega)) (ok_f (fun q => hdl.2.1 ((li_eq (k := 95) rfl hlt (by decide)).mp q)) ?_)
      unfold f_Mod_exponentRow_93
      refine ok_f (by decide) ?_
      have this := mod_exp_55 (y1 := y1) (pw := pw) (g := g) ht hN hN2 k' m (i + 1) (i + 1) (cnt + 1) 1 (by omega) (by omega) (by omega) (by omega) (fun q => by omega) (by omega) (by omega) (Or.inr (bI_t rfl).symm)
      rw [hf] at this
      rw [hru]
      refine ok_ii (nI_leI (b := 10000000) (by omega) (by decide)) (fun q => ?_) (fun q => ?_)
      · rw [if_neg (by omega)] at this
        refine ok_be (mod_look ht hN hN2 (by omega)) (ok_be (mod_dg (h := false) hlt) ?_)
        rw [hd]
        unfold f_Mod_exponentRow_124 f_Mod_exponentRow_128
        rw [nI_1, nI_1]
        have e1 : 10 * nI (ek em (lk n a) s (i - s)) + dI (some d) = nI (10 * ek em (lk n a) s (i - s) + d) := by
          rw [show (10 : Int32) = nI 10 from rfl, pk_mul]
          exact nI_add _ _
        rw [e1]
        exact this
      · rw [if_pos (by omega)] at this
        unfold f_Mod_exponentRow_124 f_Mod_exponentRow_128
        rw [nI_1, nI_1]
        exact this
/-- the exponent's value in the reference -/
def exm (L : Nat → Nat) (n E : Nat) : Int := if L (E + 1) = 45 then -(ek em L (eds L E) ((een L n E).1 - eds L E) : Int) else (ek em L (eds L E) ((een L n E).1 - eds L E) : Int)
theorem mod_exp {E : Nat} {P : Int} {g : Int32} (ht : tx n a) (hN : 1200 ≤ N) (hN2 : N < 2 ^ 31) (hfu : 1200 < fu) (hE : E < n) :
    ok (f_Mod_exponentRow fu N (nI n) (nI E) (iI P) g a) (fun u => u.1 = nI (een (lk n a) n E).2 ∧ u.2.1 = iI (P + exm (lk n a) n E) ∧ u.2.2 = (if (een (lk n a) n E).1 = eds (lk n a) E ∨ (een (lk n a) n E).1 < (een (lk n a) n E).2 then 0 else g)) := by
  have hn := ht.1
  have hds := eds_le (a := a) hE
  have hru := ru_f (h := false) (L := lk n a) (s := eds (lk n a) E) (n - eds (lk n a) E) (eds (lk n a) E) (eds (lk n a) E) (Nat.le_refl _) (Nat.le_refl _) (fun j g1 g2 => by omega) (fun _ => rfl)
  have he : ek em (lk n a) (eds (lk n a) E) ((een (lk n a) n E).2 - eds (lk n a) E) = ek em (lk n a) (eds (lk n a) E) ((een (lk n a) n E).1 - eds (lk n a) E) := by
    unfold een
    obtain ⟨d, hd⟩ : ∃ d, (ru false (lk n a) (eds (lk n a) E) (n - eds (lk n a) E) (eds (lk n a) E) (eds (lk n a) E)).2 - eds (lk n a) E = ((ru false (lk n a) (eds (lk n a) E) (n - eds (lk n a) E) (eds (lk n a) E) (eds (lk n a) E)).1 - eds (lk n a) E) + d := ⟨(ru false (lk n a) (eds (lk n a) E) (n - eds (lk n a) E) (eds (lk n a) E) (eds (lk n a) E)).2 - (ru false (lk n a) (eds (lk n a) E) (n - eds (lk n a) E) (eds (lk n a) E) (eds (lk n a) E)).1, by omega⟩
    rw [hd, ek_95 d (fun j q1 q2 => hru.2.2.2.2.1 j (by omega) (by omega))]
  have run : ∀ y1 : Int32, (y1 = 0 ↔ ¬ lk n a (E + 1) = 45) → ok (f_Mod_exponentRow_48 fu N (nI n) a y1 (nI (eds (lk n a) E)) (iI P) g) (fun u => u.1 = nI (een (lk n a) n E).2 ∧ u.2.1 = iI (P + exm (lk n a) n E) ∧ u.2.2 = (if (een (lk n a) n E).1 = eds (lk n a) E ∨ (een (lk n a) n E).1 < (een (lk n a) n E).2 then 0 else g)) := by
    intro y1 hy1
    unfold f_Mod_exponentRow_48
    have := mod_exp_55 (fu := fu) (s := eds (lk n a) E) (y1 := y1) (pw := iI P) (g := g) ht hN hN2 (n - eds (lk n a) E) fu (eds (lk n a) E) (eds (lk n a) E) 0 0 (by omega) (by omega) (by omega) (by omega) (fun _ => rfl) ⟨fun _ => rfl, fun _ => rfl⟩ (by omega) (Or.inl rfl)
    rw [Nat.sub_self] at this
    refine ok_m this (fun u hu => ⟨hu.1, ?_, hu.2.2⟩)
    have h2 := hu.2.1
    change u.2.1 = (if y1 = 0 then iI P + nI (ek em (lk n a) (eds (lk n a) E) ((een (lk n a) n E).2 - eds (lk n a) E)) else iI P + -nI (ek em (lk n a) (eds (lk n a) E) ((een (lk n a) n E).2 - eds (lk n a) E))) at h2
    rw [he, ← iI_nat, iI_neg, iI_add, iI_add] at h2
    rw [h2]
    unfold exm
    by_cases q : lk n a (E + 1) = 45
    · rw [if_pos q, if_neg (fun g => (hy1.mp g) q)]
    · rw [if_neg q, if_pos (hy1.mpr q)]
  unfold f_Mod_exponentRow
  rw [nI_1]
  refine ok_be (mod_look ht hN hN2 (by omega)) ?_
  refine ok_ii (li_eq (k := 45) rfl (lk_lt ht) (by decide)) (fun q => ?_) (fun q => ?_)
  · unfold f_Mod_exponentRow_24
    refine ok_f (by decide) ?_
    unfold f_Mod_exponentRow_38
    have e2 : eds (lk n a) E = E + 2 := by unfold eds; rw [if_pos (Or.inr q)]
    rw [nI_1, show E + 1 + 1 = eds (lk n a) E from e2.symm]
    exact run 1 ⟨fun g => absurd g (by decide), fun g => absurd q g⟩
  · unfold f_Mod_exponentRow_24
    refine ok_t rfl (ok_be (mod_look ht hN hN2 (by omega)) ?_)
    refine ok_ii (li_eq (k := 43) rfl (lk_lt ht) (by decide)) (fun q2 => ?_) (fun q2 => ?_)
    · unfold f_Mod_exponentRow_38
      have e2 : eds (lk n a) E = E + 2 := by unfold eds; rw [if_pos (Or.inl q2)]
      rw [nI_1, show E + 1 + 1 = eds (lk n a) E from e2.symm]
      exact run 0 ⟨fun _ => q, fun _ => rfl⟩
    · have e2 : eds (lk n a) E = E + 1 := by unfold eds; rw [if_neg (by omega)]
      rw [show E + 1 = eds (lk n a) E from e2.symm]
      exact run 0 ⟨fun _ => q, fun _ => rfl⟩
end Exp
