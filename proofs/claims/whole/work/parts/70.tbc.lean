-- take, back, count: class and reference alike
/-- what is written stands alike: g letters of e are gone -/
def JW (g e : Nat) (a t : Nat → Int32) : Prop := g ≤ e ∧ e ≤ 32 ∧ ∀ i, i < e → t i = a i ∧ un (a i) < 128
section TBC
variable {fu : Nat}
theorem ch_ok {x : Int32} (h : un x < 128) : zz_ch x = true := by
  rw [← nI_un x]
  exact in_N (N := 65536) (by omega) (by decide)
theorem row_at_w {g e i : Nat} {a t : Nat → Int32} (h : JW g e a t) (hi : g + i < e) : f_Row_at 32 (nI i) (nI g) (nI e) a = some (a (g + i)) := by
  obtain ⟨h1, h2, h3⟩ := h
  unfold f_Row_at
  rw [if_neg (nI_pos (by omega)), pk_sub (by omega), if_neg (nI_ge (by omega) (by omega)), nI_add, if_pos (in_N (by omega) (by decide)), nI_clamp (by omega), if_pos (ch_ok (h3 _ hi).2)]
theorem take_eq_4 {e : Nat} {a t : Nat → Int32} {th : Int32} : ∀ (d m m' c g : Nat) (v : Int64), c + d = 8 → d < m → d < m' → JW g e a t →
    ∃ v' g', f_RT_take_4 fu 32 (nI e) a m v (nI c) (nI g) = some (v', nI g') ∧ f_Mod_take_9 fu 40 (nI e) t m' v (nI c) (nI g) th = some (v', nI g', th) ∧ JW g' e a t
  | d, 0, _, _, _, _, _, h, _, _ => by omega
  | d, _, 0, _, _, _, _, _, h, _ => by omega
  | 0, m + 1, m' + 1, c, g, v, hc, _, _, hJ => by
    have e8 : c = 8 := by omega
    subst e8
    refine ⟨v, g, ?_, ?_, hJ⟩
    · rw [f_RT_take_4_s, if_pos (by decide)]
    · rw [f_Mod_take_9_s, if_pos (by decide)]
  | d + 1, m + 1, m' + 1, c, g, v, hc, hm, hm', hJ => by
    obtain ⟨h1, h2, h3⟩ := hJ
    have h8 : ¬ (8 : Int32) ≤ nI c := fun q => by
      rw [show (8 : Int32) = nI 8 from rfl, nI_leI (by decide) (by omega)] at q
      omega
    rw [f_RT_take_4_s, f_Mod_take_9_s, if_neg h8, if_neg h8]
    unfold f_Row_length
    show ∃ v' g', (if nI e - nI g ≤ 0 then _ else _) = _ ∧ _
    rw [pk_sub h1]
    by_cases q : g = e
    · subst q
      rw [Nat.sub_self, if_pos (by decide), if_pos (nI_le (Nat.le_refl _) (by omega))]
      exact ⟨v, g, rfl, rfl, h1, h2, h3⟩
    · have hlt : g < e := by omega
      rw [if_neg (nI_nle (by omega) (by omega)), if_neg (nI_ge hlt (by omega)), if_pos (in_N (by omega) (by decide)), nI_clamp (by omega)]
      have hat : f_Row_at 32 0 (nI g) (nI e) a = some (a g) := row_at_w (i := 0) (t := t) ⟨h1, h2, h3⟩ (by omega)
      unfold f_Row_takeFirst
      rw [hat]
      show ∃ v' g', Option.bind (if nI e ≤ nI g then _ else (if zz_ch (a g) = true then some (a g, nI g + 1) else none)) _ = _ ∧ _
      rw [if_neg (nI_ge hlt (by omega)), if_pos (ch_ok (h3 g hlt).2), (h3 g hlt).1]
      show ∃ v' g', f_RT_take_4 fu 32 (nI e) a m ((v <<< ((8 : Int32).toInt64 &&& 63)) ||| (a g).toInt64) (nI c + 1) (nI g + 1) = _ ∧ f_Mod_take_9 fu 40 (nI e) t m' ((v <<< ((8 : Int32).toInt64 &&& 63)) ||| (a g).toInt64) (nI c + 1) (nI g + 1) th = _ ∧ _
      rw [nI_1, nI_1]
      exact take_eq_4 d m m' (c + 1) (g + 1) _ (by omega) (by omega) (by omega) ⟨by omega, h2, h3⟩
theorem take_eq {g e : Nat} {a t : Nat → Int32} {th : Int32} (hfu : 100 < fu) (hJ : JW g e a t) :
    ∃ v' g', f_RT_take fu 32 (nI g) (nI e) a = some (v', nI g') ∧ f_Mod_take fu 40 (nI e) (nI g) th t = some (v', nI g', 0) ∧ JW g' e a t := by
  unfold f_RT_take f_Mod_take
  exact take_eq_4 (th := 0) 8 fu fu 0 g 0 rfl (by omega) (by omega) hJ
theorem back_eq_9 {g e : Nat} {a t : Nat → Int32} {th : Int32} (hJ : JW g e a t) : ∀ (d m m' i : Nat) (ta tt : Nat → Int32), g + i + d = e → d < m → d < m' → JT i ta tt →
    ∃ ta' tt', f_RT_back_9 fu 1200 32 a m (nI i) 0 (nI i) ta (nI g) (nI e) = some (nI (e - g), 0, nI (e - g), ta', 0, 0) ∧ f_Mod_back_15 fu 1200 40 t m' (nI (g + i)) (nI i) (nI e) (nI g) th tt = some (nI (e - g), nI (e - g), 0, 0, th, tt') ∧ JT (e - g) ta' tt'
  | d, 0, _, _, _, _, _, h, _, _ => by omega
  | d, _, 0, _, _, _, _, _, h, _ => by omega
  | 0, m + 1, m' + 1, i, ta, tt, hi, _, _, hT => by
    obtain ⟨h1, h2, h3⟩ := hJ
    have ei : i = e - g := by omega
    refine ⟨ta, tt, ?_, ?_, by rw [← ei]; exact hT⟩
    · rw [f_RT_back_9_s]
      unfold f_Row_length f_Row_clear
      show (if nI e - nI g ≤ nI i then some (nI i - 0, (0 : Int32), nI i, ta, (0 : Int32), (0 : Int32)) else _) = _
      rw [pk_sub h1, if_pos (nI_le (by omega) (by omega)), ← nI_0, pk_sub (by omega), Nat.sub_zero, ← ei]
    · rw [f_Mod_back_15_s, if_pos (nI_le (by omega) (by omega)), ← ei]
  | d + 1, m + 1, m' + 1, i, ta, tt, hi, hm, hm', hT => by
    have hJ' := hJ
    obtain ⟨h1, h2, h3⟩ := hJ'
    rw [f_RT_back_9_s, f_Mod_back_15_s]
    unfold f_Row_length
    show ∃ ta' tt', (if nI e - nI g ≤ nI i then _ else _) = _ ∧ _
    rw [pk_sub h1, if_neg (nI_ge (by omega) (by omega)), if_neg (nI_ge (by omega) (by omega)), if_pos (in_N (by omega) (by decide)), if_pos (in_N (by omega) (by decide)), nI_clamp (by omega), nI_clamp (by omega), row_at_w hJ (by omega), (h3 (g + i) (by omega)).1]
    have hu := (h3 (g + i) (by omega)).2
    show ∃ ta' tt', Option.bind (f_Row_put 1200 (a (g + i)) (nI i) ta) _ = _ ∧ _
    rw [← nI_un (a (g + i)), put_1200 (by omega) hu]
    show ∃ ta' tt', f_RT_back_9 fu 1200 32 a m (nI i + 1) 0 (nI (i + 1)) (upd ta i (nI (un (a (g + i))))) (nI g) (nI e) = _ ∧ f_Mod_back_15 fu 1200 40 t m' (nI (g + i) + 1) (nI i + 1) (nI e) (nI g) th (upd tt i (nI (un (a (g + i))))) = _ ∧ _
    rw [nI_1, nI_1]
    exact back_eq_9 hJ d m m' (i + 1) _ _ (by omega) (by omega) (by omega) (JT_put hT (by omega) hu)
theorem JT_0 (a t : Nat → Int32) : JT 0 a t := ⟨⟨by decide, fun i hi => by omega⟩, fun i hi => by omega⟩
theorem back_eq {g e : Nat} {a t ta tt : Nat → Int32} {th s0 e0 l0 : Int32} (hfu : 100 < fu) (hJ : JW g e a t) :
    ∃ ta' tt', f_RT_back fu 1200 32 s0 e0 ta (nI g) (nI e) a = some (nI (e - g), 0, nI (e - g), ta', 0, 0) ∧ f_Mod_back fu 1200 40 l0 (nI e) (nI g) th tt t = some (nI (e - g), nI (e - g), 0, 0, 0, tt') ∧ JT (e - g) ta' tt' := by
  unfold f_RT_back f_Mod_back f_Row_clear
  have h1 := hJ.1
  have h2 := hJ.2.1
  exact back_eq_9 (th := 0) hJ (e - g) fu fu 0 ta tt (by omega) (by omega) (by omega) (JT_0 ta tt)
theorem count_eq {x1 rc nc oc th : Int32} {n g e : Nat} (hge : g ≤ e) :
    ∃ u w, f_RT_count x1 rc nc oc 0 (nI n) (nI g) (nI e) = some u ∧ f_Mod_count x1 (nI n) (nI e) (nI g) th rc nc oc = some w ∧ u.1 = w.2 ∧ (u.1 = 0 ∨ u.1 = 1) ∧ (u.1 = 0 → u.2 = w.1) := by
  have e1 : nI n - 0 = nI n := by rw [← nI_0, pk_sub (by omega), Nat.sub_zero]
  have h10 : ¬ (1 : Int32) = 0 := by decide
  by_cases q0 : x1 = 0
  · subst q0
    exact ⟨_, _, rfl, rfl, rfl, Or.inl rfl, fun _ => e1⟩
  by_cases q1 : x1 = 1
  · subst q1
    exact ⟨_, _, rfl, rfl, rfl, Or.inl rfl, fun _ => rfl⟩
  by_cases q2 : x1 = 2
  · subst q2
    exact ⟨_, _, rfl, rfl, rfl, Or.inl rfl, fun _ => rfl⟩
  by_cases q3 : x1 = 3
  · subst q3
    exact ⟨_, _, rfl, rfl, rfl, Or.inl rfl, fun _ => rfl⟩
  by_cases q4 : x1 = 4
  · subst q4
    exact ⟨_, _, rfl, rfl, rfl, Or.inl rfl, fun _ => rfl⟩
  refine ⟨(1, 0), (0, 1), ?_, ?_, rfl, Or.inr rfl, fun q => absurd q h10⟩
  · unfold f_RT_count
    rw [if_neg q0, if_neg q1, if_neg q2, if_neg q3, if_neg q4]
  · have hin : f_Mod_in x1 0 4 = some 0 := by
      unfold f_Mod_in
      by_cases g1 : x1 < 0
      · rw [if_pos g1]
      · rw [if_neg g1]
        have g2 : 4 < x1 := by
          obtain ⟨j, hj, rfl⟩ := nI_of g1
          rw [show (4 : Int32) = nI 4 from rfl, nI_ltI (by decide) hj]
          rw [show (0 : Int32) = nI 0 from rfl, nI_eq hj (by decide)] at q0
          rw [show (1 : Int32) = nI 1 from rfl, nI_eq hj (by decide)] at q1
          rw [show (2 : Int32) = nI 2 from rfl, nI_eq hj (by decide)] at q2
          rw [show (3 : Int32) = nI 3 from rfl, nI_eq hj (by decide)] at q3
          rw [show (4 : Int32) = nI 4 from rfl, nI_eq hj (by decide)] at q4
          omega
        rw [if_pos g2]
    unfold f_Mod_count
    rw [hin]
    rfl
end TBC
