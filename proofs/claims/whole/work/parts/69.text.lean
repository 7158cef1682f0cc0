-- text: class and reference alike
/-- the two texts stand alike -/
def JT (n : Nat) (a t : Nat → Int32) : Prop := tx n a ∧ ∀ i, i < n → t i = a i
def gd (b j : Nat) : Prop := ∀ i, i < j → bt b i = 0 ∨ (32 ≤ bt b i ∧ bt b i ≤ 126)
def cn (b : Nat) : Nat → Nat
  | 0 => 0
  | j + 1 => (if bt b j = 0 then 0 else 1) + cn b j
theorem gd_s {b j : Nat} : gd b (j + 1) ↔ (bt b j = 0 ∨ (32 ≤ bt b j ∧ bt b j ≤ 126)) ∧ gd b j := by
  constructor
  · intro h
    exact ⟨h j (by omega), fun i hi => h i (by omega)⟩
  · intro h i hi
    by_cases q : i = j
    · subst q; exact h.1
    · exact h.2 i (by omega)
theorem cn_le (b : Nat) : ∀ j, cn b j ≤ j
  | 0 => Nat.le_refl 0
  | j + 1 => by
    have := cn_le b j
    unfold cn
    split <;> omega
theorem bt_lt (b j : Nat) : bt b j < 256 := by unfold bt; omega
theorem i8 (j : Nat) : iI (8 * (j + 1 : Nat) - 8) = nI (8 * j) := by
  rw [← iI_nat]
  congr 1
  omega
theorem i8n (j : Nat) : nI (8 * j) + (-8) = iI (8 * (j : Int) - 8) := by
  rw [← iI_nat, show (-8 : Int32) = iI (-8) from rfl, iI_add]
  congr 1
theorem nz {a : Nat} (h : a < 2 ^ 31) : nI a = 0 ↔ a = 0 := nI_eq (b := 0) h (by decide)
theorem n12 {a : Nat} (h : a < 2 ^ 31) : nI a ≤ 1200 ↔ a ≤ 1200 := nI_leI (b := 1200) h (by decide)
theorem mod_in_c {c : Nat} (h : c < 256) : f_Mod_in (nI c) 32 126 = some (if 32 ≤ c ∧ c ≤ 126 then 1 else 0) := by
  apply ok_e
  unfold f_Mod_in
  refine ok_ii (nI_ltI (b := 32) (by omega) (by decide)) (fun g => ?_) (fun g => ?_)
  · rw [if_neg (by omega)]; exact ok_s rfl
  · refine ok_ii (nI_ltI (a := 126) (by decide) (by omega)) (fun g2 => ?_) (fun g2 => ?_)
    · rw [if_neg (by omega)]; exact ok_s rfl
    · rw [if_pos (by omega)]; exact ok_s rfl
section Text
variable {fu b : Nat}
theorem tx_byte {j : Nat} (hb : b < 2 ^ 64) (hj : j < 8) : f_RT_byteAt (lN b) (nI (8 * j)) = some (nI (bt b j)) := by
  unfold f_RT_byteAt
  rw [bt_c hb hj]
theorem tx_only (hb : b < 2 ^ 64) : ∀ (j m : Nat), j ≤ 8 → j < m → ok (f_RT_hasOnlyCharacters_3 fu (lN b) m (iI (8 * (j : Int) - 8))) (fun r => (r = 1 ∧ gd b j) ∨ (r = 0 ∧ ¬ gd b j))
  | j, 0, _, h => by omega
  | 0, m + 1, _, _ => by
    rw [f_RT_hasOnlyCharacters_3_s]
    exact ok_t (by decide) (ok_s (Or.inl ⟨rfl, fun i hi => by omega⟩))
  | j + 1, m + 1, hj, hm => by
    have hbt := bt_lt b j
    rw [f_RT_hasOnlyCharacters_3_s, i8]
    refine ok_f (nI_pos (by omega)) (ok_be (tx_byte hb (by omega)) ?_)
    rw [i8n]
    have go : (bt b j = 0 ∨ (32 ≤ bt b j ∧ bt b j ≤ 126)) → ok (f_RT_hasOnlyCharacters_3 fu (lN b) m (iI (8 * (j : Int) - 8))) (fun r => (r = 1 ∧ gd b (j + 1)) ∨ (r = 0 ∧ ¬ gd b (j + 1))) := by
      intro hg
      refine ok_m (tx_only hb j m (by omega) (by omega)) (fun r hr => ?_)
      rcases hr with ⟨h1, h2⟩ | ⟨h1, h2⟩
      · exact Or.inl ⟨h1, gd_s.mpr ⟨hg, h2⟩⟩
      · exact Or.inr ⟨h1, fun q => h2 (gd_s.mp q).2⟩
    refine ok_ii (nI_eq (b := 0) (by omega) (by decide)) (fun g => go (Or.inl g)) (fun g => ?_)
    refine ok_ii (nI_ltI (b := 32) (by omega) (by decide)) (fun g2 => ?_) (fun g2 => ?_)
    · exact ok_s (Or.inr ⟨rfl, fun q => by have := (gd_s.mp q).1; omega⟩)
    · refine ok_ii (nI_leI (b := 126) (by omega) (by decide)) (fun g3 => go (Or.inr ⟨by omega, g3⟩)) (fun g3 => ?_)
      exact ok_s (Or.inr ⟨rfl, fun q => by have := (gd_s.mp q).1; omega⟩)
theorem tx_count (hb : b < 2 ^ 64) : ∀ (j m c : Nat), j ≤ 8 → j < m → f_RT_charactersIn_5 fu (lN b) m (nI c) (iI (8 * (j : Int) - 8)) = some (nI (c + cn b j))
  | j, 0, _, _, h => by omega
  | 0, m + 1, c, _, _ => by
    rw [f_RT_charactersIn_5_s, if_pos (by decide)]
    rfl
  | j + 1, m + 1, c, hj, hm => by
    have hbt := bt_lt b j
    rw [f_RT_charactersIn_5_s, i8, if_neg (nI_pos (by omega)), tx_byte hb (by omega)]
    show (if nI (bt b j) = 0 then _ else _) = _
    rw [i8n]
    unfold cn
    by_cases q : bt b j = 0
    · rw [if_pos ((nz (by omega)).mpr q), if_pos q, tx_count hb j m c (by omega) (by omega), Nat.zero_add]
    · rw [if_neg (fun e => q ((nz (by omega)).mp e)), if_neg q, nI_1, tx_count hb j m (c + 1) (by omega) (by omega)]
      congr 2
      omega
theorem JT_put {n c : Nat} {a t : Nat → Int32} (h : JT n a t) (hn : n < 1200) (hc : c < 128) : JT (n + 1) (upd a n (nI c)) (upd t n (nI c)) := by
  obtain ⟨⟨h1, h2⟩, h3⟩ := h
  refine ⟨⟨by omega, fun i hi => ?_⟩, fun i hi => ?_⟩
  · by_cases q : i = n
    · subst q; rw [pk_us, un_nI (by omega)]; exact hc
    · rw [pk_un q]; exact h2 i (by omega)
  · by_cases q : i = n
    · subst q; rw [pk_us, pk_us]
    · rw [pk_un q, pk_un q]; exact h3 i (by omega)
theorem char_id {c : Nat} (h : c < 65536) : ((nI c).toUInt32 % 65536).toInt32 = nI c := by
  rw [pk_char, pk_tn (by omega), Nat.mod_eq_of_lt h]
theorem put_1200 {n c : Nat} {a : Nat → Int32} (hn : n < 1200) (hc : c < 128) : f_Row_put 1200 (nI c) (nI n) a = some (nI (n + 1), upd a n (nI c)) := by
  unfold f_Row_put
  rw [if_neg (nI_ge hn (by decide)), if_pos (in_N hn (by decide)), nI_1, nI_clamp (by omega), nar_c (by omega)]
theorem tx_put {th : Int32} (hb : b < 2 ^ 64) : ∀ (j m m' n : Nat) (a t : Nat → Int32), j ≤ 8 → j < m → j < m' → gd b j → JT n a t → n + cn b j ≤ 1200 →
    ∃ n' a' t', JT n' a' t' ∧ f_RT_text_44 fu 1200 (lN b) 0 m (iI (8 * (j : Int) - 8)) (nI n) a = some (0, nI n', nI n', a') ∧ f_Mod_text_86 fu 1200 (lN b) m' (iI (8 * (j : Int) - 8)) (nI n) th t = some (nI n', nI n', th, t')
  | j, 0, _, _, _, _, _, h, _, _, _, _ => by omega
  | j, _, 0, _, _, _, _, _, h, _, _, _ => by omega
  | 0, m + 1, m' + 1, n, a, t, _, _, _, _, hJ, _ => by
    refine ⟨n, a, t, hJ, ?_, ?_⟩
    · rw [f_RT_text_44_s, if_pos (by decide)]
      unfold f_Row_length
      show some ((0 : Int32), nI n - 0, nI n, a) = _
      rw [show nI n - 0 = nI n by rw [← nI_0, pk_sub (by omega), Nat.sub_zero]]
    · rw [f_Mod_text_86_s, if_pos (by decide)]
  | j + 1, m + 1, m' + 1, n, a, t, hj, hm, hm', hg, hJ, hn => by
    have hbt := bt_lt b j
    obtain ⟨g1, g2⟩ := gd_s.mp hg
    unfold cn at hn
    rw [f_RT_text_44_s, f_Mod_text_86_s, i8, if_neg (nI_pos (by omega)), if_neg (nI_pos (by omega)), tx_byte hb (by omega), bt_m hb (by omega)]
    rw [i8n]
    show ∃ n' a' t', JT n' a' t' ∧ (if nI (bt b j) = 0 then _ else _) = _ ∧ (if nI (bt b j) = 0 then _ else _) = _
    by_cases q : bt b j = 0
    · have q' := (nz (a := bt b j) (by omega)).mpr q
      rw [if_pos q] at hn
      rw [if_pos q', if_pos q']
      exact tx_put hb j m m' n a t (by omega) (by omega) (by omega) g2 hJ (by omega)
    · have q' : ¬ nI (bt b j) = 0 := fun e => q ((nz (by omega)).mp e)
      rw [if_neg q] at hn
      rw [if_neg q', if_neg q', char_id (by omega), put_1200 (by omega) (by omega), if_pos (in_N (by omega) (by decide)), nI_1, nI_clamp (by omega)]
      exact tx_put hb j m m' (n + 1) _ _ (by omega) (by omega) (by omega) g2 (JT_put hJ (by omega) (by omega)) (by omega)
theorem tx_m6 {th : Int32} {n : Nat} {t : Nat → Int32} (hb : b < 2 ^ 64) (hn : n ≤ 1200) : ∀ (j m c : Nat), j ≤ 8 → j < m → c + j ≤ 8 →
    (gd b j → f_Mod_text_6 fu 1200 (lN b) m (nI c) (iI (8 * (j : Int) - 8)) (nI n) th t = if n + (c + cn b j) ≤ 1200 then f_Mod_text_86 fu 1200 (lN b) fu 56 (nI n) 0 t else some (0, nI n, 2, t)) ∧
    (¬ gd b j → f_Mod_text_6 fu 1200 (lN b) m (nI c) (iI (8 * (j : Int) - 8)) (nI n) th t = some (0, nI n, 1, t))
  | j, 0, _, _, h, _ => by omega
  | 0, m + 1, c, _, _, hc => by
    refine ⟨fun _ => ?_, fun q => absurd (fun i hi => by omega) q⟩
    rw [f_Mod_text_6_s, if_pos (by decide), nI_add]
    unfold cn
    by_cases q : n + c ≤ 1200
    · rw [if_pos ((n12 (by omega)).mpr q), if_pos (by omega)]
    · rw [if_neg (fun e => q ((n12 (by omega)).mp e)), if_neg (by omega)]
      rfl
  | j + 1, m + 1, c, hj, hm, hc => by
    have hbt := bt_lt b j
    obtain ⟨i1, i2⟩ := tx_m6 (th := th) (t := t) hb hn j m c (by omega) (by omega) (by omega)
    obtain ⟨i3, i4⟩ := tx_m6 (th := th) (t := t) hb hn j m (c + 1) (by omega) (by omega) (by omega)
    have rw1 : f_Mod_text_6 fu 1200 (lN b) (m + 1) (nI c) (iI (8 * ((j + 1 : Nat) : Int) - 8)) (nI n) th t = if bt b j = 0 then f_Mod_text_6 fu 1200 (lN b) m (nI c) (iI (8 * (j : Int) - 8)) (nI n) th t else if 32 ≤ bt b j ∧ bt b j ≤ 126 then f_Mod_text_6 fu 1200 (lN b) m (nI (c + 1)) (iI (8 * (j : Int) - 8)) (nI n) th t else some (0, nI n, 1, t) := by
      rw [f_Mod_text_6_s, i8, if_neg (nI_pos (by omega)), bt_m hb (by omega)]
      unfold f_Mod_text_45
      rw [i8n]
      show (if nI (bt b j) = 0 then _ else _) = _
      by_cases q : bt b j = 0
      · rw [if_pos ((nz (by omega)).mpr q), if_pos ((nz (by omega)).mpr q), if_pos q]
      · rw [if_neg (fun e => q ((nz (by omega)).mp e)), if_neg q, mod_in_c hbt]
        show (if (if 32 ≤ bt b j ∧ bt b j ≤ 126 then (1 : Int32) else 0) = 0 then _ else _) = _
        by_cases q2 : 32 ≤ bt b j ∧ bt b j ≤ 126
        · rw [if_pos q2, if_pos q2, if_neg (by decide), if_neg (fun e => q ((nz (by omega)).mp e)), nI_1]
        · rw [if_neg q2, if_neg q2, if_pos rfl]
          rfl
    rw [rw1]
    unfold cn
    by_cases q : bt b j = 0
    · rw [if_pos q, if_pos q, Nat.zero_add]
      exact ⟨fun h => i1 (gd_s.mp h).2, fun h => i2 (fun g => h (gd_s.mpr ⟨Or.inl q, g⟩))⟩
    · rw [if_neg q, if_neg q]
      by_cases q2 : 32 ≤ bt b j ∧ bt b j ≤ 126
      · rw [if_pos q2, ← Nat.add_assoc c 1 (cn b j)]
        exact ⟨fun h => i3 (gd_s.mp h).2, fun h => i4 (fun g => h (gd_s.mpr ⟨Or.inr q2, g⟩))⟩
      · rw [if_neg q2]
        exact ⟨fun h => by have := (gd_s.mp h).1; omega, fun _ => rfl⟩
theorem text_eq {x1 : Int64} {n : Nat} {a t : Nat → Int32} {th : Int32} (hfu : 100 < fu) (hJ : JT n a t) :
    ∃ u w, f_RT_text fu 1200 x1 0 (nI n) a = some u ∧ f_Mod_text fu 1200 x1 (nI n) th t = some w ∧ u.1 = w.2.2.1 ∧ (u.1 = 0 ∨ u.1 = 1 ∨ u.1 = 2) ∧ (u.1 = 0 → u.2.1 = w.1) ∧ ∃ n', u.2.2.1 = nI n' ∧ w.2.1 = nI n' ∧ JT n' u.2.2.2 w.2.2.2 := by
  obtain ⟨b, hb, rfl⟩ := wb_of x1
  have hn := hJ.1.1
  have hc8 := cn_le b 8
  obtain ⟨r, hr1, hr2⟩ := tx_only (fu := fu) hb 8 fu (by decide) (by omega)
  have hr1' : f_RT_hasOnlyCharacters fu (lN b) = some r := hr1
  obtain ⟨m1, m2⟩ := tx_m6 (fu := fu) (th := th) (t := t) hb hn 8 fu 0 (by decide) (by omega) (by decide)
  have hM : f_Mod_text fu 1200 (lN b) (nI n) th t = f_Mod_text_6 fu 1200 (lN b) fu (nI 0) (iI (8 * ((8 : Nat) : Int) - 8)) (nI n) th t := rfl
  have hcc := tx_count (fu := fu) hb 8 fu 0 (by decide) (by omega)
  have hcc' : f_RT_charactersIn fu (lN b) = some (nI (0 + cn b 8)) := hcc
  unfold f_RT_text
  rw [hr1', hM]
  show ∃ u w, (if r = 0 then _ else _) = some u ∧ _
  rcases hr2 with ⟨rfl, hg⟩ | ⟨rfl, hg⟩
  · rw [if_neg (by decide), m1 hg, hcc']
    have e1 : nI n - 0 = nI n := by rw [← nI_0, pk_sub (by omega), Nat.sub_zero]
    show ∃ u w, (if nI n - 0 + nI (0 + cn b 8) ≤ 1200 then _ else _) = some u ∧ _
    rw [e1, nI_add]
    by_cases q : n + (0 + cn b 8) ≤ 1200
    · obtain ⟨n', a', t', hJ', h1, h2⟩ := tx_put (fu := fu) (th := 0) hb 8 fu fu n a t (by decide) (by omega) (by omega) hg hJ (by omega)
      rw [if_pos ((n12 (by omega)).mpr q), if_pos q]
      exact ⟨_, _, h1, h2, rfl, Or.inl rfl, fun _ => rfl, n', rfl, rfl, hJ'⟩
    · rw [if_neg (fun e => q ((n12 (by omega)).mp e)), if_neg q]
      exact ⟨_, _, rfl, rfl, rfl, Or.inr (Or.inr rfl), fun e => absurd e (show ¬ (2 : Int32) = 0 by decide), n, rfl, rfl, hJ⟩
  · rw [if_pos rfl, m2 hg]
    exact ⟨_, _, rfl, rfl, rfl, Or.inr (Or.inl rfl), fun e => absurd e (show ¬ (1 : Int32) = 0 by decide), n, rfl, rfl, hJ⟩
end Text
