-- texts: letters, digits, runs of digits
def lk (n : Nat) (a : Nat → Int32) (i : Nat) : Nat := if i < n then un (a i) else 0
def tx (n : Nat) (a : Nat → Int32) : Prop := n ≤ 1200 ∧ ∀ i, i < n → un (a i) < 128
theorem lk_lt {n i : Nat} {a : Nat → Int32} (h : tx n a) : lk n a i < 128 := by
  unfold lk
  by_cases q : i < n
  · rw [if_pos q]; exact h.2 i q
  · rw [if_neg q]; decide
theorem row_at {N n i : Nat} {a : Nat → Int32} (h : tx n a) (hN : 1200 ≤ N) (hN2 : N < 2 ^ 31) (hi : i < 2 ^ 31) : f_Row_at N (nI i) 0 (nI n) a = some (nI (lk n a i)) := by
  have hn := h.1
  apply ok_e
  unfold f_Row_at
  have e0 : ∀ k, (0 : Int32) + nI k = nI k := fun k => by rw [show (0 : Int32) = nI 0 from rfl, nI_add, Nat.zero_add]
  have e1 : ∀ k, nI k - (0 : Int32) = nI k := fun k => by rw [show (0 : Int32) = nI 0 from rfl, pk_sub (Nat.zero_le _), Nat.sub_zero]
  rw [e0, e1]
  refine ok_f (nI_pos hi) (ok_ii (nI_leI (by omega) hi) (fun q => ?_) (fun q => ?_))
  · unfold lk
    rw [if_neg (by omega)]
    exact ok_s rfl
  · have hu := h.2 i (by omega)
    rw [nI_clamp hi]
    refine ok_t (in_N (by omega) hN2) (ok_t ?_ (ok_s ?_))
    · rw [← nI_un (a i)]
      exact in_N (N := 65536) (by omega) (by decide)
    · unfold lk
      rw [if_pos (by omega), nI_un]
theorem mod_look {N n i : Nat} {a : Nat → Int32} (h : tx n a) (hN : 1200 ≤ N) (hN2 : N < 2 ^ 31) (hi : i < 2 ^ 31) : f_Mod_look N (nI n) (nI i) a = some (nI (lk n a i)) := by
  have hn := h.1
  apply ok_e
  unfold f_Mod_look
  refine ok_ii (nI_leI (by omega) hi) (fun q => ?_) (fun q => ?_)
  · unfold lk
    rw [if_neg (by omega)]
    exact ok_s rfl
  · rw [nI_clamp hi]
    refine ok_t (in_N (by omega) hN2) (ok_s ?_)
    unfold lk
    rw [if_pos (by omega), nI_un]
def dg (h : Bool) (c : Nat) : Option Nat := if 48 ≤ c ∧ c ≤ 57 then some (c - 48) else if h = true ∧ 97 ≤ c ∧ c ≤ 102 then some (c - 87) else if h = true ∧ 65 ≤ c ∧ c ≤ 70 then some (c - 55) else none
def dI (o : Option Nat) : Int32 := match o with
  | some d => nI d
  | none => -1
def bs (h : Bool) : Nat := if h then 16 else 10
def hI (h : Bool) : Int32 := if h then 1 else 0
theorem dg_all : ∀ c, c < 128 → f_Lit_digitOf (nI c) 16 = some (dI (dg true c)) ∧ f_Lit_digitOf (nI c) 10 = some (dI (dg false c)) ∧ f_Mod_digit (nI c) 1 = some (dI (dg true c)) ∧ f_Mod_digit (nI c) 0 = some (dI (dg false c)) := by decide +kernel
theorem lit_dg {h : Bool} {c : Nat} (hc : c < 128) : f_Lit_digitOf (nI c) (nI (bs h)) = some (dI (dg h c)) := by
  cases h
  · exact (dg_all c hc).2.1
  · exact (dg_all c hc).1
theorem mod_dg {h : Bool} {c : Nat} (hc : c < 128) : f_Mod_digit (nI c) (hI h) = some (dI (dg h c)) := by
  cases h
  · exact (dg_all c hc).2.2.2
  · exact (dg_all c hc).2.2.1
theorem dg_lt {h : Bool} {c d : Nat} (hd : dg h c = some d) : d < bs h ∧ ¬ c = 95 ∧ ¬ c = 46 ∧ ¬ c = 0 := by
  unfold dg at hd
  unfold bs
  cases h <;> grind
theorem bs_le (h : Bool) : bs h ≤ 16 ∧ 10 ≤ bs h := by cases h <;> decide
theorem dI_s {d : Nat} (hd : d < 16) : ¬ dI (some d) < 0 := nI_pos (by omega)
theorem dI_s2 {d : Nat} (hd : d < 16) : 0 ≤ dI (some d) := nI_pos' (by omega)
theorem dI_n : dI none < 0 := by decide
theorem dI_n2 : ¬ 0 ≤ dI none := by decide
/-- a run: where its last digit ends, and where it stops -/
def ru (h : Bool) (L : Nat → Nat) (s : Nat) : Nat → Nat → Nat → Nat × Nat
  | 0, i, E => (E, i)
  | k + 1, i, E => if (dg h (L i)).isSome = true then ru h L s k (i + 1) (i + 1) else if L i = 95 ∧ ¬ E = s then ru h L s k (i + 1) E else (E, i)
theorem ru_f {h : Bool} {L : Nat → Nat} {s : Nat} : ∀ (k i E : Nat), s ≤ E → E ≤ i → (∀ j, E ≤ j → j < i → L j = 95) → (E = s → i = s) →
    E ≤ (ru h L s k i E).1 ∧ (ru h L s k i E).1 ≤ (ru h L s k i E).2 ∧ i ≤ (ru h L s k i E).2 ∧ (ru h L s k i E).2 ≤ i + k ∧ (∀ j, (ru h L s k i E).1 ≤ j → j < (ru h L s k i E).2 → L j = 95) ∧ ((ru h L s k i E).1 = s → (ru h L s k i E).2 = s)
  | 0, i, E, h1, h2, h3, h4 => ⟨Nat.le_refl _, h2, Nat.le_refl _, Nat.le_refl _, h3, h4⟩
  | k + 1, i, E, h1, h2, h3, h4 => by
    unfold ru
    split
    · obtain ⟨a1, a2, a3, a4, a5, a6⟩ := ru_f (h := h) (L := L) (s := s) k (i + 1) (i + 1) (by omega) (by omega) (fun j q1 q2 => by omega) (fun q => by omega)
      exact ⟨by omega, a2, by omega, by omega, a5, a6⟩
    · split
      · rename_i q1 q2
        obtain ⟨a1, a2, a3, a4, a5, a6⟩ := ru_f (h := h) (L := L) (s := s) k (i + 1) E (by omega) (by omega) (fun j g1 g2 => by
          by_cases g : j = i
          · rw [g]; exact q2.1
          · exact h3 j g1 (by omega)) (fun q => absurd q q2.2)
        exact ⟨by omega, a2, by omega, by omega, a5, a6⟩
      · exact ⟨Nat.le_refl _, h2, Nat.le_refl _, by omega, h3, h4⟩
def stp (h : Bool) (c : Nat) (t : Nat × Nat × Nat) : Nat × Nat × Nat := match dg h c with
  | none => t
  | some d => (t.1 * bs h + d, t.2.1 + 1, if t.1 * bs h + d = 0 then t.2.2 else t.2.2 + 1)
/-- value, number of digits, number of digits from the first that isn't 0 -/
def fk (h : Bool) (L : Nat → Nat) (s : Nat) (t : Nat × Nat × Nat) : Nat → Nat × Nat × Nat
  | 0 => t
  | k + 1 => stp h (L (s + k)) (fk h L s t k)
theorem fk_95 {h : Bool} {L : Nat → Nat} {s : Nat} {t : Nat × Nat × Nat} {k : Nat} : ∀ d, (∀ j, s + k ≤ j → j < s + k + d → L j = 95) → fk h L s t (k + d) = fk h L s t k
  | 0, _ => rfl
  | d + 1, hj => by
    rw [← Nat.add_assoc]
    show stp h (L (s + (k + d))) (fk h L s t (k + d)) = _
    rw [fk_95 d (fun j q1 q2 => hj j q1 (by omega)), hj (s + (k + d)) (by omega) (by omega)]
    have : ∀ h, dg h 95 = none := by decide
    unfold stp
    rw [this]
theorem li_eq {c k : Nat} {x : Int32} (hx : x = nI k) (hc : c < 128) (hk : k < 128) : nI c = x ↔ c = k := by
  rw [hx, nI_eq (by omega) (by omega)]
theorem lit_end_5 {h : Bool} {fu N n s : Nat} {a : Nat → Int32} (ht : tx n a) (hN : 1200 ≤ N) (hN2 : N < 2 ^ 31) : ∀ (k m i E : Nat), i + k = n → k < m → E ≤ i → s ≤ E → f_Lit_endOfDigits_5 fu N (nI s) (nI (bs h)) 0 (nI n) a m (nI E) (nI i) = some (nI (ru h (lk n a) s k i E).1)
  | k, 0, _, _, _, q, _, _ => by omega
  | 0, m + 1, i, E, hi, _, hE, _ => by
    have hn := ht.1
    rw [f_Lit_endOfDigits_5_s]
    show (if nI n - 0 ≤ nI i then _ else _) = _
    rw [if_pos]
    · rfl
    · rw [show (0 : Int32) = nI 0 from rfl, pk_sub (Nat.zero_le _), Nat.sub_zero]
      exact nI_le (by omega) (by omega)
  | k + 1, m + 1, i, E, hi, hm, hE, hs => by
    have hn := ht.1
    rw [f_Lit_endOfDigits_5_s]
    show (if nI n - 0 ≤ nI i then _ else _) = _
    rw [if_neg (by rw [show (0 : Int32) = nI 0 from rfl, pk_sub (Nat.zero_le _), Nat.sub_zero]; exact nI_ge (by omega) (by omega)), row_at ht hN hN2 (by omega)]
    show (f_Lit_digitOf (nI (lk n a i)) (nI (bs h))).bind _ = _
    have hlt := lk_lt (i := i) ht
    rw [lit_dg hlt]
    show (if dI (dg h (lk n a i)) < 0 then _ else _) = _
    unfold ru
    cases hd : dg h (lk n a i) with
    | none =>
      rw [if_pos dI_n, if_neg (show ¬ (none : Option Nat).isSome = true by simp), nI_1]
      by_cases q : lk n a i = 95
      · rw [if_pos (by rw [q]; rfl)]
        by_cases q2 : E = s
        · rw [if_pos (by rw [q2]), if_neg (fun g => g.2 q2)]
        · rw [if_neg (fun g => q2 ((nI_eq (by omega) (by omega)).mp g)), if_pos ⟨q, q2⟩]
          exact lit_end_5 ht hN hN2 k m (i + 1) E (by omega) (by omega) (by omega) hs
      · rw [if_neg (show ¬ nI (lk n a i) = 95 from fun g => q ((li_eq (k := 95) rfl hlt (by decide)).mp g)), if_neg (fun g => q g.1)]
    | some d =>
      have := bs_le h
      have hdl := dg_lt hd
      rw [if_neg (dI_s (by omega)), if_pos (show (some d).isSome = true from rfl)]
      show f_Lit_endOfDigits_5 fu N (nI s) (nI (bs h)) 0 (nI n) a m (nI i + 1) (nI i + 1) = _
      rw [nI_1]
      exact lit_end_5 ht hN hN2 k m (i + 1) (i + 1) (by omega) (by omega) (by omega) (by omega)
theorem lit_end {h : Bool} {fu N n s : Nat} {a : Nat → Int32} (ht : tx n a) (hN : 1200 ≤ N) (hN2 : N < 2 ^ 31) (hs : s ≤ n) (hfu : 1200 < fu) : f_Lit_endOfDigits fu N (nI s) (nI (bs h)) 0 (nI n) a = some (nI (ru h (lk n a) s (n - s) s s).1) := by
  have := ht.1
  exact lit_end_5 ht hN hN2 (n - s) fu s s (by omega) (by omega) (by omega) (by omega)
