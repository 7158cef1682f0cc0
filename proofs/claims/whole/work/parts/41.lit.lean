-- the class's digits
def dgv (B : Nat) (a : Nat → Int32) : Nat → Nat
  | 0 => 0
  | k + 1 => dgv B a k * B + un (a k)
theorem dgv_c {B : Nat} {a b : Nat → Int32} : ∀ {k : Nat}, (∀ i, i < k → a i = b i) → dgv B a k = dgv B b k
  | 0, _ => rfl
  | k + 1, h => by
    show dgv B a k * B + _ = dgv B b k * B + _
    rw [dgv_c (fun i hi => h i (by omega)), h k (by omega)]
theorem nar_b : ∀ d, d < 16 → vp_nar .byte ((nI d).toInt8.toInt32) = nI d := by decide +kernel
/-- z digits of base B in a row, the first not 0, that stand for v -/
def lt (B v z : Nat) (a : Nat → Int32) : Prop := dgv B a z = v ∧ (∀ i, i < z → un (a i) < B) ∧ (v = 0 ↔ z = 0)
theorem lit_add {h : Bool} {N v z d : Nat} {a : Nat → Int32} (hl : lt (bs h) v z a) (hd : d < bs h) (hz : z < N) (hN2 : N < 2 ^ 31) : ok (f_Lit_addDigit N (nI d) (nI z) a) (fun u => u.1 = nI (if v * bs h + d = 0 then z else z + 1) ∧ lt (bs h) (v * bs h + d) (if v * bs h + d = 0 then z else z + 1) u.2) := by
  obtain ⟨l1, l2, l3⟩ := hl
  have hb := bs_le h
  have push : ¬ v * bs h + d = 0 → ok (f_Lit_addDigit_15 N (nI d) (nI z) a) (fun u => u.1 = nI (if v * bs h + d = 0 then z else z + 1) ∧ lt (bs h) (v * bs h + d) (if v * bs h + d = 0 then z else z + 1) u.2) := by
    intro g
    unfold f_Lit_addDigit_15 f_Lit_addDigit_16
    rw [if_neg g]
    refine ok_t rfl (ok_f (nI_ge hz hN2) (ok_t (in_N hz hN2) (ok_s ⟨nI_1 z, ?_, ?_, ?_⟩)))
    · rw [nI_clamp (by omega), nar_b d (by omega)]
      show dgv (bs h) (upd a z (nI d)) z * bs h + un (upd a z (nI d) z) = _
      rw [pk_us, un_nI (by omega), dgv_c (b := a) (fun i hi => pk_un (by omega)), l1]
    · intro i hi
      dsimp only
      rw [nI_clamp (by omega), nar_b d (by omega)]
      by_cases q : i = z
      · rw [q, pk_us, un_nI (by omega)]; exact hd
      · rw [pk_un q]; exact l2 i (by omega)
    · constructor
      · intro q; exact absurd q g
      · intro q; omega
  unfold f_Lit_addDigit
  refine ok_ii (nI_eq (b := 0) (by omega) (by decide)) (fun q => ?_) (fun q => ?_)
  · refine ok_ii (nI_eq (b := 0) (by omega) (by decide)) (fun q2 => ?_) (fun q2 => ?_)
    · have hv := l3.mpr q
      subst hv q q2
      unfold f_Lit_addDigit_16
      simp only [Nat.zero_mul, Nat.add_zero, if_true]
      exact ok_f (by decide) (ok_s ⟨rfl, l1, l2, l3⟩)
    · exact push (by omega)
  · have hv : ¬ v = 0 := fun g => q (l3.mp g)
    have : 0 < v * bs h := Nat.mul_pos (by omega) (by omega)
    exact push (by omega)
theorem lit_adds_6 {h : Bool} {fu N M n s e : Nat} {x2 : Int32} {a : Nat → Int32} {t0 : Nat × Nat × Nat} (ht : tx n a) (hM : 1200 ≤ M) (hM2 : M < 2 ^ 31) (hN : 1200 ≤ N) (hN2 : N < 2 ^ 31) (hen : e ≤ n) :
    ∀ (d m i : Nat) (arr : Nat → Int32), i + d = e → d < m → s ≤ i → lt (bs h) (fk h (lk n a) s t0 (i - s)).1 (fk h (lk n a) s t0 (i - s)).2.2 arr → (fk h (lk n a) s t0 (i - s)).2.2 ≤ i →
    ok (f_Lit_addDigits_6 fu N M x2 (nI e) (nI (bs h)) 0 (nI n) a m (nI (fk h (lk n a) s t0 (i - s)).2.1) (nI i) (nI (fk h (lk n a) s t0 (i - s)).2.2) arr) (fun u => u.1 = nI (fk h (lk n a) s t0 (e - s)).2.1 ∧ u.2.1 = nI (fk h (lk n a) s t0 (e - s)).2.2 ∧ lt (bs h) (fk h (lk n a) s t0 (e - s)).1 (fk h (lk n a) s t0 (e - s)).2.2 u.2.2 ∧ (fk h (lk n a) s t0 (e - s)).2.2 ≤ e)
  | d, 0, _, _, _, q, _, _, _ => by omega
  | 0, m + 1, i, arr, hi, _, hs, hl, hz => by
    have hn := ht.1
    have hie : i = e := by omega
    subst hie
    rw [f_Lit_addDigits_6_s]
    exact ok_t (nI_le (Nat.le_refl _) (by omega)) (ok_s ⟨rfl, rfl, hl, hz⟩)
  | d + 1, m + 1, i, arr, hi, hm, hs, hl, hz => by
    have hn := ht.1
    rw [f_Lit_addDigits_6_s]
    refine ok_f (nI_ge (by omega) (by omega)) (ok_be (row_at ht hM hM2 (by omega)) (ok_be (lit_dg (lk_lt ht)) ?_))
    have hf : fk h (lk n a) s t0 (i + 1 - s) = stp h (lk n a i) (fk h (lk n a) s t0 (i - s)) := by
      rw [show i + 1 - s = (i - s) + 1 by omega]
      show stp h (lk n a (s + (i - s))) _ = _
      rw [show s + (i - s) = i by omega]
    rw [nI_1]
    cases hd : dg h (lk n a i) with
    | none =>
      have hs2 : stp h (lk n a i) (fk h (lk n a) s t0 (i - s)) = fk h (lk n a) s t0 (i - s) := by unfold stp; rw [hd]
      rw [hs2] at hf
      refine ok_t dI_n ?_
      have := lit_adds_6 (fu := fu) (x2 := x2) (s := s) (t0 := t0) ht hM hM2 hN hN2 hen d m (i + 1) arr (by omega) (by omega) (by omega) (by rw [hf]; exact hl) (by rw [hf]; omega)
      rw [hf] at this
      exact this
    | some c =>
      have hb := bs_le h
      have hdl := dg_lt hd
      have hs2 : stp h (lk n a i) (fk h (lk n a) s t0 (i - s)) = ((fk h (lk n a) s t0 (i - s)).1 * bs h + c, (fk h (lk n a) s t0 (i - s)).2.1 + 1, if (fk h (lk n a) s t0 (i - s)).1 * bs h + c = 0 then (fk h (lk n a) s t0 (i - s)).2.2 else (fk h (lk n a) s t0 (i - s)).2.2 + 1) := by unfold stp; rw [hd]
      rw [hs2] at hf
      refine ok_f (dI_s (by omega)) (ok_b (lit_add hl hdl.1 (by omega) hN2) (fun u hu => ?_))
      have := lit_adds_6 (fu := fu) (x2 := x2) (s := s) (t0 := t0) ht hM hM2 hN hN2 hen d m (i + 1) u.2 (by omega) (by omega) (by omega) (by rw [hf]; exact hu.2) (by rw [hf]; dsimp only; split <;> omega)
      rw [hf] at this
      rw [hu.1, nI_1]
      exact this
theorem lit_adds {h : Bool} {fu N M n s e v z : Nat} {a arr : Nat → Int32} (ht : tx n a) (hM : 1200 ≤ M) (hM2 : M < 2 ^ 31) (hN : 1200 ≤ N) (hN2 : N < 2 ^ 31) (hfu : 1200 < fu) (hen : e ≤ n) (hse : s ≤ e) (hl : lt (bs h) v z arr) (hz : z ≤ s) :
    ok (f_Lit_addDigits fu N M (nI s) (nI e) (nI (bs h)) (nI z) arr 0 (nI n) a) (fun u => u.1 = nI (fk h (lk n a) s (v, 0, z) (e - s)).2.1 ∧ u.2.1 = nI (fk h (lk n a) s (v, 0, z) (e - s)).2.2 ∧ lt (bs h) (fk h (lk n a) s (v, 0, z) (e - s)).1 (fk h (lk n a) s (v, 0, z) (e - s)).2.2 u.2.2 ∧ (fk h (lk n a) s (v, 0, z) (e - s)).2.2 ≤ e) := by
  have hn := ht.1
  have := lit_adds_6 (h := h) (fu := fu) (N := N) (M := M) (s := s) (x2 := nI s) (t0 := (v, 0, z)) ht hM hM2 hN hN2 hen (e - s) fu s arr (by omega) (by omega) (by omega) (by rw [Nat.sub_self]; exact hl) (by rw [Nat.sub_self]; exact hz)
  rw [Nat.sub_self] at this
  exact this
theorem lit_drop_0 {B fu N v z : Nat} {F : Int} {arr : Nat → Int32} (hz : z ≤ N) (hN2 : N < 2 ^ 31) (hB : 0 < B) (hd : ∀ i, i < z → un (arr i) < B) (hv : dgv B arr z = v) : ∀ (k m : Nat), k < m → k ≤ z → v = dgv B arr k * B ^ (z - k) →
    ok (f_Lit_dropZerosBehind_0 fu N arr m (nI k) (iI (F - (z - k : Nat)))) (fun u => ∃ w, w ≤ z ∧ u.1 = nI w ∧ u.2 = iI (F - (z - w : Nat)) ∧ v = dgv B arr w * B ^ (z - w))
  | k, 0, q, _, _ => by omega
  | 0, m + 1, _, _, hk => by
    rw [f_Lit_dropZerosBehind_0_s]
    exact ok_t (by rw [nI_0]; decide) (ok_s ⟨0, by omega, rfl, rfl, hk⟩)
  | k + 1, m + 1, hm, hkz, hk => by
    rw [f_Lit_dropZerosBehind_0_s]
    refine ok_f (nI_nle (by omega) (by omega)) ?_
    rw [nI_pred]
    refine ok_t (in_N (by omega) hN2) ?_
    rw [nI_clamp (by omega)]
    refine ok_if (fun q => ?_) (fun q => ?_)
    · have e1 : iI (F - (z - (k + 1) : Nat)) - 1 = iI (F - (z - k : Nat)) := by
        rw [show (1 : Int32) = iI 1 from rfl, iI_sub]
        congr 1
        omega
      rw [e1]
      refine lit_drop_0 hz hN2 hB hd hv k m (by omega) (by omega) ?_
      rw [hk]
      show (dgv B arr k * B + un (arr k)) * B ^ (z - (k + 1)) = _
      rw [q, un_0, Nat.add_zero, Nat.mul_assoc, ← Nat.pow_succ']
      congr 2
      omega
    · exact ok_s ⟨k + 1, hkz, rfl, rfl, hk⟩

def ec (c x : Nat) : Nat := match dg false c with
  | none => x
  | some d => min (x * 10 + d) 1000000
def em (c x : Nat) : Nat := match dg false c with
  | none => x
  | some d => if 10000000 < x then 100000000 else 10 * x + d
def ek (f : Nat → Nat → Nat) (L : Nat → Nat) (s : Nat) : Nat → Nat
  | 0 => 0
  | k + 1 => f (L (s + k)) (ek f L s k)
def er (c m : Nat) : Prop := (c = m ∧ m ≤ 1000000) ∨ (c = 1000000 ∧ 1000000 ≤ m ∧ m ≤ 100000009)
theorem ek_r {L : Nat → Nat} {s : Nat} : ∀ k, er (ek ec L s k) (ek em L s k)
  | 0 => Or.inl ⟨rfl, Nat.zero_le _⟩
  | k + 1 => by
    have ih := ek_r (L := L) (s := s) k
    show er (ec (L (s + k)) (ek ec L s k)) (em (L (s + k)) (ek em L s k))
    generalize ek ec L s k = x at *
    generalize ek em L s k = y at *
    unfold ec em
    cases hd : dg false (L (s + k)) with
    | none => exact ih
    | some d =>
      have := (dg_lt hd).1
      have hb : bs false = 10 := rfl
      dsimp only
      unfold er at ih ⊢
      split <;> omega
theorem ek_95 {L : Nat → Nat} {s : Nat} {k : Nat} : ∀ d, (∀ j, s + k ≤ j → j < s + k + d → L j = 95) → ek em L s (k + d) = ek em L s k
  | 0, _ => rfl
  | d + 1, hj => by
    rw [← Nat.add_assoc]
    show em (L (s + (k + d))) (ek em L s (k + d)) = _
    rw [ek_95 d (fun j q1 q2 => hj j q1 (by omega)), hj (s + (k + d)) (by omega) (by omega)]
    have : dg false 95 = none := by decide
    unfold em
    rw [this]
theorem lit_min {k l : Nat} (hk : k < 2 ^ 31) (hl : l < 2 ^ 31) : f_Mat_min (nI k) (nI l) = some (nI (min k l)) := big_min hk hl
theorem lit_exp_5 {fu N n s e : Nat} {x1 : Int32} {a : Nat → Int32} (ht : tx n a) (hN : 1200 ≤ N) (hN2 : N < 2 ^ 31) (hen : e ≤ n) : ∀ (d m i : Nat), i + d = e → d < m → s ≤ i →
    f_Lit_exponentIn_5 fu N x1 (nI e) 0 (nI n) a m (nI (ek ec (lk n a) s (i - s))) (nI i) = some (nI (ek ec (lk n a) s (e - s)))
  | d, 0, _, _, q, _ => by omega
  | 0, m + 1, i, hi, _, hs => by
    have hn := ht.1
    have hie : i = e := by omega
    subst hie
    rw [f_Lit_exponentIn_5_s, if_pos (nI_le (Nat.le_refl _) (by omega))]
  | d + 1, m + 1, i, hi, hm, hs => by
    have hn := ht.1
    apply ok_e
    rw [f_Lit_exponentIn_5_s]
    refine ok_f (nI_ge (by omega) (by omega)) (ok_be (row_at ht hN hN2 (by omega)) (ok_be (lit_dg (h := false) (lk_lt ht)) ?_))
    have hf : ek ec (lk n a) s (i + 1 - s) = ec (lk n a i) (ek ec (lk n a) s (i - s)) := by
      rw [show i + 1 - s = (i - s) + 1 by omega]
      show ec (lk n a (s + (i - s))) _ = _
      rw [show s + (i - s) = i by omega]
    have ih := lit_exp_5 (fu := fu) (s := s) (x1 := x1) ht hN hN2 hen d m (i + 1) (by omega) (by omega) (by omega)
    rw [hf] at ih
    have hr := ek_r (L := lk n a) (s := s) (i - s)
    have hle : ek ec (lk n a) s (i - s) ≤ 1000000 := by unfold er at hr; omega
    rw [nI_1]
    unfold ec at ih
    cases hd : dg false (lk n a i) with
    | none =>
      rw [hd] at ih
      exact ok_t dI_n (ok_er ih)
    | some c =>
      have hdl := (dg_lt hd).1
      have hb : bs false = 10 := rfl
      rw [hd] at ih
      refine ok_f (dI_s (by omega)) ?_
      have e1 : nI (ek ec (lk n a) s (i - s)) * 10 + dI (some c) = nI (ek ec (lk n a) s (i - s) * 10 + c) := by
        rw [show (10 : Int32) = nI 10 from rfl, pk_mul]
        exact nI_add _ _
      rw [e1]
      exact ok_be (big_min (l := 1000000) (by omega) (by decide)) (ok_er ih)
theorem lit_exp {fu N n s e : Nat} {a : Nat → Int32} (ht : tx n a) (hN : 1200 ≤ N) (hN2 : N < 2 ^ 31) (hfu : 1200 < fu) (hen : e ≤ n) (hse : s ≤ e) : f_Lit_exponentIn fu N (nI s) (nI e) 0 (nI n) a = some (nI (ek ec (lk n a) s (e - s))) := by
  have hn := ht.1
  have := lit_exp_5 (fu := fu) (s := s) (x1 := nI s) ht hN hN2 hen (e - s) fu s (by omega) (by omega) (by omega)
  rw [Nat.sub_self] at this
  exact this
def mk (h : Bool) (c : Nat) : Bool := if h then (c == 112 || c == 80) else (c == 101 || c == 69)
theorem mk_t {c : Nat} : mk true c = true ↔ c = 112 ∨ c = 80 := by simp [mk]
theorem mk_f {c : Nat} : mk false c = true ↔ c = 101 ∨ c = 69 := by simp [mk]
theorem mk_0 {h : Bool} : ¬ mk h 0 = true := by cases h <;> decide
theorem mk_95 {h : Bool} : ¬ mk h 95 = true := by cases h <;> decide
theorem mk_46 {h : Bool} : ¬ mk h 46 = true := by cases h <;> decide
def eds (L : Nat → Nat) (E : Nat) : Nat := if L (E + 1) = 43 ∨ L (E + 1) = 45 then E + 2 else E + 1
def een (L : Nat → Nat) (n E : Nat) : Nat × Nat := ru false L (eds L E) (n - eds L E) (eds L E) (eds L E)
def bI (p : Prop) [Decidable p] : Int32 := if p then 1 else 0
theorem lit_either {c k l : Nat} {x y : Int32} (hx : x = nI k) (hy : y = nI l) (hc : c < 128) (hk : k < 128) (hl : l < 128) : f_Lit_isEither (nI c) x y = some (bI (c = k ∨ c = l)) := by
  apply ok_e
  unfold f_Lit_isEither bI
  refine ok_ii (li_eq hx hc hk) (fun q => ?_) (fun q => ?_)
  · rw [if_pos (Or.inl q)]; exact ok_s rfl
  · refine ok_ii (li_eq hy hc hl) (fun q2 => ?_) (fun q2 => ?_)
    · rw [if_pos (Or.inr q2)]; exact ok_s rfl
    · rw [if_neg (by omega)]; exact ok_s rfl
theorem bI_0 {p : Prop} [Decidable p] : bI p = 0 ↔ ¬ p := by
  unfold bI
  by_cases q : p
  · rw [if_pos q]; exact ⟨fun g => absurd g (by decide), fun g => absurd q g⟩
  · rw [if_neg q]; exact ⟨fun _ => q, fun _ => rfl⟩
/-- the exponent's value in the class -/
def exv (L : Nat → Nat) (n E : Nat) : Int := if L (E + 1) = 45 then -(ek ec L (eds L E) ((een L n E).1 - eds L E) : Int) else (ek ec L (eds L E) ((een L n E).1 - eds L E) : Int)
theorem lk_n {n i : Nat} {a : Nat → Int32} (h : ¬ lk n a i = 0) : i < n := by
  unfold lk at h
  by_cases q : i < n
  · exact q
  · rw [if_neg q] at h; exact absurd rfl h
theorem eds_le {n E : Nat} {a : Nat → Int32} (h : E < n) : eds (lk n a) E ≤ n ∧ E < eds (lk n a) E := by
  unfold eds
  split
  · rename_i q
    have := lk_n (n := n) (i := E + 1) (a := a) (by omega)
    omega
  · omega
theorem lit_scanx {h : Bool} {fu N n E : Nat} {x : Int32} {a : Nat → Int32} (ht : tx n a) (hN : 1200 ≤ N) (hN2 : N < 2 ^ 31) (hfu : 1200 < fu) (hE : E ≤ n) :
    ok (f_Lit_scanExponent fu N (nI E) x (hI h) 0 (nI n) a) (fun u => (mk h (lk n a E) = true → u.1 = bI (eds (lk n a) E < (een (lk n a) n E).1 ∧ (een (lk n a) n E).1 = n) ∧ u.2 = iI (exv (lk n a) n E)) ∧ (¬ mk h (lk n a E) = true → u.1 = bI (h = false ∧ E = n) ∧ u.2 = 0)) := by
  have hn := ht.1
  have e1 : ∀ k, nI k - (0 : Int32) = nI k := fun k => by rw [show (0 : Int32) = nI 0 from rfl, pk_sub (Nat.zero_le _), Nat.sub_zero]
  have key : ∀ v : Int32, ok (f_Lit_scanExponent_39 fu N (nI E) (hI h) 0 (nI n) a (bI (mk h (lk n a E) = true)) v) (fun u => (mk h (lk n a E) = true → u.1 = bI (eds (lk n a) E < (een (lk n a) n E).1 ∧ (een (lk n a) n E).1 = n) ∧ u.2 = iI (exv (lk n a) n E)) ∧ (¬ mk h (lk n a E) = true → u.1 = bI (h = false ∧ E = n) ∧ u.2 = v)) := by
    intro v
    unfold f_Lit_scanExponent_39
    refine ok_ii bI_0 (fun q => ?_) (fun q => ?_)
    · have fin : ok (if hI h = 0 then (f_Row_length 0 (nI n)).bind fun u_8 => if nI E = u_8 then some ((1 : Int32), v) else some (0, v) else some (0, v)) (fun u => u.1 = bI (h = false ∧ E = n) ∧ u.2 = v) := by
        cases h with
        | false =>
          refine ok_t rfl (ok_be (v := nI n) (by unfold f_Row_length; rw [e1]) ?_)
          refine ok_ii (nI_eq (by omega) (by omega)) (fun g => ?_) (fun g => ?_)
          · exact ok_s ⟨by unfold bI; rw [if_pos ⟨rfl, g⟩], rfl⟩
          · exact ok_s ⟨by unfold bI; rw [if_neg (fun g2 => g g2.2)], rfl⟩
        | true =>
          exact ok_f (by decide) (ok_s ⟨by unfold bI; rw [if_neg (fun g2 => absurd g2.1 (by decide))], rfl⟩)
      exact ok_m fin (fun u hu => ⟨fun g => absurd g q, fun _ => hu⟩)
    · have q : mk h (lk n a E) = true := by
        cases g : mk h (lk n a E)
        · exact absurd (by rw [g]; decide) q
        · rfl
      have hEn : E < n := lk_n (fun g => by rw [g] at q; exact mk_0 q)
      have hds := eds_le (a := a) hEn
      rw [show (1 : Int32) = nI 1 from rfl, show (2 : Int32) = nI 2 from rfl, nI_add, nI_add]
      refine ok_be (row_at ht hN hN2 (by omega)) (ok_be (lit_either (k := 43) (l := 45) rfl rfl (lk_lt ht) (by decide) (by decide)) ?_)
      have tail : ok (f_Lit_scanExponent_95 fu N (nI E) (hI h) 0 (nI n) a (nI (lk n a (E + 1))) (nI (eds (lk n a) E)) v) (fun u => u.1 = bI (eds (lk n a) E < (een (lk n a) n E).1 ∧ (een (lk n a) n E).1 = n) ∧ u.2 = iI (exv (lk n a) n E)) := by
        unfold f_Lit_scanExponent_95
        refine ok_be (lit_end (h := false) ht hN hN2 hds.1 hfu) ?_
        have hru := ru_f (h := false) (L := lk n a) (s := eds (lk n a) E) (n - eds (lk n a) E) (eds (lk n a) E) (eds (lk n a) E) (Nat.le_refl _) (Nat.le_refl _) (fun j g1 g2 => by omega) (fun _ => rfl)
        have hE3 : (ru false (lk n a) (eds (lk n a) E) (n - eds (lk n a) E) (eds (lk n a) E) (eds (lk n a) E)).1 ≤ n := by omega
        refine ok_be (lit_exp ht hN hN2 hfu hE3 hru.1) ?_
        have t133 : ∀ k : Int32, ok (f_Lit_scanExponent_133 fu N (nI E) (hI h) 0 (nI n) a (nI (eds (lk n a) E)) (nI (een (lk n a) n E).1) k v) (fun u => u.1 = bI (eds (lk n a) E < (een (lk n a) n E).1 ∧ (een (lk n a) n E).1 = n) ∧ u.2 = k) := by
          intro k
          have h3 : (een (lk n a) n E).1 ≤ n := hE3
          unfold f_Lit_scanExponent_133
          refine ok_ii (nI_leI (by omega) (by omega)) (fun g => ?_) (fun g => ?_)
          · exact ok_s ⟨by unfold bI; rw [if_neg (by omega)], rfl⟩
          · refine ok_be (v := nI n) (by unfold f_Row_length; rw [e1]) (ok_ii (nI_eq (by omega) (by omega)) (fun g2 => ?_) (fun g2 => ?_))
            · exact ok_s ⟨by unfold bI; rw [if_pos (by omega)], rfl⟩
            · exact ok_s ⟨by unfold bI; rw [if_neg (by omega)], rfl⟩
        refine ok_ii (li_eq (k := 45) rfl (lk_lt ht) (by decide)) (fun g => ?_) (fun g => ?_)
        · refine ok_m (t133 _) (fun u hu => ⟨hu.1, ?_⟩)
          rw [hu.2, ← iI_nat, iI_neg]
          unfold exv
          rw [if_pos g]
          rfl
        · refine ok_m (t133 _) (fun u hu => ⟨hu.1, ?_⟩)
          rw [hu.2, ← iI_nat]
          unfold exv
          rw [if_neg g]
          rfl
      refine ok_ii bI_0 (fun g => ?_) (fun g => ?_)
      · have e2 : eds (lk n a) E = E + 1 := by unfold eds; rw [if_neg g]
        rw [e2] at tail
        refine ok_m tail (fun u hu => ⟨fun _ => ?_, fun g2 => absurd q g2⟩)
        rw [e2]
        exact hu
      · have e2 : eds (lk n a) E = E + 2 := by
          unfold eds
          rw [if_pos]
          exact Decidable.of_not_not g
        rw [e2] at tail
        refine ok_m tail (fun u hu => ⟨fun _ => ?_, fun g2 => absurd q g2⟩)
        rw [e2]
        exact hu
  unfold f_Lit_scanExponent
  cases h with
  | false =>
    refine ok_t rfl (ok_be (row_at ht hN hN2 (by omega)) (ok_be (lit_either (k := 101) (l := 69) rfl rfl (lk_lt ht) (by decide) (by decide)) ?_))
    have e2 : bI (lk n a E = 101 ∨ lk n a E = 69) = bI (mk false (lk n a E) = true) := by unfold bI; simp only [mk_f]
    rw [e2]
    exact key 0
  | true =>
    refine ok_f (by decide) (ok_be (row_at ht hN hN2 (by omega)) (ok_be (lit_either (k := 112) (l := 80) rfl rfl (lk_lt ht) (by decide) (by decide)) ?_))
    have e2 : bI (lk n a E = 112 ∨ lk n a E = 80) = bI (mk true (lk n a E) = true) := by unfold bI; simp only [mk_t]
    rw [e2]
    exact key 0
