-- the whole literal, in class and reference
def s0 (h : Bool) : Nat := if h then 2 else 0
def hx (L : Nat → Nat) : Bool := decide (L 0 = 48 ∧ (L 1 = 120 ∨ L 1 = 88))
def q1 (h : Bool) (L : Nat → Nat) (n : Nat) : Nat × Nat := ru h L (s0 h) (n - s0 h) (s0 h) (s0 h)
def pp (L : Nat → Nat) (e : Nat) : Nat := if L e = 46 then e + 1 else e
def q2 (h : Bool) (L : Nat → Nat) (n e : Nat) : Nat × Nat := if L e = 46 then ru h L (e + 1) (n - (e + 1)) (e + 1) (e + 1) else (e, e)
def w1 (h : Bool) (L : Nat → Nat) (n : Nat) : Nat × Nat × Nat := fk h L (s0 h) (0, 0, 0) ((q1 h L n).1 - s0 h)
def w2 (h : Bool) (L : Nat → Nat) (n e : Nat) : Nat × Nat × Nat := fk h L (pp L e) ((w1 h L n).1, 0, (w1 h L n).2.2) ((q2 h L n e).1 - pp L e)
theorem hx_s0 {n : Nat} {a : Nat → Int32} : s0 (hx (lk n a)) ≤ n := by
  unfold s0
  split
  · rename_i q
    unfold hx at q
    rw [decide_eq_true_eq] at q
    have := lk_n (n := n) (i := 1) (a := a) (by omega)
    omega
  · omega
theorem q1_f {h : Bool} {L : Nat → Nat} {n : Nat} (hs : s0 h ≤ n) : s0 h ≤ (q1 h L n).1 ∧ (q1 h L n).1 ≤ (q1 h L n).2 ∧ (q1 h L n).2 ≤ n ∧ (∀ j, (q1 h L n).1 ≤ j → j < (q1 h L n).2 → L j = 95) ∧ ((q1 h L n).1 = s0 h → (q1 h L n).2 = s0 h) := by
  have := ru_f (h := h) (L := L) (s := s0 h) (n - s0 h) (s0 h) (s0 h) (Nat.le_refl _) (Nat.le_refl _) (fun j g1 g2 => by omega) (fun _ => rfl)
  unfold q1
  exact ⟨this.1, this.2.1, by omega, this.2.2.2.2.1, this.2.2.2.2.2⟩
theorem q2_f {h : Bool} {n e : Nat} {a : Nat → Int32} (he : e ≤ n) : pp (lk n a) e ≤ n ∧ e ≤ pp (lk n a) e ∧ pp (lk n a) e ≤ (q2 h (lk n a) n e).1 ∧ (q2 h (lk n a) n e).1 ≤ (q2 h (lk n a) n e).2 ∧ (q2 h (lk n a) n e).2 ≤ n ∧ (∀ j, (q2 h (lk n a) n e).1 ≤ j → j < (q2 h (lk n a) n e).2 → lk n a j = 95) ∧ ((q2 h (lk n a) n e).1 = pp (lk n a) e → (q2 h (lk n a) n e).2 = pp (lk n a) e) := by
  unfold pp q2
  by_cases q : lk n a e = 46
  · have hen : e < n := lk_n (a := a) (by rw [q]; decide)
    have := ru_f (h := h) (L := lk n a) (s := e + 1) (n - (e + 1)) (e + 1) (e + 1) (Nat.le_refl _) (Nat.le_refl _) (fun j g1 g2 => by omega) (fun _ => rfl)
    rw [if_pos q, if_pos q]
    exact ⟨by omega, by omega, this.1, this.2.1, by omega, this.2.2.2.2.1, this.2.2.2.2.2⟩
  · rw [if_neg q, if_neg q]
    exact ⟨he, Nat.le_refl _, Nat.le_refl _, Nat.le_refl _, he, fun j g1 g2 => by omega, fun g => g⟩
section Scan
variable {fu N M n : Nat} {a : Nat → Int32}
theorem lit_scan_128 {h : Bool} {E1 P E2 : Nat} {dc fr ex : Int32} {ds : Nat → Int32} {t1 t2 : Nat × Nat × Nat} (ht : tx n a) (hN : 1200 ≤ N) (hN2 : N < 2 ^ 31) (hM : 1200 ≤ M) (hM2 : M < 2 ^ 31) (hfu : 1200 < fu) (h1 : s0 h ≤ E1) (h2 : E1 ≤ P) (h3 : P ≤ E2) (h4 : E2 ≤ n) (e1 : t1 = fk h (lk n a) (s0 h) (0, 0, 0) (E1 - s0 h)) (e2 : t2 = fk h (lk n a) P (t1.1, 0, t1.2.2) (E2 - P)) :
    ok (f_Lit_scan_128 fu M N 0 (nI n) a (nI (bs h)) (nI (s0 h)) (nI E1) (nI P) (nI E2) dc fr ex (hI h) ds) (fun u => ((mk h (lk n a E2) = true → u.1 = bI (eds (lk n a) E2 < (een (lk n a) n E2).1 ∧ (een (lk n a) n E2).1 = n) ∧ u.2.2.2.1 = iI (exv (lk n a) n E2)) ∧ (¬ mk h (lk n a E2) = true → u.1 = bI (h = false ∧ E2 = n) ∧ u.2.2.2.1 = 0)) ∧ u.2.2.2.2.1 = hI h ∧ ∃ w, w ≤ t2.2.2 ∧ u.2.1 = nI w ∧ u.2.2.1 = iI ((t2.2.1 : Int) - (t2.2.2 - w : Nat)) ∧ t2.1 = dgv (bs h) u.2.2.2.2.2 w * bs h ^ (t2.2.2 - w) ∧ lt (bs h) t2.1 t2.2.2 u.2.2.2.2.2 ∧ t2.2.2 ≤ n) := by
  have hn := ht.1
  unfold f_Lit_scan_128
  rw [show (0 : Int32) = nI 0 from rfl]
  refine ok_b (lit_adds (h := h) (v := 0) (z := 0) ht hN hN2 hM hM2 hfu (by omega) h1 ⟨rfl, fun i hi => by omega, ⟨fun _ => rfl, fun _ => rfl⟩⟩ (Nat.zero_le _)) (fun r hr => ?_)
  rw [← e1] at hr
  rw [hr.2.1]
  refine ok_b (lit_adds (h := h) (v := t1.1) (z := t1.2.2) ht hN hN2 hM hM2 hfu h4 h3 hr.2.2.1 (by omega)) (fun r2 hr2 => ?_)
  rw [← e2] at hr2
  rw [hr2.1, hr2.2.1]
  have hbs := bs_le h
  have hdrop := lit_drop_0 (B := bs h) (fu := fu) (N := M) (v := t2.1) (z := t2.2.2) (F := t2.2.1) (arr := r2.2.2) (by omega) hM2 (by omega) hr2.2.2.1.2.1 hr2.2.2.1.1 t2.2.2 fu (by omega) (Nat.le_refl _) (by rw [Nat.sub_self, Nat.pow_zero, Nat.mul_one]; exact hr2.2.2.1.1.symm)
  rw [Nat.sub_self, show (t2.2.1 : Int) - (0 : Nat) = t2.2.1 by omega, iI_nat] at hdrop
  refine ok_b hdrop (fun r3 hr3 => ?_)
  refine ok_b (lit_scanx (h := h) ht hN hN2 hfu h4) (fun r4 hr4 => ?_)
  refine ok_t ?_ (ok_s ⟨hr4, rfl, ?_⟩)
  · by_cases q : mk h (lk n a E2) = true
    · rw [(hr4.1 q).1]
      unfold bI
      split <;> decide
    · rw [(hr4.2 q).1]
      unfold bI
      split <;> decide
  · obtain ⟨w, a1, a2, a3, a4⟩ := hr3
    exact ⟨w, a1, a2, a3, a4, hr2.2.2.1, by omega⟩
theorem lit_scan {dc fr ex ih : Int32} {ds : Nat → Int32} {h : Bool} (hh : h = hx (lk n a)) (ht : tx n a) (hN : 1200 ≤ N) (hN2 : N < 2 ^ 31) (hM : 1200 ≤ M) (hM2 : M < 2 ^ 31) (hfu : 1200 < fu) {E1 P E2 : Nat} {t2 : Nat × Nat × Nat} (hE1 : E1 = (q1 h (lk n a) n).1) (hP : P = pp (lk n a) E1) (hE2 : E2 = (q2 h (lk n a) n E1).1) (ht2 : t2 = w2 h (lk n a) n E1) :
    ok (f_Lit_scan fu M N dc fr ex ih ds 0 (nI n) a) (fun u => (E1 = s0 h ∧ E2 = P → u.1 = 0) ∧ (¬ (E1 = s0 h ∧ E2 = P) → ((mk h (lk n a E2) = true → u.1 = bI (eds (lk n a) E2 < (een (lk n a) n E2).1 ∧ (een (lk n a) n E2).1 = n) ∧ u.2.2.2.1 = iI (exv (lk n a) n E2)) ∧ (¬ mk h (lk n a E2) = true → u.1 = bI (h = false ∧ E2 = n) ∧ u.2.2.2.1 = 0)) ∧ u.2.2.2.2.1 = hI h ∧ ∃ w, w ≤ t2.2.2 ∧ u.2.1 = nI w ∧ u.2.2.1 = iI ((t2.2.1 : Int) - (t2.2.2 - w : Nat)) ∧ t2.1 = dgv (bs h) u.2.2.2.2.2 w * bs h ^ (t2.2.2 - w) ∧ lt (bs h) t2.1 t2.2.2 u.2.2.2.2.2 ∧ t2.2.2 ≤ n)) := by
  have hn := ht.1
  have hs0 : s0 h ≤ n := by rw [hh]; exact hx_s0
  have f1 := q1_f (h := h) (L := lk n a) hs0
  rw [← hE1] at f1
  have f2 := q2_f (h := h) (n := n) (e := E1) (a := a) (by omega)
  rw [← hP, ← hE2] at f2
  have t111 : ∀ (dc fr ex : Int32) (ds : Nat → Int32), ok (f_Lit_scan_111 fu M N 0 (nI n) a (nI (bs h)) (nI (s0 h)) (nI E1) (nI P) (nI E2) dc fr ex (hI h) ds) (fun u => (E1 = s0 h ∧ E2 = P → u.1 = 0) ∧ (¬ (E1 = s0 h ∧ E2 = P) → ((mk h (lk n a E2) = true → u.1 = bI (eds (lk n a) E2 < (een (lk n a) n E2).1 ∧ (een (lk n a) n E2).1 = n) ∧ u.2.2.2.1 = iI (exv (lk n a) n E2)) ∧ (¬ mk h (lk n a E2) = true → u.1 = bI (h = false ∧ E2 = n) ∧ u.2.2.2.1 = 0)) ∧ u.2.2.2.2.1 = hI h ∧ ∃ w, w ≤ t2.2.2 ∧ u.2.1 = nI w ∧ u.2.2.1 = iI ((t2.2.1 : Int) - (t2.2.2 - w : Nat)) ∧ t2.1 = dgv (bs h) u.2.2.2.2.2 w * bs h ^ (t2.2.2 - w) ∧ lt (bs h) t2.1 t2.2.2 u.2.2.2.2.2 ∧ t2.2.2 ≤ n)) := by
    intro dc fr ex ds
    have t128 := lit_scan_128 (dc := dc) (fr := fr) (ex := ex) (ds := ds) (t1 := w1 h (lk n a) n) (t2 := t2) ht hN hN2 hM hM2 hfu f1.1 f2.2.1 f2.2.2.1 (by omega) (by unfold w1; rw [← hE1]) (by rw [ht2]; unfold w2; rw [← hP, ← hE2])
    unfold f_Lit_scan_111
    refine ok_ii (nI_eq (by omega) (by omega)) (fun q => ?_) (fun q => ?_)
    · refine ok_ii (nI_eq (by omega) (by omega)) (fun g => ?_) (fun g => ?_)
      · exact ok_s ⟨fun _ => rfl, fun g2 => absurd ⟨q, g⟩ g2⟩
      · exact ok_m t128 (fun u hu => ⟨fun g2 => absurd g2.2 g, fun _ => hu⟩)
    · exact ok_m t128 (fun u hu => ⟨fun g2 => absurd g2.1 q, fun _ => hu⟩)
  have t61 : ok (f_Lit_scan_61 fu M N 0 (nI n) a (nI (bs h)) (nI (s0 h)) dc fr ex (hI h) ds) (fun u => (E1 = s0 h ∧ E2 = P → u.1 = 0) ∧ (¬ (E1 = s0 h ∧ E2 = P) → ((mk h (lk n a E2) = true → u.1 = bI (eds (lk n a) E2 < (een (lk n a) n E2).1 ∧ (een (lk n a) n E2).1 = n) ∧ u.2.2.2.1 = iI (exv (lk n a) n E2)) ∧ (¬ mk h (lk n a E2) = true → u.1 = bI (h = false ∧ E2 = n) ∧ u.2.2.2.1 = 0)) ∧ u.2.2.2.2.1 = hI h ∧ ∃ w, w ≤ t2.2.2 ∧ u.2.1 = nI w ∧ u.2.2.1 = iI ((t2.2.1 : Int) - (t2.2.2 - w : Nat)) ∧ t2.1 = dgv (bs h) u.2.2.2.2.2 w * bs h ^ (t2.2.2 - w) ∧ lt (bs h) t2.1 t2.2.2 u.2.2.2.2.2 ∧ t2.2.2 ≤ n)) := by
    unfold f_Lit_scan_61
    refine ok_be (v := nI E1) (by rw [lit_end ht hN hN2 hs0 hfu, hE1]; rfl) (ok_be (row_at ht hN hN2 (by omega)) ?_)
    refine ok_ii (li_eq (k := 46) rfl (lk_lt ht) (by decide)) (fun q => ?_) (fun q => ?_)
    · have eP : P = E1 + 1 := by rw [hP]; unfold pp; rw [if_pos q]
      rw [nI_1, ← eP]
      unfold f_Lit_scan_90
      refine ok_f (nI_ge (by omega) (by omega)) ?_
      have eE : f_Lit_endOfDigits fu N (nI P) (nI (bs h)) 0 (nI n) a = some (nI E2) := by
        rw [lit_end ht hN hN2 (by omega) hfu, hE2]
        unfold q2
        rw [if_pos q, eP]
      exact ok_be eE (t111 _ _ _ _)
    · have eP : P = E1 := by rw [hP]; unfold pp; rw [if_neg q]
      have eE : E2 = E1 := by rw [hE2]; unfold q2; rw [if_neg q]
      unfold f_Lit_scan_90
      refine ok_t (nI_le (Nat.le_refl _) (by omega)) ?_
      have := t111 dc fr ex ds
      rw [eP, eE] at this
      rw [eP, eE]
      exact this
  unfold f_Lit_scan
  rw [show (0 : Int32) = nI 0 from rfl, show (1 : Int32) = nI 1 from rfl]
  refine ok_be (row_at ht hN hN2 (by decide)) ?_
  have no : h = false → ok (f_Lit_scan_30 fu M N (nI 0) (nI n) a dc fr ex ih ds) (fun u => (E1 = s0 h ∧ E2 = P → u.1 = nI 0) ∧ (¬ (E1 = s0 h ∧ E2 = P) → ((mk h (lk n a E2) = true → u.1 = bI (eds (lk n a) E2 < (een (lk n a) n E2).1 ∧ (een (lk n a) n E2).1 = n) ∧ u.2.2.2.1 = iI (exv (lk n a) n E2)) ∧ (¬ mk h (lk n a E2) = true → u.1 = bI (h = false ∧ E2 = n) ∧ u.2.2.2.1 = nI 0)) ∧ u.2.2.2.2.1 = hI h ∧ ∃ w, w ≤ t2.2.2 ∧ u.2.1 = nI w ∧ u.2.2.1 = iI ((t2.2.1 : Int) - (t2.2.2 - w : Nat)) ∧ t2.1 = dgv (bs h) u.2.2.2.2.2 w * bs h ^ (t2.2.2 - w) ∧ lt (bs h) t2.1 t2.2.2 u.2.2.2.2.2 ∧ t2.2.2 ≤ n)) := by
    intro g
    subst g
    unfold f_Lit_scan_30 f_Lit_scan_31
    refine ok_t (by decide) (ok_t rfl ?_)
    unfold f_Lit_scan_48
    exact ok_t rfl t61
  refine ok_ii (li_eq (k := 48) rfl (lk_lt ht) (by decide)) (fun q => ?_) (fun q => ?_)
  · refine ok_be (row_at ht hN hN2 (by decide)) (ok_be (lit_either (k := 120) (l := 88) rfl rfl (lk_lt ht) (by decide) (by decide)) ?_)
    refine ok_ii (bI_0 (p := lk n a 1 = 120 ∨ lk n a 1 = 88)) (fun q2 => ?_) (fun q2 => ?_)
    · exact no (by rw [hh]; unfold hx; rw [decide_eq_false_iff_not]; exact fun g => q2 g.2)
    · have g : h = true := by rw [hh]; unfold hx; rw [decide_eq_true_eq]; exact ⟨q, Decidable.of_not_not q2⟩
      subst g
      unfold f_Lit_scan_31
      refine ok_t (by decide) (ok_f (by decide) ?_)
      unfold f_Lit_scan_48
      exact ok_f (by decide) t61
  · exact no (by rw [hh]; unfold hx; rw [decide_eq_false_iff_not]; exact fun g => q g.1)
end Scan
