-- the reference's literal
theorem mod_bin {n N : Nat} {a : Nat → Int32} (ht : tx n a) (hN : 1200 ≤ N) (hN2 : N < 2 ^ 31) : f_Mod_isBinary N (nI n) a = some (hI (hx (lk n a))) := by
  have hn := ht.1
  apply ok_e
  unfold f_Mod_isBinary
  have z0 : zz_in 0 N = true := in_N (k := 0) (by omega) hN2
  have z1 : zz_in 1 N = true := in_N (k := 1) (by omega) hN2
  refine ok_ii (nI_leI (b := 1) (by omega) (by decide)) (fun q => ?_) (fun q => ?_)
  · refine ok_s ?_
    have : hx (lk n a) = false := by
      unfold hx
      rw [decide_eq_false_iff_not]
      intro g
      have : lk n a 1 = 0 := by unfold lk; rw [if_neg (by omega)]
      omega
    rw [this]
    rfl
  · have l0 : a 0 = nI (lk n a 0) := by unfold lk; rw [if_pos (by omega), nI_un]
    have l1 : a 1 = nI (lk n a 1) := by unfold lk; rw [if_pos (by omega), nI_un]
    refine ok_t z0 ?_
    show ok (if a 0 = 48 then _ else _) _
    rw [l0]
    refine ok_ii (li_eq (k := 48) rfl (lk_lt ht) (by decide)) (fun g => ?_) (fun g => ?_)
    · refine ok_t z1 ?_
      show ok (if a 1 = 120 then _ else _) _
      rw [l1]
      refine ok_ii (li_eq (k := 120) rfl (lk_lt ht) (by decide)) (fun g2 => ?_) (fun g2 => ?_)
      · have : hx (lk n a) = true := by unfold hx; rw [decide_eq_true_eq]; exact ⟨g, Or.inl g2⟩
        rw [this]
        exact ok_s rfl
      · refine ok_t z1 ?_
        show ok (if a 1 = 88 then _ else _) _
        rw [l1]
        refine ok_ii (li_eq (k := 88) rfl (lk_lt ht) (by decide)) (fun g3 => ?_) (fun g3 => ?_)
        · have : hx (lk n a) = true := by unfold hx; rw [decide_eq_true_eq]; exact ⟨g, Or.inr g3⟩
          rw [this]
          exact ok_s rfl
        · have : hx (lk n a) = false := by unfold hx; rw [decide_eq_false_iff_not]; omega
          rw [this]
          exact ok_s rfl
    · have : hx (lk n a) = false := by unfold hx; rw [decide_eq_false_iff_not]; omega
      rw [this]
      exact ok_s rfl
def b4 (h : Bool) : Nat := if h then 4 else 1
section Lit
variable {fu N M n : Nat} {a : Nat → Int32}
/-- what the reference's literal answers -/
def mlq (h : Bool) (n M : Nat) (L : Nat → Nat) (u : Int32 × Int32 × Int32 × Int32 × Int32 × Int32 × (Nat → Int32)) : Prop :=
  bm M (w2 h L n (q1 h L n).2).1 u.2.1 u.2.2.2.2.2.2 ∧ u.2.2.2.1 = nI (w2 h L n (q1 h L n).2).2.2 ∧ (w2 h L n (q1 h L n).2).2.2 ≤ n ∧ (w2 h L n (q1 h L n).2).1 < 16 ^ n ∧
  ((w1 h L n).2.1 + (w2 h L n (q1 h L n).2).2.1 = 0 → u.1 = 0) ∧
  (¬ (w1 h L n).2.1 + (w2 h L n (q1 h L n).2).2.1 = 0 →
    (mk h (L (q2 h L n (q1 h L n).2).2) = true → u.1 = bI (((q1 h L n).1 = (q1 h L n).2 ∧ (q2 h L n (q1 h L n).2).1 = (q2 h L n (q1 h L n).2).2) ∧ ¬ ((een L n (q2 h L n (q1 h L n).2).2).1 = eds L (q2 h L n (q1 h L n).2).2 ∨ (een L n (q2 h L n (q1 h L n).2).2).1 < (een L n (q2 h L n (q1 h L n).2).2).2) ∧ (een L n (q2 h L n (q1 h L n).2).2).2 = n) ∧ u.2.2.2.2.1 = iI (-((b4 h * (w2 h L n (q1 h L n).2).2.1 : Nat) : Int) + exm L n (q2 h L n (q1 h L n).2).2)) ∧
    (¬ mk h (L (q2 h L n (q1 h L n).2).2) = true → u.1 = bI (((q1 h L n).1 = (q1 h L n).2 ∧ (q2 h L n (q1 h L n).2).1 = (q2 h L n (q1 h L n).2).2) ∧ h = false ∧ (q2 h L n (q1 h L n).2).2 = n) ∧ u.2.2.2.2.1 = iI (-((b4 h * (w2 h L n (q1 h L n).2).2.1 : Nat) : Int))))
theorem mod_lit_155 {h : Bool} {good has : Prop} [Decidable good] [Decidable has] {aM dgs pw g : Int32} {at' : Nat} {aa : Nat → Int32} (hn : n ≤ 1200) (hat : at' ≤ n) (hg : g = bI good) :
    ok (f_Mod_literal_155 fu N M (hI h) (nI n) a (bI has) aM (nI at') dgs pw g aa) (fun u => u.1 = bI (good ∧ (has ∨ h = false) ∧ at' = n) ∧ u.2.1 = aM ∧ u.2.2.2.1 = dgs ∧ u.2.2.2.2.1 = pw ∧ u.2.2.2.2.2.2 = aa) := by
  have t171 : ok (f_Mod_literal_171 fu N M (hI h) (nI n) a aM (nI at') dgs pw g aa) (fun u => u.1 = bI (at' = n) ∧ u.2.1 = aM ∧ u.2.2.2.1 = dgs ∧ u.2.2.2.2.1 = pw ∧ u.2.2.2.2.2.2 = aa) := by
    unfold f_Mod_literal_171
    refine ok_ii (nI_eq (by omega) (by omega)) (fun q => ?_) (fun q => ?_)
    · exact ok_s ⟨(bI_t q).symm, rfl, rfl, rfl, rfl⟩
    · exact ok_s ⟨(bI_f q).symm, rfl, rfl, rfl, rfl⟩
  unfold f_Mod_literal_155
  rw [hg] at t171 ⊢
  refine ok_ii bI_0 (fun q => ?_) (fun q => ?_)
  · exact ok_s ⟨(bI_f (fun g => q g.1)).symm, rfl, rfl, rfl, rfl⟩
  · have q : good := Decidable.of_not_not q
    refine ok_ii bI_0 (fun q2 => ?_) (fun q2 => ?_)
    · cases h with
      | false =>
        refine ok_t rfl (ok_m t171 (fun u hu => ⟨?_, hu.2⟩))
        rw [hu.1]
        unfold bI
        simp [q]
      | true =>
        refine ok_f (by decide) (ok_s ⟨(bI_f ?_).symm, rfl, rfl, rfl, rfl⟩)
        intro g
        rcases g.2.1 with g2 | g2
        · exact q2 g2
        · exact absurd g2 (by decide)
    · have q2 : has := Decidable.of_not_not q2
      refine ok_m t171 (fun u hu => ⟨?_, hu.2⟩)
      rw [hu.1]
      unfold bI
      simp [q, q2]
theorem mod_lit_66 {h : Bool} {good : Prop} [Decidable good] {c1 c R : Nat} {aM dgs pw g : Int32} {aa : Nat → Int32} (ht : tx n a) (hN : 1200 ≤ N) (hN2 : N < 2 ^ 31) (hfu : 1200 < fu) (hR : R ≤ n) (hc1 : c1 ≤ 1200) (hc : c ≤ 1200) (hg : g = bI good) :
    ok (f_Mod_literal_66 fu N M (hI h) (nI n) a (nI c1) (nI c) aM (nI R) dgs pw g aa) (fun u => u.2.1 = aM ∧ u.2.2.2.1 = dgs ∧ u.2.2.2.2.2.2 = aa ∧ (c1 + c = 0 → u.1 = 0) ∧ (¬ c1 + c = 0 →
      (mk h (lk n a R) = true → u.1 = bI (good ∧ ¬ ((een (lk n a) n R).1 = eds (lk n a) R ∨ (een (lk n a) n R).1 < (een (lk n a) n R).2) ∧ (een (lk n a) n R).2 = n) ∧ u.2.2.2.2.1 = iI (-((b4 h * c : Nat) : Int) + exm (lk n a) n R)) ∧
      (¬ mk h (lk n a R) = true → u.1 = bI (good ∧ h = false ∧ R = n) ∧ u.2.2.2.2.1 = iI (-((b4 h * c : Nat) : Int))))) := by
  have hn := ht.1
  unfold f_Mod_literal_66
  rw [nI_add]
  refine ok_ii (nI_eq (b := 0) (by omega) (by decide)) (fun q => ?_) (fun q => ?_)
  · exact ok_s ⟨rfl, rfl, rfl, fun _ => rfl, fun g => absurd q g⟩
  · have t144 : ok (f_Mod_literal_144 fu N M (hI h) (nI n) a (bI (mk h (lk n a R) = true)) aM (nI R) dgs (iI (-((b4 h * c : Nat) : Int))) g aa) (fun u => u.2.1 = aM ∧ u.2.2.2.1 = dgs ∧ u.2.2.2.2.2.2 = aa ∧ (c1 + c = 0 → u.1 = 0) ∧ (¬ c1 + c = 0 →
      (mk h (lk n a R) = true → u.1 = bI (good ∧ ¬ ((een (lk n a) n R).1 = eds (lk n a) R ∨ (een (lk n a) n R).1 < (een (lk n a) n R).2) ∧ (een (lk n a) n R).2 = n) ∧ u.2.2.2.2.1 = iI (-((b4 h * c : Nat) : Int) + exm (lk n a) n R)) ∧
      (¬ mk h (lk n a R) = true → u.1 = bI (good ∧ h = false ∧ R = n) ∧ u.2.2.2.2.1 = iI (-((b4 h * c : Nat) : Int))))) := by
      unfold f_Mod_literal_144
      refine ok_ii bI_0 (fun q2 => ?_) (fun q2 => ?_)
      · refine ok_m (mod_lit_155 (has := mk h (lk n a R) = true) hn hR hg) (fun u hu => ⟨hu.2.1, hu.2.2.1, hu.2.2.2.2, fun g2 => absurd g2 q, fun _ => ⟨fun g2 => absurd g2 q2, fun _ => ⟨?_, hu.2.2.2.1⟩⟩⟩)
        rw [hu.1]
        unfold bI
        simp [q2]
      · have q2 : mk h (lk n a R) = true := Decidable.of_not_not q2
        have hRn : R < n := lk_n (fun g => by rw [g] at q2; exact mk_0 q2)
        have hds := eds_le (a := a) hRn
        have hru := ru_f (h := false) (L := lk n a) (s := eds (lk n a) R) (n - eds (lk n a) R) (eds (lk n a) R) (eds (lk n a) R) (Nat.le_refl _) (Nat.le_refl _) (fun j g1 g2 => by omega) (fun _ => rfl)
        have hR3 : (een (lk n a) n R).2 ≤ n := by
          unfold een
          omega
        refine ok_b (mod_exp ht hN hN2 hfu hRn) (fun r hr => ?_)
        have hg2 : r.2.2 = bI (good ∧ ¬ ((een (lk n a) n R).1 = eds (lk n a) R ∨ (een (lk n a) n R).1 < (een (lk n a) n R).2)) := by
          rw [hr.2.2]
          by_cases q3 : (een (lk n a) n R).1 = eds (lk n a) R ∨ (een (lk n a) n R).1 < (een (lk n a) n R).2
          · rw [if_pos q3, bI_f (fun g => g.2 q3)]
          · rw [if_neg q3, hg]
            unfold bI
            by_cases q4 : good
            · rw [if_pos q4, if_pos ⟨q4, q3⟩]
            · rw [if_neg q4, if_neg (fun g => q4 g.1)]
        rw [hr.1, hr.2.1]
        refine ok_m (mod_lit_155 (has := mk h (lk n a R) = true) hn hR3 hg2) (fun u hu => ⟨hu.2.1, hu.2.2.1, hu.2.2.2.2, fun g2 => absurd g2 q, fun _ => ⟨fun _ => ⟨?_, hu.2.2.2.1⟩, fun g2 => absurd q2 g2⟩⟩)
        rw [hu.1]
        unfold bI
        simp [q2, and_assoc]
    cases h with
    | false =>
      refine ok_t rfl ?_
      have e1 : -nI c = iI (-((b4 false * c : Nat) : Int)) := by
        rw [← iI_nat, iI_neg]
        show _ = iI (-((1 * c : Nat) : Int))
        rw [Nat.one_mul]
      rw [e1]
      unfold f_Mod_literal_88
      refine ok_t rfl (ok_be (mod_look ht hN hN2 (by omega)) ?_)
      refine ok_ii (li_eq (k := 101) rfl (lk_lt ht) (by decide)) (fun q2 => ?_) (fun q2 => ?_)
      · rw [bI_t (mk_f.mpr (Or.inl q2))] at t144
        exact t144
      · refine ok_be (mod_look ht hN hN2 (by omega)) (ok_ii (li_eq (k := 69) rfl (lk_lt ht) (by decide)) (fun q3 => ?_) (fun q3 => ?_))
        · rw [bI_t (mk_f.mpr (Or.inr q3))] at t144
          exact t144
        · rw [bI_f (fun g => by have := mk_f.mp g; omega)] at t144
          exact t144
    | true =>
      refine ok_f (by decide) ?_
      have e1 : (-4) * nI c = iI (-((b4 true * c : Nat) : Int)) := by
        rw [← iI_nat, show (-4 : Int32) = iI (-4) from rfl, iI_mul]
        show _ = iI (-((4 * c : Nat) : Int))
        congr 1
        try omega
      rw [e1]
      unfold f_Mod_literal_88
      refine ok_f (by decide) (ok_be (mod_look ht hN hN2 (by omega)) ?_)
      refine ok_ii (li_eq (k := 112) rfl (lk_lt ht) (by decide)) (fun q2 => ?_) (fun q2 => ?_)
      · rw [bI_t (mk_t.mpr (Or.inl q2))] at t144
        exact t144
      · refine ok_be (mod_look ht hN hN2 (by omega)) (ok_ii (li_eq (k := 80) rfl (lk_lt ht) (by decide)) (fun q3 => ?_) (fun q3 => ?_))
        · rw [bI_t (mk_t.mpr (Or.inr q3))] at t144
          exact t144
        · rw [bI_f (fun g => by have := mk_t.mp g; omega)] at t144
          exact t144
theorem mod_lit {h : Bool} {aM at0 dgs pw g : Int32} {aa : Nat → Int32} (hh : h = hx (lk n a)) (ht : tx n a) (hN : 1200 ≤ N) (hN2 : N < 2 ^ 31) (hM : M = 520) (hfu : 1200 < fu) : ok (f_Mod_literal fu N M (hI h) (nI n) aM at0 dgs pw g a aa) (mlq h n M (lk n a)) := by
  have hn := ht.1
  have hs0 : s0 h ≤ n := by rw [hh]; exact hx_s0
  have f1 := q1_f (h := h) (L := lk n a) hs0
  have f2 := q2_f (h := h) (n := n) (e := (q1 h (lk n a) n).2) (a := a) f1.2.2.1
  have key : ok (f_Mod_literal_10 fu N M (hI h) (nI n) a (nI (s0 h)) aM at0 dgs pw g aa) (mlq h n M (lk n a)) := by
    unfold f_Mod_literal_10
    have hb0 : bm M 0 (0 : Int32) aa := ⟨0, rfl, by omega, rfl, fun i hi => by omega, fun g => by omega⟩
    have hp0 : 0 < 16 ^ s0 h := Nat.pow_pos (by decide)
    refine ok_b (mod_row (h := h) (s := s0 h) (v := 0) (z := 0) (g := 1) ht hN hN2 hM hfu hs0 (Nat.zero_le _) hp0 hb0) (fun r hr => ?_)
    obtain ⟨r1, r2, r3, r4, r5, r6, r7, r8⟩ := hr
    change r.1 = nI (w1 h (lk n a) n).2.1 at r1
    change bm M (w1 h (lk n a) n).1 _ _ at r2
    change r.2.2.1 = nI (q1 h (lk n a) n).2 at r3
    change r.2.2.2.1 = nI (w1 h (lk n a) n).2.2 at r4
    change _ = (if (q1 h (lk n a) n).1 < (q1 h (lk n a) n).2 then _ else _) at r5
    change (w1 h (lk n a) n).2.1 ≤ (q1 h (lk n a) n).2 at r6
    change (w1 h (lk n a) n).2.2 ≤ (q1 h (lk n a) n).2 at r7
    change (w1 h (lk n a) n).1 < 16 ^ (q1 h (lk n a) n).2 at r8
    rw [r1, r3, r4]
    refine ok_be (mod_look ht hN hN2 (by omega)) ?_
    refine ok_ii (li_eq (k := 46) rfl (lk_lt ht) (by decide)) (fun q => ?_) (fun q => ?_)
    · have eP : pp (lk n a) (q1 h (lk n a) n).2 = (q1 h (lk n a) n).2 + 1 := by unfold pp; rw [if_pos q]
      have e2 : q2 h (lk n a) n (q1 h (lk n a) n).2 = ru h (lk n a) ((q1 h (lk n a) n).2 + 1) (n - ((q1 h (lk n a) n).2 + 1)) ((q1 h (lk n a) n).2 + 1) ((q1 h (lk n a) n).2 + 1) := by unfold q2; rw [if_pos q]
      have hlt : (q1 h (lk n a) n).2 < n := lk_n (a := a) (by rw [q]; decide)
      rw [nI_1]
      have hpw : 16 ^ (q1 h (lk n a) n).2 ≤ 16 ^ ((q1 h (lk n a) n).2 + 1) := Nat.pow_le_pow_right (by decide) (by omega)
      refine ok_b (mod_row (h := h) (s := (q1 h (lk n a) n).2 + 1) (v := (w1 h (lk n a) n).1) (z := (w1 h (lk n a) n).2.2) ht hN hN2 hM hfu (by omega) (by omega) (by omega) r2) (fun t htt => ?_)
      rw [← e2] at htt
      have ew : w2 h (lk n a) n (q1 h (lk n a) n).2 = fk h (lk n a) ((q1 h (lk n a) n).2 + 1) ((w1 h (lk n a) n).1, 0, (w1 h (lk n a) n).2.2) ((q2 h (lk n a) n (q1 h (lk n a) n).2).1 - ((q1 h (lk n a) n).2 + 1)) := by unfold w2; rw [eP]
      rw [← ew] at htt
      obtain ⟨u1, u2, u3, u4, u5, u6, u7, u8⟩ := htt
      rw [u1, u3, u4]
      have hpw2 : 16 ^ (q2 h (lk n a) n (q1 h (lk n a) n).2).2 ≤ 16 ^ n := Nat.pow_le_pow_right (by decide) (by omega)
      have hgood : t.2.2.2.2.1 = bI ((q1 h (lk n a) n).1 = (q1 h (lk n a) n).2 ∧ (q2 h (lk n a) n (q1 h (lk n a) n).2).1 = (q2 h (lk n a) n (q1 h (lk n a) n).2).2) := by
        rw [u5, r5]
        by_cases g1 : (q2 h (lk n a) n (q1 h (lk n a) n).2).1 < (q2 h (lk n a) n (q1 h (lk n a) n).2).2
        · rw [if_pos g1, bI_f (by omega)]
        · rw [if_neg g1]
          by_cases g2 : (q1 h (lk n a) n).1 < (q1 h (lk n a) n).2
          · rw [if_pos g2, bI_f (by omega)]
          · rw [if_neg g2, bI_t (by omega)]
      refine ok_m (mod_lit_66 (h := h) ht hN hN2 hfu f2.2.2.2.2.1 (by omega) (by omega) hgood) (fun u hu => ?_)
      exact ⟨by rw [hu.1, hu.2.2.1]; exact u2, hu.2.1, by omega, by omega, hu.2.2.2.1, hu.2.2.2.2⟩
    · have eP : pp (lk n a) (q1 h (lk n a) n).2 = (q1 h (lk n a) n).2 := by unfold pp; rw [if_neg q]
      have e2 : q2 h (lk n a) n (q1 h (lk n a) n).2 = ((q1 h (lk n a) n).2, (q1 h (lk n a) n).2) := by unfold q2; rw [if_neg q]
      have ew : w2 h (lk n a) n (q1 h (lk n a) n).2 = ((w1 h (lk n a) n).1, 0, (w1 h (lk n a) n).2.2) := by unfold w2; rw [eP, e2]; dsimp only; rw [Nat.sub_self]; rfl
      have hpw2 : 16 ^ (q1 h (lk n a) n).2 ≤ 16 ^ n := Nat.pow_le_pow_right (by decide) (by omega)
      have hgood : r.2.2.2.2.1 = bI ((q1 h (lk n a) n).1 = (q1 h (lk n a) n).2 ∧ (q2 h (lk n a) n (q1 h (lk n a) n).2).1 = (q2 h (lk n a) n (q1 h (lk n a) n).2).2) := by
        rw [r5, e2]
        by_cases g2 : (q1 h (lk n a) n).1 < (q1 h (lk n a) n).2
        · rw [if_pos g2, bI_f (by omega)]
        · rw [if_neg g2, bI_t ⟨by omega, rfl⟩]
      have := mod_lit_66 (h := h) (fu := fu) (N := N) (M := M) (c1 := (w1 h (lk n a) n).2.1) (c := 0) (R := (q1 h (lk n a) n).2) (aM := r.2.1) (dgs := nI (w1 h (lk n a) n).2.2) (pw := 0) (aa := r.2.2.2.2.2) ht hN hN2 hfu (by omega) (by omega) (by omega) hgood
      refine ok_m this (fun u hu => ?_)
      unfold mlq
      rw [ew, e2] at *
      exact ⟨by rw [hu.1, hu.2.2.1]; exact r2, hu.2.1, by dsimp only; omega, by dsimp only; omega, hu.2.2.2.1, hu.2.2.2.2⟩
  unfold f_Mod_literal
  cases h with
  | false => exact ok_t rfl key
  | true => exact ok_f (by decide) key
end Lit
