-- class and reference take a text alike
theorem fk_c {h : Bool} {L : Nat → Nat} {s : Nat} {t : Nat × Nat × Nat} : ∀ k, (fk h L s t k).2.1 ≤ t.2.1 + k ∧ t.2.1 ≤ (fk h L s t k).2.1
  | 0 => ⟨Nat.le_refl _, Nat.le_refl _⟩
  | k + 1 => by
    have ih := fk_c (h := h) (L := L) (s := s) (t := t) k
    show (stp h (L (s + k)) (fk h L s t k)).2.1 ≤ _ ∧ _ ≤ (stp h (L (s + k)) (fk h L s t k)).2.1
    unfold stp
    split
    · omega
    · dsimp only; omega
def zi (B : Nat) (t : Nat × Nat × Nat) : Prop := t.1 < B ^ t.2.2 ∧ (0 < t.2.2 → B ^ (t.2.2 - 1) ≤ t.1)
theorem fk_zi {h : Bool} {L : Nat → Nat} {s : Nat} {t : Nat × Nat × Nat} (h0 : zi (bs h) t) : ∀ k, zi (bs h) (fk h L s t k)
  | 0 => h0
  | k + 1 => by
    have ih := fk_zi (h := h) (L := L) (s := s) (t := t) h0 k
    show zi (bs h) (stp h (L (s + k)) (fk h L s t k))
    generalize fk h L s t k = t at *
    unfold stp
    cases hd : dg h (L (s + k)) with
    | none => exact ih
    | some d =>
      have hdl := (dg_lt hd).1
      have hb := bs_le h
      obtain ⟨i1, i2⟩ := ih
      dsimp only
      by_cases q : t.1 * bs h + d = 0
      · rw [if_pos q]
        have hv : t.1 = 0 := by
          rcases Nat.eq_zero_or_pos t.1 with g | g
          · exact g
          · have := Nat.mul_pos g (show 0 < bs h by omega); omega
        have hz : t.2.2 = 0 := by
          rcases Nat.eq_zero_or_pos t.2.2 with g | g
          · exact g
          · have := i2 g
            have := Nat.pow_pos (n := t.2.2 - 1) (show 0 < bs h by omega)
            omega
        refine ⟨?_, ?_⟩
        · rw [q, hz]; dsimp only; rw [Nat.pow_zero]; decide
        · intro g; dsimp only at g; omega
      · rw [if_neg q]
        refine ⟨?_, fun _ => ?_⟩
        · dsimp only
          rw [Nat.pow_succ]
          have h1 : t.1 * bs h + d < (t.1 + 1) * bs h := by rw [Nat.add_mul, Nat.one_mul]; omega
          have h2 : (t.1 + 1) * bs h ≤ bs h ^ t.2.2 * bs h := Nat.mul_le_mul_right _ i1
          omega
        · dsimp only
          rw [Nat.add_sub_cancel]
          rcases Nat.eq_zero_or_pos t.2.2 with g | g
          · rw [g, Nat.pow_zero]; omega
          · have := i2 g
            have h3 := Nat.mul_le_mul_right (bs h) this
            rw [← Nat.pow_succ, Nat.succ_eq_add_one, Nat.sub_add_cancel g] at h3
            omega
theorem ru_s {h : Bool} {L : Nat → Nat} {s k : Nat} (hne : ¬ (ru h L s k s s).1 = s) : (dg h (L s)).isSome = true := by
  cases k with
  | zero => exact absurd rfl hne
  | succ k =>
    cases g : (dg h (L s)).isSome with
    | true => rfl
    | false =>
      exfalso
      apply hne
      unfold ru
      rw [g, if_neg (by decide), if_neg (fun q => q.2 rfl)]
theorem cnt_0 {h : Bool} {L : Nat → Nat} {s k v z : Nat} (hle : s ≤ (ru h L s k s s).1) : (fk h L s (v, 0, z) ((ru h L s k s s).1 - s)).2.1 = 0 ↔ (ru h L s k s s).1 = s := by
  constructor
  · intro q
    by_cases g : (ru h L s k s s).1 = s
    · exact g
    · exfalso
      have hd := ru_s g
      obtain ⟨m, hm⟩ : ∃ m, (ru h L s k s s).1 - s = 1 + m := ⟨(ru h L s k s s).1 - s - 1, by omega⟩
      have key : ∀ m, 0 < (fk h L s (v, 0, z) (1 + m)).2.1 := by
        intro m
        induction m with
        | zero =>
          show 0 < (stp h (L (s + 0)) (v, 0, z)).2.1
          rw [Nat.add_zero]
          unfold stp
          cases hdd : dg h (L s) with
          | none => rw [hdd] at hd; exact absurd hd (by decide)
          | some d => simp
        | succ m ih =>
          rw [← Nat.add_assoc]
          show 0 < (stp h (L (s + (1 + m))) (fk h L s (v, 0, z) (1 + m))).2.1
          unfold stp
          split
          · exact ih
          · dsimp only; omega
      rw [hm] at q
      have := key m
      omega
  · intro q
    rw [q, Nat.sub_self]
    rfl
/-- exponents that are the same, or both far away -/
def xr (c m : Int) : Prop := (c = m ∧ -1000000 ≤ m ∧ m ≤ 1000000) ∨ (c = 1000000 ∧ 1000000 ≤ m ∧ m ≤ 100000009) ∨ (c = -1000000 ∧ m ≤ -1000000 ∧ -100000009 ≤ m)
theorem xr_x {L : Nat → Nat} {n E : Nat} : xr (exv L n E) (exm L n E) := by
  unfold exv exm
  have := ek_r (L := L) (s := eds L E) ((een L n E).1 - eds L E)
  unfold er at this
  unfold xr
  split <;> omega
/-- what a literal says, in class and reference -/
def pC (h : Bool) (v z c : Nat) (ce : Int) (u : Int32 × Int32 × Int32 × Int32 × Int32 × (Nat → Int32)) : Prop :=
  u.1 = 1 ∧ u.2.2.2.1 = iI ce ∧ u.2.2.2.2.1 = hI h ∧ ∃ w, w ≤ z ∧ u.2.1 = nI w ∧ u.2.2.1 = iI ((c : Int) - (z - w : Nat)) ∧ v = dgv (bs h) u.2.2.2.2.2 w * bs h ^ (z - w) ∧ lt (bs h) v z u.2.2.2.2.2
def pM (h : Bool) (M v z c : Nat) (me : Int) (u : Int32 × Int32 × Int32 × Int32 × Int32 × Int32 × (Nat → Int32)) : Prop :=
  u.1 = 1 ∧ bm M v u.2.1 u.2.2.2.2.2.2 ∧ u.2.2.2.1 = nI z ∧ u.2.2.2.2.1 = iI (-((b4 h * c : Nat) : Int) + me)
theorem parse {fu N M D n : Nat} {a b : Nat → Int32} {h : Bool} (hh : h = hx (lk n a)) (ht : tx n a) (hab : ∀ i, i < n → b i = a i) (hN : 1200 ≤ N) (hN2 : N < 2 ^ 31) (hD : 1200 ≤ D) (hD2 : D < 2 ^ 31) (hM : M = 520) (hfu : 1200 < fu) :
    (∀ dc fr ex ih ds aM at0 dgs pw g aa, ok (f_Lit_scan fu D N dc fr ex ih ds 0 (nI n) a) (fun u => u.1 = 0) ∧ ok (f_Mod_literal fu N M (hI h) (nI n) aM at0 dgs pw g b aa) (fun u => u.1 = 0)) ∨
    (∃ v z c ce me, z ≤ n ∧ c ≤ n ∧ zi (bs h) (v, c, z) ∧ xr ce me ∧ ∀ dc fr ex ih ds aM at0 dgs pw g aa, ok (f_Lit_scan fu D N dc fr ex ih ds 0 (nI n) a) (pC h v z c ce) ∧ ok (f_Mod_literal fu N M (hI h) (nI n) aM at0 dgs pw g b aa) (pM h M v z c me)) := by
  have hn := ht.1
  have hlk : lk n b = lk n a := by
    funext i
    unfold lk
    by_cases q : i < n
    · rw [if_pos q, if_pos q, hab i q]
    · rw [if_neg q, if_neg q]
  have htb : tx n b := ⟨ht.1, fun i hi => by rw [hab i hi]; exact ht.2 i hi⟩
  have hs0 : s0 h ≤ n := by rw [hh]; exact hx_s0
  have f1 := q1_f (h := h) (L := lk n a) hs0
  have hC := fun dc fr ex ih ds => lit_scan (fu := fu) (N := N) (M := D) (dc := dc) (fr := fr) (ex := ex) (ih := ih) (ds := ds) hh ht hN hN2 hD hD2 hfu rfl rfl rfl rfl
  have hMo := fun aM at0 dgs pw g aa => mod_lit (fu := fu) (N := N) (M := M) (h := h) (a := b) (aM := aM) (at0 := at0) (dgs := dgs) (pw := pw) (g := g) (aa := aa) (by rw [hlk]; exact hh) htb hN hN2 hM hfu
  rw [hlk] at hMo
  unfold mlq at hMo
  by_cases c1 : (q1 h (lk n a) n).1 < (q1 h (lk n a) n).2
  · left
    have e95 := f1.2.2.2.1 (q1 h (lk n a) n).1 (Nat.le_refl _) c1
    have eP : pp (lk n a) (q1 h (lk n a) n).1 = (q1 h (lk n a) n).1 := by unfold pp; rw [e95, if_neg (by decide)]
    have e2 : q2 h (lk n a) n (q1 h (lk n a) n).1 = ((q1 h (lk n a) n).1, (q1 h (lk n a) n).1) := by unfold q2; rw [e95, if_neg (by decide)]
    intro dc fr ex ih ds aM at0 dgs pw g aa
    refine ⟨ok_m (hC dc fr ex ih ds) (fun u hu => ?_), ok_m (hMo aM at0 dgs pw g aa) (fun u hu => ?_)⟩
    · rw [eP, e2] at hu
      have h2 := (hu.2 (fun g => by have := f1.2.2.2.2 g.1; omega)).1.2 (by dsimp only; rw [e95]; exact mk_95)
      rw [h2.1]
      exact bI_f (by dsimp only; omega)
    · obtain ⟨_, _, _, _, m5, m6⟩ := hu
      by_cases q : (w1 h (lk n a) n).2.1 + (w2 h (lk n a) n (q1 h (lk n a) n).2).2.1 = 0
      · exact m5 q
      · by_cases q3 : mk h (lk n a (q2 h (lk n a) n (q1 h (lk n a) n).2).2) = true
        · rw [((m6 q).1 q3).1]; exact bI_f (fun g => by have := g.1.1; omega)
        · rw [((m6 q).2 q3).1]; exact bI_f (fun g => by have := g.1.1; omega)
  · have hR1 : (q1 h (lk n a) n).2 = (q1 h (lk n a) n).1 := by omega
    rw [hR1] at hMo
    generalize hE1 : (q1 h (lk n a) n).1 = E1 at *
    have f2 := q2_f (h := h) (n := n) (e := E1) (a := a) (by omega)
    generalize hPP : pp (lk n a) E1 = P at *
    by_cases c2 : (q2 h (lk n a) n E1).1 < (q2 h (lk n a) n E1).2
    · left
      have e95 := f2.2.2.2.2.2.1 (q2 h (lk n a) n E1).1 (Nat.le_refl _) c2
      intro dc fr ex ih ds aM at0 dgs pw g aa
      refine ⟨ok_m (hC dc fr ex ih ds) (fun u hu => ?_), ok_m (hMo aM at0 dgs pw g aa) (fun u hu => ?_)⟩
      · have h2 := (hu.2 (fun g => by have := f2.2.2.2.2.2.2 g.2; omega)).1.2 (by rw [e95]; exact mk_95)
        rw [h2.1]
        exact bI_f (by omega)
      · obtain ⟨_, _, _, _, m5, m6⟩ := hu
        by_cases q : (w1 h (lk n a) n).2.1 + (w2 h (lk n a) n E1).2.1 = 0
        · exact m5 q
        · by_cases q3 : mk h (lk n a (q2 h (lk n a) n E1).2) = true
          · rw [((m6 q).1 q3).1]; exact bI_f (fun g => by have := g.1.2; omega)
          · rw [((m6 q).2 q3).1]; exact bI_f (fun g => by have := g.1.2; omega)
    · have hR2 : (q2 h (lk n a) n E1).2 = (q2 h (lk n a) n E1).1 := by omega
      rw [hR2] at hMo
      have hcnt : (w1 h (lk n a) n).2.1 + (w2 h (lk n a) n E1).2.1 = 0 ↔ E1 = s0 h ∧ (q2 h (lk n a) n E1).1 = P := by
        have a1 : (w1 h (lk n a) n).2.1 = 0 ↔ E1 = s0 h := by
          unfold w1
          have := cnt_0 (h := h) (L := lk n a) (s := s0 h) (k := n - s0 h) (v := 0) (z := 0) (by have := f1.1; rw [← hE1] at this; exact this)
          rw [hE1]
          change _ ↔ (q1 h (lk n a) n).1 = s0 h at this
          rw [hE1] at this
          rw [← this]
          change _ ↔ (fk h (lk n a) (s0 h) (0, 0, 0) ((q1 h (lk n a) n).1 - s0 h)).2.1 = 0
          rw [hE1]
        have a2 : (w2 h (lk n a) n E1).2.1 = 0 ↔ (q2 h (lk n a) n E1).1 = P := by
          unfold w2
          rw [hPP]
          by_cases q : lk n a E1 = 46
          · have eP : P = E1 + 1 := by rw [← hPP]; unfold pp; rw [if_pos q]
            have e2 : q2 h (lk n a) n E1 = ru h (lk n a) P (n - P) P P := by unfold q2; rw [if_pos q, eP]
            rw [e2] at f2 ⊢
            exact cnt_0 f2.2.2.1
          · have eP : P = E1 := by rw [← hPP]; unfold pp; rw [if_neg q]
            have e2 : q2 h (lk n a) n E1 = (P, P) := by unfold q2; rw [if_neg q, eP]
            rw [e2]
            dsimp only
            rw [Nat.sub_self]
            exact ⟨fun _ => rfl, fun _ => rfl⟩
        omega
      generalize hE2 : (q2 h (lk n a) n E1).1 = E2 at *
      by_cases c3 : E1 = s0 h ∧ E2 = P
      · left
        intro dc fr ex ih ds aM at0 dgs pw g aa
        exact ⟨ok_m (hC dc fr ex ih ds) (fun u hu => hu.1 c3), ok_m (hMo aM at0 dgs pw g aa) (fun u hu => hu.2.2.2.2.1 (hcnt.mpr c3))⟩
      · have c4 : ¬ (w1 h (lk n a) n).2.1 + (w2 h (lk n a) n E1).2.1 = 0 := fun g => c3 (hcnt.mp g)
        have hz1 : zi (bs h) (w1 h (lk n a) n) := fk_zi (by exact ⟨by show 0 < bs h ^ 0; rw [Nat.pow_zero]; decide, fun g => absurd g (by decide)⟩) _
        have hz2 : zi (bs h) (w2 h (lk n a) n E1) := fk_zi (by exact hz1) _
        have hcn : (w2 h (lk n a) n E1).2.1 ≤ n := by
          have := fk_c (h := h) (L := lk n a) (s := pp (lk n a) E1) (t := ((w1 h (lk n a) n).1, 0, (w1 h (lk n a) n).2.2)) ((q2 h (lk n a) n E1).1 - pp (lk n a) E1)
          change (w2 h (lk n a) n E1).2.1 ≤ 0 + _ ∧ _ at this
          rw [hE2] at this
          omega
        generalize w2 h (lk n a) n E1 = t2 at *
        have hzn : t2.2.2 ≤ n := by
          obtain ⟨u, _, hu⟩ := hC 0 0 0 0 (fun _ => 0)
          obtain ⟨w, _, _, _, _, _, b6⟩ := (hu.2 c3).2.2
          exact b6
        have zi2 : zi (bs h) (t2.1, t2.2.1, t2.2.2) := hz2
        by_cases c5 : mk h (lk n a E2) = true
        · have hE2n : E2 < n := lk_n (fun g => by rw [g] at c5; exact mk_0 c5)
          have hds := eds_le (a := a) hE2n
          have hru := ru_f (h := false) (L := lk n a) (s := eds (lk n a) E2) (n - eds (lk n a) E2) (eds (lk n a) E2) (eds (lk n a) E2) (Nat.le_refl _) (Nat.le_refl _) (fun j g1 g2 => by omega) (fun _ => rfl)
          have hru2 : eds (lk n a) E2 ≤ (een (lk n a) n E2).1 ∧ (een (lk n a) n E2).1 ≤ (een (lk n a) n E2).2 ∧ (een (lk n a) n E2).2 ≤ n := ⟨hru.1, hru.2.1, by unfold een; omega⟩
          by_cases c6 : eds (lk n a) E2 < (een (lk n a) n E2).1 ∧ (een (lk n a) n E2).1 = n
          · right
            refine ⟨t2.1, t2.2.2, t2.2.1, exv (lk n a) n E2, exm (lk n a) n E2, hzn, hcn, zi2, xr_x, fun dc fr ex ih ds aM at0 dgs pw g aa => ⟨ok_m (hC dc fr ex ih ds) (fun u hu => ?_), ok_m (hMo aM at0 dgs pw g aa) (fun u hu => ?_)⟩⟩
            · have h2 := hu.2 c3
              obtain ⟨w, b1, b2, b3, b4, b5, _⟩ := h2.2.2
              exact ⟨by rw [(h2.1.1 c5).1]; exact bI_t c6, (h2.1.1 c5).2, h2.2.1, w, b1, b2, b3, b4, b5⟩
            · obtain ⟨m1, m2, m3, m4, m5, m6⟩ := hu
              have h2 := (m6 c4).1 c5
              exact ⟨by rw [h2.1]; exact bI_t (by omega), m1, m2, h2.2⟩
          · left
            intro dc fr ex ih ds aM at0 dgs pw g aa
            refine ⟨ok_m (hC dc fr ex ih ds) (fun u hu => ?_), ok_m (hMo aM at0 dgs pw g aa) (fun u hu => ?_)⟩
            · rw [((hu.2 c3).1.1 c5).1]; exact bI_f c6
            · rw [((hu.2.2.2.2.2 c4).1 c5).1]; exact bI_f (by omega)
        · by_cases c6 : h = false ∧ E2 = n
          · right
            refine ⟨t2.1, t2.2.2, t2.2.1, 0, 0, hzn, hcn, zi2, Or.inl ⟨rfl, by decide, by decide⟩, fun dc fr ex ih ds aM at0 dgs pw g aa => ⟨ok_m (hC dc fr ex ih ds) (fun u hu => ?_), ok_m (hMo aM at0 dgs pw g aa) (fun u hu => ?_)⟩⟩
            · have h2 := hu.2 c3
              obtain ⟨w, b1, b2, b3, b4, b5, _⟩ := h2.2.2
              exact ⟨by rw [(h2.1.2 c5).1]; exact bI_t c6, (h2.1.2 c5).2, h2.2.1, w, b1, b2, b3, b4, b5⟩
            · obtain ⟨m1, m2, m3, m4, m5, m6⟩ := hu
              have h2 := (m6 c4).2 c5
              exact ⟨by rw [h2.1]; exact bI_t ⟨⟨rfl, rfl⟩, c6⟩, m1, m2, by rw [h2.2]; congr 1; omega⟩
          · left
            intro dc fr ex ih ds aM at0 dgs pw g aa
            refine ⟨ok_m (hC dc fr ex ih ds) (fun u hu => ?_), ok_m (hMo aM at0 dgs pw g aa) (fun u hu => ?_)⟩
            · rw [((hu.2 c3).1.2 c5).1]; exact bI_f c6
            · rw [((hu.2.2.2.2.2 c4).2 c5).1]; exact bI_f (fun g => c6 g.2)
