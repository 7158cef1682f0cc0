-- read, in class and reference
theorem lN_m {b : Nat} (hb : b < 2 ^ 63) : ¬ lN b = -1 ∧ ¬ lN b = -2 := by
  have h1 := pk_lT hb
  constructor
  · intro q
    rw [q] at h1
    have : (-1 : Int64).toInt = -1 := by decide
    omega
  · intro q
    rw [q] at h1
    have : (-2 : Int64).toInt = -2 := by decide
    omega
/-- no literal -/
def mN (len we no be : Int32) (u : Int64 × Int32 × Int32 × Int32 × Int32 × Int32 × Int32 × Int32 × Int32 × Int32 × Int32 × Int32 × Int32 × Int32 × Int32 × (Nat → Int32) × (Nat → Int32) × (Nat → Int32) × (Nat → Int32)) : Prop := u.2.1 = len ∧ u.2.2.1 = 1 ∧ u.2.2.2.1 = we ∧ u.2.2.2.2.1 = no + 1 ∧ u.2.2.2.2.2.1 = be
theorem read_bits {fu n x f M : Nat} {lp : Int} {a b : Nat → Int32} {x1 : Int32} (hf : fs x1 f lp M) (hfm : fm x f lp M) (ht : tx n a) (hab : ∀ i, i < n → b i = a i) (hfu : 6000 < fu)
    {dc fr ex ih : Int32} {ds : Nat → Int32} {ql : Int64} {qp qm qn qd : Int32} {qa qb : Nat → Int32} {th we no be aM bM lM rM tw at0 dgs pw gd : Int32} {aa ba L R : Nat → Int32} :
    ∃ r : Int64, ok (f_RT_bitsOfText fu 1200 1200 128 128 x 0 (nI n) a dc fr ex ih ds ql qp qm qn qa qd qb) (fun u => u.1 = r) ∧ ok (f_Mod_read fu 1200 520 520 520 520 x1 (nI n) th we no be aM bM lM rM tw at0 dgs pw gd b aa ba L R) (fun w => (r = -1 ∧ mN 0 we no be w) ∨ (r = -2 ∧ mF 0 we no be w) ∨ (∃ y, y < 2 ^ 63 ∧ r = lN y ∧ mS (lN y) 0 we no be w)) := by
  have hn := ht.1
  have hbb := fs_b hf
  have hG : 0 < M * 2 ^ f := Nat.mul_pos (by omega) (Nat.two_pow_pos f)
  obtain ⟨h, hh⟩ : ∃ h, h = hx (lk n a) := ⟨_, rfl⟩
  obtain ⟨K, hK⟩ : ∃ K : Nat, 3000000 ≤ K := ⟨3000000, Nat.le_refl _⟩
  have hlk : lk n b = lk n a := by
    funext i
    unfold lk
    by_cases q : i < n
    · rw [if_pos q, if_pos q, hab i q]
    · rw [if_neg q, if_neg q]
  have htb : tx n b := ⟨ht.1, fun i hi => by rw [hab i hi]; exact ht.2 i hi⟩
  have hbin : f_Mod_isBinary 1200 (nI n) b = some (hI h) := by rw [mod_bin htb (by decide) (by decide), hlk, hh]
  rcases parse (fu := fu) (N := 1200) (M := 520) (D := 1200) hh ht hab (by decide) (by decide) (by decide) (by decide) rfl (by omega) with hp | ⟨v, z, c, ce, me, hz, hc, hzi, hxr, hp⟩
  · -- no literal
    refine ⟨-1, ?_, ?_⟩
    · unfold f_RT_bitsOfText
      refine ok_b (hp dc fr ex ih ds aM at0 dgs pw gd aa).1 (fun u hu => ok_t hu (ok_s rfl))
    · unfold f_Mod_read
      refine ok_be hbin (ok_b (hp dc fr ex ih ds aM at0 dgs pw gd aa).2 (fun u hu => ok_t hu ?_))
      exact ok_s (Or.inl ⟨rfl, rfl, rfl, rfl, rfl, rfl⟩)
  · obtain ⟨hpC, hpM⟩ := hp dc fr ex ih ds aM at0 dgs pw gd aa
    obtain ⟨uc, hcE, c1, c2, c3, w, w1, w2, w3, w4, w5⟩ := hpC
    have hbs := bs_le h
    have hce : -1000000 ≤ ce ∧ ce ≤ 1000000 := by unfold xr at hxr; omega
    have hme : -100000009 ≤ me ∧ me ≤ 100000009 := by unfold xr at hxr; omega
    have hb4 : b4 h = 1 ∨ b4 h = 4 := by cases h; exact Or.inl rfl; exact Or.inr rfl
    have hpw0 : 0 < bs h ^ (z - w) := Nat.pow_pos (by omega)
    by_cases hv0 : v = 0
    · -- zero
      have hz0 : z = 0 := w5.2.2.mp hv0
      have hw0 : w = 0 := by omega
      refine ⟨lN 0, ?_, ?_⟩
      · unfold f_RT_bitsOfText
        refine ok_be hcE (ok_f (by rw [c1]; decide) (ok_t (by rw [w2, hw0]; rfl) (ok_s rfl)))
      · unfold f_Mod_read
        refine ok_be hbin (ok_b hpM (fun u hu => ?_))
        obtain ⟨m1, m2, m3, m4⟩ := hu
        refine ok_f (by rw [m1]; decide) ?_
        have ha : u.2.1 ≤ 0 := (bm_pos (by decide) m2).mpr hv0
        have t64 : ∀ (y k0 : Int32), ok (f_Mod_read_64 fu 1200 520 520 520 520 x1 b y k0 0 th we no be u.2.1 bM lM rM tw u.2.2.1 u.2.2.2.1 u.2.2.2.2.1 u.2.2.2.2.2.1 u.2.2.2.2.2.2 ba L R) (fun w => (lN 0 = -1 ∧ mN 0 we no be w) ∨ (lN 0 = -2 ∧ mF 0 we no be w) ∨ (∃ y, y < 2 ^ 63 ∧ lN 0 = lN y ∧ mS (lN y) 0 we no be w)) := by
          intro y k0
          unfold f_Mod_read_64
          refine ok_t ha (ok_s (Or.inr (Or.inr ⟨0, by decide, rfl, rfl, rfl, rfl, rfl, rfl, rfl⟩)))
        exact ok_if (fun _ => t64 _ _) (fun _ => t64 _ _)
    · have hz0 : 0 < z := by
        rcases Nat.eq_zero_or_pos z with g | g
        · exact absurd (w5.2.2.mpr g) hv0
        · exact g
      have hD0 : 0 < dgv (bs h) uc.2.2.2.2.2 w := by
        rcases Nat.eq_zero_or_pos (dgv (bs h) uc.2.2.2.2.2 w) with g | g
        · rw [g, Nat.zero_mul] at w4; exact absurd w4 hv0
        · exact g
      have hw0 : 0 < w := by
        rcases Nat.eq_zero_or_pos w with g | g
        · rw [g] at hD0; exact absurd hD0 (by simp [dgv])
        · exact g
      have hlo := hzi.2 hz0
      have hhi := hzi.1
      dsimp only at hlo hhi
      -- the reference
      have hM64 : ∀ u, pM h 520 v z c me u → ok (if hI h = 0 then f_Mod_read_64 fu 1200 520 520 520 520 x1 b (hI h) (u.2.2.2.2.1 + u.2.2.2.1) 0 th we no be u.2.1 bM lM rM tw u.2.2.1 u.2.2.2.1 u.2.2.2.2.1 u.2.2.2.2.2.1 u.2.2.2.2.2.2 ba L R else f_Mod_read_64 fu 1200 520 520 520 520 x1 b (hI h) (u.2.2.2.2.1 + (4 * u.2.2.2.1)) 0 th we no be u.2.1 bM lM rM tw u.2.2.1 u.2.2.2.1 u.2.2.2.2.1 u.2.2.2.2.2.1 u.2.2.2.2.2.2 ba L R) (fun u => ((hiL h < (-((b4 h * c : Nat) : Int) + me) + (b4 h * z : Nat) ∨ (-((b4 h * c : Nat) : Int) + me) + (b4 h * z : Nat) < loL h) → mF 0 we no be u) ∧ (loL h ≤ (-((b4 h * c : Nat) : Int) + me) + (b4 h * z : Nat) ∧ (-((b4 h * c : Nat) : Int) + me) + (b4 h * z : Nat) ≤ hiL h → ∃ y, y ≤ M * 2 ^ f ∧ rdM f M (lp + K).toNat (v * (if h then 1 else 5 ^ (-((b4 h * c : Nat) : Int) + me).toNat) * 2 ^ ((-((b4 h * c : Nat) : Int) + me) + K).toNat) (if h then 1 else 5 ^ (-(-((b4 h * c : Nat) : Int) + me)).toNat) y ∧ (y = 0 ∨ M * 2 ^ f ≤ y → mF 0 we no be u) ∧ (¬ (y = 0 ∨ M * 2 ^ f ≤ y) → mS (lN y) 0 we no be u))) := by
        intro u hu
        obtain ⟨m1, m2, m3, m4⟩ := hu
        have e1 := mod_64 (fu := fu) (n := 1200) (v := v) (z := z) (K := K) (T := -((b4 h * c : Nat) : Int) + me) (h := h) (tx0 := b) (len := 0) (th := th) (we := we) (no := no) (be := be) (bM := bM) (lM := lM) (rM := rM) (tw := tw) (at0 := u.2.2.1) (dgs := u.2.2.2.1) (gd := u.2.2.2.2.2.1) (ba := ba) (L := L) (R := R) hf (by omega) (by omega) m2 (by omega) (by omega) (by rcases hb4 with g | g <;> rw [g] <;> omega) (by rcases hb4 with g | g <;> rw [g] <;> omega) ⟨hhi, fun _ => hlo⟩
        cases h with
        | false =>
          refine ok_t rfl ?_
          have e2 : u.2.2.2.2.1 + u.2.2.2.1 = iI ((-((b4 false * c : Nat) : Int) + me) + (b4 false * z : Nat)) := by
            rw [m4, m3, ← iI_nat, iI_add]
            show _ = iI (_ + ((1 * z : Nat) : Int))
            rw [Nat.one_mul]
          rw [e2, m4]
          exact e1
        | true =>
          refine ok_f (by decide) ?_
          have e2 : u.2.2.2.2.1 + (4 * u.2.2.2.1) = iI ((-((b4 true * c : Nat) : Int) + me) + (b4 true * z : Nat)) := by
            rw [m4, m3, ← iI_nat, show (4 : Int32) = iI 4 from rfl, iI_mul, iI_add]
            show _ = iI (_ + ((4 * z : Nat) : Int))
            congr 1
          rw [e2, m4]
          exact e1
      have hmod : ∀ (Q : Int64 × Int32 × Int32 × Int32 × Int32 × Int32 × Int32 × Int32 × Int32 × Int32 × Int32 × Int32 × Int32 × Int32 × Int32 × (Nat → Int32) × (Nat → Int32) × (Nat → Int32) × (Nat → Int32) → Prop), (∀ u, ((hiL h < (-((b4 h * c : Nat) : Int) + me) + (b4 h * z : Nat) ∨ (-((b4 h * c : Nat) : Int) + me) + (b4 h * z : Nat) < loL h) → mF 0 we no be u) ∧ (loL h ≤ (-((b4 h * c : Nat) : Int) + me) + (b4 h * z : Nat) ∧ (-((b4 h * c : Nat) : Int) + me) + (b4 h * z : Nat) ≤ hiL h → ∃ y, y ≤ M * 2 ^ f ∧ rdM f M (lp + K).toNat (v * (if h then 1 else 5 ^ (-((b4 h * c : Nat) : Int) + me).toNat) * 2 ^ ((-((b4 h * c : Nat) : Int) + me) + K).toNat) (if h then 1 else 5 ^ (-(-((b4 h * c : Nat) : Int) + me)).toNat) y ∧ (y = 0 ∨ M * 2 ^ f ≤ y → mF 0 we no be u) ∧ (¬ (y = 0 ∨ M * 2 ^ f ≤ y) → mS (lN y) 0 we no be u)) → Q u) → ok (f_Mod_read fu 1200 520 520 520 520 x1 (nI n) th we no be aM bM lM rM tw at0 dgs pw gd b aa ba L R) Q := by
        intro Q hQ
        unfold f_Mod_read
        refine ok_be hbin (ok_b hpM (fun u hu => ?_))
        refine ok_f (by rw [hu.1]; decide) ?_
        exact ok_m (hM64 u hu) hQ
      cases h with
      | true =>
        have hhx := hex_c (fu := fu) (D := 1200) (x := x) (w := w) (arr := uc.2.2.2.2.2) (F := (c : Int) - (z - w : Nat)) (ce := ce) (K := K) hfm (by omega) (by omega) (by omega) (by decide) (fun i hi => w5.2.1 i (by omega)) hD0 (by omega) (by omega) hce.1 hce.2 hK
        obtain ⟨r, r1, r2⟩ := hhx
        have eX : dgv 16 uc.2.2.2.2.2 w * 2 ^ (ce - 4 * ((c : Int) - (z - w : Nat)) + K).toNat = v * 2 ^ (ce - 4 * c + K).toNat := by
          rw [w4]
          show _ = dgv 16 uc.2.2.2.2.2 w * 16 ^ (z - w) * _
          rw [Nat.mul_assoc, show (16 : Nat) ^ (z - w) = 2 ^ (4 * (z - w)) by rw [Nat.pow_mul], ← Nat.pow_add]
          congr 2
          omega
        rw [eX] at r2
        refine ⟨r, ?_, ?_⟩
        · unfold f_RT_bitsOfText
          refine ok_be hcE (ok_f (by rw [c1]; decide) (ok_f (by rw [w2]; exact nI_ne0 hw0 (by omega)) (ok_f (by rw [c3]; decide) ?_)))
          rw [w2, w3, c2]
          exact ok_be r1 (ok_s rfl)
        · apply hmod
          intro u hu
          have hb4t : b4 true = 4 := rfl
          simp only [hb4t, if_true, Nat.mul_one] at hu
          change ((1100 : Int) < _ ∨ _ < (-1200 : Int) → _) ∧ ((-1200 : Int) ≤ _ ∧ _ ≤ (1100 : Int) → _) at hu
          obtain ⟨u1, u2⟩ := hu
          unfold xr at hxr
          by_cases g1 : 1100 < (ce - 4 * c) + 4 * z
          · have hr := rdC_hi r2 (hex_hi hf hK hlo hz0 (by omega) (by omega))
            exact Or.inr (Or.inl ⟨hr, u1 (by omega)⟩)
          · by_cases g2 : (ce - 4 * c) + 4 * z < -1200
            · have hr := rdC_lo r2 (hex_lo hf hK hhi (by omega) (by omega))
              exact Or.inr (Or.inl ⟨hr, u1 (by omega)⟩)
            · have hcm : ce = me := by clear u1 u2 hmod hM64; omega
              subst hcm
              obtain ⟨y, y1, y2, y3, y4⟩ := u2 (by omega)
              rw [show -((4 * c : Nat) : Int) + ce = ce - 4 * c by omega] at y2
              have hcm := rdCM (by omega) (by decide) r2 y2
              by_cases g : y = 0 ∨ M * 2 ^ f ≤ y
              · rw [if_pos g] at hcm
                exact Or.inr (Or.inl ⟨hcm.2, y3 g⟩)
              · rw [if_neg g] at hcm
                exact Or.inr (Or.inr ⟨y, by omega, hcm.2, y4 g⟩)
      | false =>
        have hdc := dec_c (fu := fu) (D := 1200) (x := x) (w := w) (z := z) (c := c) (arr := uc.2.2.2.2.2) (F := (c : Int) - (z - w : Nat)) (ce := ce) (K := K) (ql := ql) (qp := qp) (qm := qm) (qn := qn) (qa := qa) (qd := qd) (qb := qb) hfm (by omega) (by omega) w1 (by omega) (by omega) (by decide) (fun i hi => w5.2.1 i (by omega)) hD0 rfl hce.1 hce.2 hK
        obtain ⟨r, r1, r2⟩ := hdc
        have eV : dgv 10 uc.2.2.2.2.2 w * 10 ^ (z - w) = v := w4.symm
        rw [eV] at r2
        refine ⟨r.1, ?_, ?_⟩
        · unfold f_RT_bitsOfText
          refine ok_be hcE (ok_f (by rw [c1]; decide) (ok_f (by rw [w2]; exact nI_ne0 hw0 (by omega)) (ok_t (by rw [c3]; rfl) ?_)))
          rw [w2, w3, c2]
          exact ok_be r1 (ok_s rfl)
        · apply hmod
          intro u hu
          have hb4f : b4 false = 1 := rfl
          simp only [hb4f, Bool.false_eq_true, if_false, Nat.one_mul] at hu
          change ((400 : Int) < _ ∨ _ < (-400 : Int) → _) ∧ ((-400 : Int) ≤ _ ∧ _ ≤ (400 : Int) → _) at hu
          obtain ⟨u1, u2⟩ := hu
          unfold xr at hxr
          by_cases g1 : 310 < (ce - c) + z
          · have hr := r2.1 (Or.inl g1)
            by_cases g2 : 400 < (-(c : Int) + me) + z
            · exact Or.inr (Or.inl ⟨hr, u1 (Or.inl g2)⟩)
            · have hcm : ce = me := by clear u1 u2 hmod hM64; omega
              subst hcm
              obtain ⟨y, y1, y2, y3, y4⟩ := u2 (by omega)
              rw [show -(c : Int) + ce = ce - c by omega] at y2
              have hy := rdM_hi (by omega) (Nat.pow_pos (by decide)) y2 (dec_hi hf hK hlo hz0 (by omega) (by omega))
              exact Or.inr (Or.inl ⟨hr, y3 (Or.inr hy)⟩)
          · by_cases g2 : (ce - c) + z < -330
            · have hr := r2.1 (Or.inr g2)
              by_cases g3 : (-(c : Int) + me) + z < -400
              · exact Or.inr (Or.inl ⟨hr, u1 (Or.inr g3)⟩)
              · have hcm : ce = me := by clear u1 u2 hmod hM64; omega
                subst hcm
                obtain ⟨y, y1, y2, y3, y4⟩ := u2 (by omega)
                rw [show -(c : Int) + ce = ce - c by omega] at y2
                have hy := rdM_lo (by omega) y2 (dec_lo hf hK hhi (by omega) (by omega))
                exact Or.inr (Or.inl ⟨hr, y3 (Or.inl hy)⟩)
            · have hcm : ce = me := by clear u1 u2 hmod hM64; omega
              subst hcm
              obtain ⟨y, y1, y2, y3, y4⟩ := u2 (by omega)
              rw [show -(c : Int) + ce = ce - c by omega] at y2
              have hcm := rdCM (by omega) (Nat.pow_pos (by decide)) (r2.2 (by omega)) y2
              by_cases g : y = 0 ∨ M * 2 ^ f ≤ y
              · rw [if_pos g] at hcm
                exact Or.inr (Or.inl ⟨hcm.2, y3 g⟩)
              · rw [if_neg g] at hcm
                exact Or.inr (Or.inr ⟨y, by omega, hcm.2, y4 g⟩)
theorem read_eq {fu n : Nat} {a b : Nat → Int32} {x1 : Int32} (ht : tx n a) (hab : ∀ i, i < n → b i = a i) (hfu : 6000 < fu)
    {rc nc oc dc fr ex ih : Int32} {ds : Nat → Int32} {ql : Int64} {qp qm qn qd : Int32} {qa qb : Nat → Int32} {th aM bM lM rM tw at0 dgs pw gd : Int32} {aa ba L R : Nat → Int32} :
    ok (f_RT_read fu 1200 1200 128 128 x1 rc nc oc 0 (nI n) a dc fr ex ih ds ql qp qm qn qa qd qb) (fun u => ok (f_Mod_read fu 1200 520 520 520 520 x1 (nI n) th rc nc oc aM bM lM rM tw at0 dgs pw gd b aa ba L R) (fun w => u.1 = w.2.2.1 ∧ (u.1 = 0 → u.2.1 = w.1) ∧ (u.1 = 0 ∨ u.1 = 1 ∨ u.1 = 2) ∧ u.2.2.1 = w.2.2.2.1 ∧ u.2.2.2.1 = w.2.2.2.2.1 ∧ u.2.2.2.2.1 = w.2.2.2.2.2.1 ∧ u.2.2.2.2.2.1 = 0 ∧ u.2.2.2.2.2.2.1 = 0 ∧ w.2.1 = 0)) := by
  have key : ∀ (x f M : Nat) (lp : Int), fs x1 f lp M → fm x f lp M → ok (f_RT_read_14 fu 1200 1200 128 128 x1 a x rc nc oc 0 (nI n) dc fr ex ih ds ql qp qm qn qa qd qb) (fun u => ok (f_Mod_read fu 1200 520 520 520 520 x1 (nI n) th rc nc oc aM bM lM rM tw at0 dgs pw gd b aa ba L R) (fun w => u.1 = w.2.2.1 ∧ (u.1 = 0 → u.2.1 = w.1) ∧ (u.1 = 0 ∨ u.1 = 1 ∨ u.1 = 2) ∧ u.2.2.1 = w.2.2.2.1 ∧ u.2.2.2.1 = w.2.2.2.2.1 ∧ u.2.2.2.2.1 = w.2.2.2.2.2.1 ∧ u.2.2.2.2.2.1 = 0 ∧ u.2.2.2.2.2.2.1 = 0 ∧ w.2.1 = 0)) := by
    intro x f M lp h1 h2
    obtain ⟨r, hC, hM⟩ := read_bits (fu := fu) (x := x) (a := a) (b := b) (x1 := x1) (dc := dc) (fr := fr) (ex := ex) (ih := ih) (ds := ds) (ql := ql) (qp := qp) (qm := qm) (qn := qn) (qd := qd) (qa := qa) (qb := qb) (th := th) (we := rc) (no := nc) (be := oc) (aM := aM) (bM := bM) (lM := lM) (rM := rM) (tw := tw) (at0 := at0) (dgs := dgs) (pw := pw) (gd := gd) (aa := aa) (ba := ba) (L := L) (R := R) h1 h2 ht hab hfu
    obtain ⟨w, hw, hwq⟩ := hM
    unfold f_RT_read_14
    refine ok_b hC (fun u hu => ?_)
    show ok (if lg_cmp u.1 (-1) = 0 then _ else _) _
    rw [hu]
    refine ok_ii (lg_cmp_eq _ _) (fun q => ok_s ⟨w, hw, ?_⟩) (fun q => ?_)
    · rcases hwq with ⟨_, m1, m2, m3, m4, m5⟩ | ⟨g, _⟩ | ⟨y, y1, g, _⟩
      · exact ⟨m2.symm, fun g => absurd g (show ¬ (1 : Int32) = 0 by decide), Or.inr (Or.inl rfl), m3.symm, m4.symm, m5.symm, rfl, rfl, m1⟩
      · rw [g] at q; exact absurd q (by decide)
      · rw [g] at q; exact absurd q (lN_m y1).1
    · refine ok_ii (lg_cmp_eq _ _) (fun q2 => ok_s ⟨w, hw, ?_⟩) (fun q2 => ok_s ⟨w, hw, ?_⟩)
      · rcases hwq with ⟨g, _⟩ | ⟨_, m1, m2, m3, m4, m5⟩ | ⟨y, y1, g, _⟩
        · exact absurd g q
        · exact ⟨m2.symm, fun g => absurd g (show ¬ (2 : Int32) = 0 by decide), Or.inr (Or.inr rfl), m3.symm, m4.symm, m5.symm, rfl, rfl, m1⟩
        · rw [g] at q2; exact absurd q2 (lN_m y1).2
      · rcases hwq with ⟨g, _⟩ | ⟨g, _⟩ | ⟨y, y1, g, m0, m1, m2, m3, m4, m5⟩
        · exact absurd g q
        · exact absurd g q2
        · exact ⟨m2.symm, fun _ => by dsimp only; rw [m0, g], Or.inl rfl, m3.symm, m4.symm, m5.symm, rfl, rfl, m1⟩
  unfold f_RT_read
  refine ok_if (fun q => ?_) (fun q => ?_)
  · exact key 1 52 2047 (-1074) (Or.inr ⟨q, rfl, rfl, rfl⟩) (Or.inr ⟨rfl, rfl, rfl, rfl⟩)
  · exact key 0 23 255 (-149) (Or.inl ⟨q, rfl, rfl, rfl⟩) (Or.inl ⟨rfl, rfl, rfl, rfl⟩)
