-- the class's shortest digits: the format's parts, a digit, the three questions
theorem fmt_hid {x f M : Nat} {lp : Int} (h : fm x f lp M) : f_Fmt_hiddenBit x = some (lN (2 ^ f)) := by
  unfold f_Fmt_hiddenBit
  obtain ⟨h1, h2, h3⟩ := fm_f h
  have hb := fm_b h
  rw [h1, wb_shl1 (by omega)]
theorem fmt_fmask {x f M : Nat} {lp : Int} (h : fm x f lp M) : f_Fmt_fractionMask x = some (lN (2 ^ f - 1)) := by
  unfold f_Fmt_fractionMask
  rw [fmt_hid h]
  have h1 : lN (2 ^ f) - 1 = lN (2 ^ f - 1) := lN_sub (b := 1) (Nat.two_pow_pos f)
  show some (lN (2 ^ f) - 1) = _
  rw [h1]
theorem fmt_exp {x f M y : Nat} {lp : Int} (h : fm x f lp M) (hy : y < 2 ^ 63) : f_Fmt_exponentOf x (lN y) = some (nI (y / 2 ^ f)) := by
  unfold f_Fmt_exponentOf
  obtain ⟨h1, h2, h3⟩ := fm_f h
  have hb := fm_b h
  rw [h1, wb_shr (by omega) (by omega), lN_i]
theorem fm_y {x f M y : Nat} {lp : Int} (h : fm x f lp M) (hy : y ≤ M * 2 ^ f) : y < 2 ^ 63 ∧ y / 2 ^ f ≤ 2047 ∧ y / 2 ^ f ≤ M := by
  have hb := fm_b h
  have hM : y / 2 ^ f ≤ M := by
    rw [Nat.div_le_iff_le_mul (Nat.two_pow_pos f)]
    have := Nat.two_pow_pos f
    omega
  omega
theorem fmt_sig {x f M y : Nat} {lp : Int} (h : fm x f lp M) (hy : y ≤ M * 2 ^ f) : f_Fmt_significandOf x (lN y) = some (lN (pm_man f y)) := by
  have hb := fm_b h
  obtain ⟨y1, y2, _⟩ := fm_y h hy
  apply ok_e
  unfold f_Fmt_significandOf
  refine ok_be (fmt_fmask h) ?_
  rw [wb_mask (by omega) (by omega)]
  refine ok_l ?_
  refine ok_be (fmt_exp h y1) ?_
  unfold pm_man
  refine ok_ii (nI_eq (b := 0) (by omega) (by decide)) (fun q => ?_) (fun q => ?_)
  · rw [if_pos q]
    refine ok_s ?_
    congr 1
    rcases (Nat.div_eq_zero_iff).mp q with g | g
    · have := Nat.two_pow_pos f; omega
    · exact Nat.mod_eq_of_lt g
  · rw [if_neg q]
    refine ok_be (fmt_hid h) (ok_s ?_)
    have h1 := Nat.mod_lt y (Nat.two_pow_pos f)
    have h2 : 2 ^ f ≤ 2 ^ 52 := Nat.pow_le_pow_right (by decide) (by omega)
    have := g_or' (k := f) (p := 2 ^ f) (a := y % 2 ^ f) (b := 1) rfl h1 (by omega)
    rw [Nat.one_mul] at this
    exact this
theorem fmt_pow {x f M y : Nat} {lp : Int} (h : fm x f lp M) (hy : y ≤ M * 2 ^ f) : f_Fmt_powerOf x (lN y) = some (iI (ex f lp y)) := by
  obtain ⟨y1, y2, _⟩ := fm_y h hy
  obtain ⟨h1, h2, h3⟩ := fm_f h
  apply ok_e
  unfold f_Fmt_powerOf ex
  refine ok_be (fmt_exp h y1) ?_
  generalize y / 2 ^ f = z at *
  refine ok_be (v := nI (z - 1)) ?_ (ok_s ?_)
  · rcases Nat.eq_zero_or_pos z with q | q
    · subst q; rfl
    · obtain ⟨w, rfl⟩ : ∃ w, z = w + 1 := ⟨z - 1, by omega⟩
      rw [nI_pred, Nat.add_sub_cancel, ← nI_0, big_max (by omega) (by omega)]
      congr 2
      omega
  · rw [h3, ← iI_nat, iI_add]
def nar (f y : Nat) : Nat := if 1 < y / 2 ^ f ∧ y % 2 ^ f = 0 then 1 else 0
theorem fmt_nar {x f M y : Nat} {lp : Int} (h : fm x f lp M) (hy : y ≤ M * 2 ^ f) : f_Fmt_isNarrowBelow x (lN y) = some (nI (nar f y)) := by
  have hb := fm_b h
  obtain ⟨y1, y2, _⟩ := fm_y h hy
  have hm := Nat.mod_le y (2 ^ f)
  apply ok_e
  unfold f_Fmt_isNarrowBelow nar
  refine ok_be (fmt_exp h y1) ?_
  refine ok_ii (nI_leI (b := 1) (by omega) (by decide)) (fun q => ?_) (fun q => ?_)
  · rw [if_neg (by omega)]; exact ok_s rfl
  · refine ok_be (fmt_fmask h) ?_
    rw [wb_mask (by omega) (by omega)]
    refine ok_ii ((lg_cmp_eq _ _).trans (pk_lEQ (b := 0) (by omega) (by decide))) (fun q2 => ?_) (fun q2 => ?_)
    · rw [if_pos (by omega)]; exact ok_s rfl
    · rw [if_neg (by omega)]; exact ok_s rfl
section Sho
variable {fu N : Nat}
theorem sho_next_24 {U : Nat} {us hs : Int32} {ua ha : Nat → Int32} (hN : N < 2 ^ 30) (hfu : N < fu) (hU : bb N U us ua) {T : Nat} (hT : T < 10 * U) :
    ∀ (d n q : Nat) (s : Int32) (a : Nat → Int32), q + d = 9 → d < n → q * U ≤ T → bb N (T - q * U) s a → ok (f_Sho_nextDigit_24 fu N N N us ua n (nI q) (nI (q + 1)) s a hs ha) (fun r => r.1 = nI (T / U) ∧ bb N (T % U) r.2.1 r.2.2.1 ∧ r.2.2.2.1 = hs ∧ r.2.2.2.2 = ha)
  | d, 0, _, _, _, _, h, _, _ => by omega
  | d, n + 1, q, s, a, hq, hn, hle, hb => by
    rw [f_Sho_nextDigit_24_s]
    have fin : T < (q + 1) * U → T / U = q ∧ T % U = T - q * U := by
      intro h
      have e : T / U = q := by
        rw [Nat.div_eq_iff (by omega)]
        rw [Nat.add_mul, Nat.one_mul] at h
        omega
      refine ⟨e, ?_⟩
      have := Nat.div_add_mod T U
      rw [e, Nat.mul_comm] at this
      omega
    refine ok_ii (nI_leI (a := 10) (by decide) (by omega)) (fun g => ?_) (fun g => ?_)
    · have e9 : q = 9 := by omega
      subst e9
      obtain ⟨f1, f2⟩ := fin (by omega)
      rw [f1, f2]
      exact ok_s ⟨rfl, hb, rfl, rfl⟩
    · refine ok_b (big_cmp hN hN hfu hb hU) (fun c hc => ?_)
      refine ok_ii hc.1 (fun g2 => ?_) (fun g2 => ?_)
      · obtain ⟨f1, f2⟩ := fin (by rw [Nat.add_mul, Nat.one_mul]; omega)
        rw [f1, f2]
        exact ok_s ⟨rfl, hb, rfl, rfl⟩
      · refine ok_b (big_sub hN hN hfu hb hU (by omega)) (fun v hv => ?_)
        rw [nI_1, nI_1]
        refine sho_next_24 hN hfu hU hT (d - 1) n (q + 1) v.1 v.2 (by omega) (by omega) ?_ ?_
        · rw [Nat.add_mul, Nat.one_mul]; omega
        · have e : T - (q + 1) * U = T - q * U - U := by rw [Nat.add_mul, Nat.one_mul]; omega
          rw [e]
          exact hv
theorem sho_next {R H U : Nat} {rs us hs : Int32} {ra ua ha : Nat → Int32} (hN : N < 2 ^ 30) (hfu : N + 20 < fu) (hr : bb N R rs ra) (hh : bb N H hs ha) (hU : bb N U us ua) (hR : R < U) (h1 : U * 10 < 4294967296 ^ N) (h2 : H * 10 < 4294967296 ^ N) :
    ok (f_Sho_nextDigit fu N N N rs ra us ua hs ha) (fun r => r.1 = nI (10 * R / U) ∧ bb N (10 * R % U) r.2.1 r.2.2.1 ∧ bb N (10 * H) r.2.2.2.1 r.2.2.2.2) := by
  unfold f_Sho_nextDigit
  refine ok_b (big_mul (F := 10) (S := 0) (by omega) (by omega) (by decide) (by decide) (by decide) hr (by omega)) (fun v hv => ?_)
  refine ok_b (big_mul (F := 10) (S := 0) (by omega) (by omega) (by decide) (by decide) (by decide) hh (by omega)) (fun w hw => ?_)
  refine ok_m (sho_next_24 (T := 10 * R) hN (by omega) hU (by omega) 9 fu 0 v.1 v.2 rfl (by omega) (by omega) ?_) (fun r hr => ?_)
  · rw [Nat.zero_mul, Nat.sub_zero, Nat.mul_comm]
    exact hv
  · obtain ⟨r1, r2, r3, r4⟩ := hr
    refine ⟨r1, r2, ?_⟩
    rw [r3, r4, Nat.mul_comm]
    exact hw
theorem sho_below {R H : Nat} {rs hs e : Int32} {ra ha : Nat → Int32} {ev : Bool} (hN : N < 2 ^ 30) (hfu : N < fu) (hr : bb N R rs ra) (hh : bb N H hs ha) (he : e = 0 ↔ ev = false) :
    ok (f_Sho_isReadBelow fu N N e rs ra hs ha) (fun r => (r = 0 ↔ ¬ (R < H ∨ (R = H ∧ ev = true)))) := by
  unfold f_Sho_isReadBelow
  have h10 : ¬ (1 : Int32) = 0 := by decide
  refine ok_b (big_cmp hN hN hfu hr hh) (fun c hc => ?_)
  refine ok_ii hc.1 (fun g => ?_) (fun g => ?_)
  · exact ok_s ⟨fun q => absurd q h10, fun q => absurd (Or.inl g) q⟩
  · refine ok_ii hc.2.1 (fun g2 => ?_) (fun g2 => ?_)
    · refine ok_ii he (fun g3 => ?_) (fun g3 => ?_)
      · refine ok_s ⟨fun _ q => ?_, fun _ => rfl⟩
        rcases q with q | ⟨_, q⟩
        · exact g q
        · rw [g3] at q; exact absurd q (by decide)
      · exact ok_s ⟨fun q => absurd q h10, fun q => absurd (Or.inr ⟨g2, by simpa using g3⟩) q⟩
    · exact ok_s ⟨fun _ q => by rcases q with q | q; exact g q; exact g2 q.1, fun _ => rfl⟩
theorem sho_above {R H U t : Nat} {rs hs us e w ss : Int32} {ra ha ua sa : Nat → Int32} {ev : Bool} (hN : N < 2 ^ 30) (hfu : N < fu) (hr : bb N R rs ra) (hh : bb N H hs ha) (hU : bb N U us ua) (he : e = 0 ↔ ev = false) (hw : (w = 0 ∧ t = 1) ∨ (¬ w = 0 ∧ t = 2)) (hlt : R + 2 * H < 4294967296 ^ N) :
    ok (f_Sho_isReadAbove fu N N N N w e rs ra us ua hs ha ss sa) (fun r => (r.1 = 0 ↔ ¬ (U < R + t * H ∨ (U = R + t * H ∧ ev = true)))) := by
  unfold f_Sho_isReadAbove
  have h10 : ¬ (1 : Int32) = 0 := by decide
  have tail : ∀ (s : Int32) (a : Nat → Int32) (S : Nat), bb N S s a → ok (f_Sho_isReadAbove_40 fu N N N N w e rs ra us ua hs ha s a) (fun r => (r.1 = 0 ↔ ¬ (U < S ∨ (U = S ∧ ev = true)))) := by
    intro s a S hs
    unfold f_Sho_isReadAbove_40
    refine ok_b (big_cmp hN hN hfu hs hU) (fun c hc => ?_)
    refine ok_ii hc.2.2 (fun g => ?_) (fun g => ?_)
    · exact ok_s ⟨fun q => absurd q h10, fun q => absurd (Or.inl g) q⟩
    · refine ok_ii hc.2.1 (fun g2 => ?_) (fun g2 => ?_)
      · refine ok_ii he (fun g3 => ?_) (fun g3 => ?_)
        · refine ok_s ⟨fun _ q => ?_, fun _ => rfl⟩
          rcases q with q | ⟨_, q⟩
          · exact g q
          · rw [g3] at q; exact absurd q (by decide)
        · exact ok_s ⟨fun q => absurd q h10, fun q => absurd (Or.inr ⟨g2.symm, by simpa using g3⟩) q⟩
      · exact ok_s ⟨fun _ q => by rcases q with q | q; exact g q; exact g2 q.1.symm, fun _ => rfl⟩
  refine ok_b (big_copy hN hN (Nat.le_refl N) hr) (fun v hv => ?_)
  refine ok_b (big_add hN hN hfu hfu hv hh (by omega)) (fun v2 hv2 => ?_)
  rcases hw with ⟨w0, rfl⟩ | ⟨w0, rfl⟩
  · refine ok_t w0 ?_
    rw [Nat.one_mul]
    exact tail _ _ _ hv2
  · refine ok_f w0 (ok_b (big_add hN hN hfu hfu hv2 hh (by omega)) (fun v3 hv3 => ?_))
    rw [show R + 2 * H = R + H + H by omega]
    exact tail _ _ _ hv3
theorem sho_nearer {R U D : Nat} {rs us ss : Int32} {ra ua sa : Nat → Int32} (hN : N < 2 ^ 30) (hfu : N < fu) (hr : bb N R rs ra) (hU : bb N U us ua) (hD : D < 2 ^ 63) (hlt : R + R < 4294967296 ^ N) :
    ok (f_Sho_isNearerAbove fu N N N (lN D) rs ra us ua ss sa) (fun r => (r.1 = 0 ↔ ¬ (U < 2 * R ∨ (2 * R = U ∧ D % 2 = 1)))) := by
  unfold f_Sho_isNearerAbove
  have h10 : ¬ (1 : Int32) = 0 := by decide
  refine ok_b (big_copy hN hN (Nat.le_refl N) hr) (fun v hv => ?_)
  refine ok_b (big_add hN hN hfu hfu hv hr hlt) (fun v2 hv2 => ?_)
  refine ok_b (big_cmp hN hN hfu hv2 hU) (fun c hc => ?_)
  refine ok_ii hc.2.2 (fun g => ?_) (fun g => ?_)
  · exact ok_s ⟨fun q => absurd q h10, fun q => absurd (Or.inl (by omega)) q⟩
  · refine ok_ii hc.2.1 (fun g2 => ?_) (fun g2 => ?_)
    · rw [wb_a1 (by omega)]
      refine ok_ii ((lg_cmp_eq _ _).trans (pk_lEQ (b := 0) (by omega) (by decide))) (fun g3 => ?_) (fun g3 => ?_)
      · exact ok_s ⟨fun _ => by omega, fun _ => rfl⟩
      · exact ok_s ⟨fun q => absurd q h10, fun q => by omega⟩
    · exact ok_s ⟨fun _ => by omega, fun _ => rfl⟩
end Sho
