-- write: sign, mask, NaN
theorem l_ti {m : Nat} (h : m < 2 ^ 64) : (lN m).toInt = if m < 2 ^ 63 then (m : Int) else (m : Int) - 2 ^ 64 := by
  show (BitVec.ofNat 64 m).toInt = _
  rw [BitVec.toInt_eq_toNat_cond, BitVec.toNat_ofNat, Nat.mod_eq_of_lt h]
  by_cases q : m < 2 ^ 63
  · rw [if_pos q, if_pos (by omega)]
  · rw [if_neg q, if_neg (by omega)]
    omega
theorem sh31 {b : Nat} (hb : b < 2 ^ 64) : ((lN b >>> ((31 : Int32).toInt64 &&& 63)) &&& 1) = lN (b / 2 ^ 31 % 2) := by
  obtain ⟨c, hc, e2⟩ := wb_of (lN b >>> ((31 : Int32).toInt64 &&& 63))
  have e3 : (lN b >>> ((31 : Int32).toInt64 &&& 63)).toInt = (lN b).toInt >>> 31 := by
    rw [show (31 : Int32) = nI 31 from rfl, wb_c 31 (by decide)]
    have h1 : ((lN 31).toBitVec.smod 64).toNat = 31 := by
      rw [wb_tb, wb_sm 31 (by decide), BitVec.toNat_ofNat, Nat.mod_eq_of_lt (by decide)]
    conv => rhs; rw [← h1]
    exact BitVec.toInt_sshiftRight ..
  rw [e2] at e3
  rw [e2, wb_a1 hc]
  congr 1
  rw [l_ti hc, l_ti hb, Int.shiftRight_eq_div_pow] at e3
  have e4 : ((2 ^ 31 : Nat) : Int) = 2147483648 := by decide
  rw [e4] at e3
  by_cases q1 : c < 2 ^ 63
  · rw [if_pos q1] at e3
    by_cases q2 : b < 2 ^ 63
    · rw [if_pos q2] at e3; omega
    · rw [if_neg q2] at e3; omega
  · rw [if_neg q1] at e3
    by_cases q2 : b < 2 ^ 63
    · rw [if_pos q2] at e3; omega
    · rw [if_neg q2] at e3; omega
theorem and_bit {b s : Nat} (hb : b < 2 ^ 64) (hs : s < 64) : (lN b &&& lN (2 ^ s) = 0) ↔ b / 2 ^ s % 2 = 0 := by
  rw [wb_and hb (wb_lt2 hs), and62, Nat.testBit_eq_decide_div_mod_eq]
  have hp := wb_lt2 hs
  have hp0 := Nat.two_pow_pos s
  by_cases q : b / 2 ^ s % 2 = 1
  · rw [if_pos (by rw [decide_eq_true_eq]; exact q)]
    constructor
    · intro e
      have := congrArg (fun z : Int64 => z.toBitVec.toNat) e
      simp only [wb_tn hp] at this
      have z0 : (0 : Int64).toBitVec.toNat = 0 := rfl
      rw [z0] at this
      omega
    · omega
  · rw [if_neg (by rw [decide_eq_true_eq]; exact q)]
    exact ⟨fun _ => by omega, fun _ => rfl⟩
section Write2
variable {fu x f M y : Nat} {lp : Int} {x1 : Int64} {x3 : Int32}
variable {ws we nb ev pw rs us hs ss dc pt : Int32} {num : Int64} {wa ra ua ha sa rev : Nat → Int32}
variable {aM bM fM lM rM tw pw' : Int32} {wa' aa ba fa L R : Nat → Int32}
theorem tl_0 (a : Nat → Int32) : tl [] 0 a := ⟨rfl, fun i hi => by simp at hi, fun c hc => by simp at hc⟩
theorem wr_13 {mm sm : Int64} {neg : Prop} (h : fm x f lp M) (hs' : fs x3 f lp M) (hfu : 2000 < fu) (hmm : f_Fmt_magnitudeMask x = some mm) (hy : x1 &&& mm = lN y) (hy63 : y < 2 ^ 63) (hsm : f_Fmt_signMask x = some sm) (hneg : x1 &&& sm = 0 ↔ ¬ neg) (k0 : Int32) (hk0 : k0 = 0 ↔ ¬ neg) :
    ∃ S : List Nat, S.length ≤ 32 ∧
    ok (f_RT_write_13 fu 32 40 40 40 40 20 x1 x3 x ws we wa nb ev num pw rs ra us ua hs ha ss sa dc pt rev) (fun u => u.1 = nI S.length ∧ u.2.1 = 0 ∧ tl S u.2.2.1 u.2.2.2.1) ∧
    ok (f_Mod_write_68 fu 40 520 520 520 520 520 x1 x3 (lN y) k0 0 0 0 aM bM fM lM rM tw pw' wa' aa ba fa L R) (fun u => u.1 = nI S.length ∧ u.2.2.1 = 0 ∧ u.2.2.2.1 = 0 ∧ tl S u.2.1 u.2.2.2.2.2.2.2.2.2.2.2.1) := by
  have hb := fm_b h
  have hM0 : 0 < M * 2 ^ f := Nat.mul_pos (by omega) (Nat.two_pow_pos f)
  have eg : lN (M * 2 ^ f - 1) + 1 = lN (M * 2 ^ f) := by rw [lN_1, show M * 2 ^ f - 1 + 1 = M * 2 ^ f by omega]
  by_cases g : y ≤ M * 2 ^ f
  · -- a sign, then the rest
    have sgnd : ∃ l : List Nat, l.length ≤ 1 ∧ ((¬ neg ∧ l = []) ∨ (neg ∧ l = [45])) := by
      by_cases q : neg
      · exact ⟨[45], by decide, Or.inr ⟨q, rfl⟩⟩
      · exact ⟨[], by decide, Or.inl ⟨q, rfl⟩⟩
    obtain ⟨l, hl1, hl2⟩ := sgnd
    -- the rows behind the sign
    have cls : ∃ (k : Int32) (a : Nat → Int32), tl l k a ∧ ∀ Q : _ → Prop, ok (f_RT_write_80 fu 32 40 40 40 40 20 x1 x3 x (lN y) 0 k a nb ev num pw rs ra us ua hs ha ss sa dc pt rev) Q → ok (f_RT_write_13 fu 32 40 40 40 40 20 x1 x3 x ws we wa nb ev num pw rs ra us ua hs ha ss sa dc pt rev) Q := by
      rcases hl2 with ⟨q, rfl⟩ | ⟨q, rfl⟩
      · refine ⟨0, wa, tl_0 wa, fun Q hQ => ?_⟩
        unfold f_RT_write_13 f_Row_clear
        refine ok_be hmm ?_
        rw [hy]
        refine ok_l (ok_be rfl (ok_be (fmt_inf h) (ok_t (by rw [lg_cmp_le, pk_lLE hy63 (by omega)]; exact g) (ok_be hsm ?_))))
        exact ok_t (by rw [lg_cmp_eq]; exact hneg.mpr q) hQ
      · obtain ⟨v, hv1, hv2⟩ := row_put (N := 32) (c := 45) (tl_0 wa) (by decide) (by decide) (by decide)
        refine ⟨v.1, v.2, hv2, fun Q hQ => ?_⟩
        unfold f_RT_write_13 f_Row_clear
        refine ok_be hmm ?_
        rw [hy]
        refine ok_l (ok_be rfl (ok_be (fmt_inf h) (ok_t (by rw [lg_cmp_le, pk_lLE hy63 (by omega)]; exact g) (ok_be hsm ?_))))
        exact ok_f (by rw [lg_cmp_eq]; exact fun e => hneg.mp e q) (ok_be hv1 hQ)
    have mdl : ∃ (k : Int32) (a : Nat → Int32), tl l k a ∧ ∀ Q : _ → Prop, ok (f_Mod_write_106 fu 40 520 520 520 520 520 x1 x3 (lN y) k 0 0 aM bM fM lM rM tw pw' a aa ba fa L R) Q → ok (f_Mod_write_68 fu 40 520 520 520 520 520 x1 x3 (lN y) k0 0 0 0 aM bM fM lM rM tw pw' wa' aa ba fa L R) Q := by
      rcases hl2 with ⟨q, rfl⟩ | ⟨q, rfl⟩
      · refine ⟨0, wa', tl_0 wa', fun Q hQ => ?_⟩
        unfold f_Mod_write_68
        refine ok_be (mod_great hs') ?_
        rw [eg]
        exact ok_t (by rw [lg_cmp_le, pk_lLE hy63 (by omega)]; exact g) (ok_t (hk0.mpr q) hQ)
      · obtain ⟨v, hv1, hv2⟩ := mod_lay (N := 40) (c := 45) (tl_0 wa') (by decide) (by decide) (by decide)
        refine ⟨v.1, v.2, hv2, fun Q hQ => ?_⟩
        unfold f_Mod_write_68
        refine ok_be (mod_great hs') ?_
        rw [eg]
        exact ok_t (by rw [lg_cmp_le, pk_lLE hy63 (by omega)]; exact g) (ok_f (fun e => hk0.mp e q) (ok_be hv1 hQ))
    obtain ⟨k, a, t1, c1⟩ := cls
    obtain ⟨k', a', t2, c2⟩ := mdl
    obtain ⟨S, S1, S2, S3⟩ := wr_body (x1 := x1) (nb := nb) (ev := ev) (num := num) (pw := pw) (rs := rs) (ra := ra) (us := us) (ua := ua) (hs := hs) (ha := ha) (ss := ss) (sa := sa) (dc := dc) (pt := pt) (rev := rev) (aM := aM) (bM := bM) (fM := fM) (lM := lM) (rM := rM) (tw := tw) (pw' := pw') (aa := aa) (ba := ba) (fa := fa) (L := L) (R := R) h hs' hfu g t1 t2 hl1
    exact ⟨S, S1, c1 _ S2, c2 _ S3⟩
  · refine ⟨w_nan, by decide, ?_, ?_⟩
    · unfold f_RT_write_13 f_Row_clear
      refine ok_be hmm ?_
      rw [hy]
      refine ok_l (ok_be rfl (ok_be (fmt_inf h) (ok_f (by rw [lg_cmp_le, pk_lLE hy63 (by omega)]; exact g) ?_)))
      refine ok_b (row_nan (l := []) (by decide) (by omega) (tl_0 wa) (by decide)) (fun v hv => ?_)
      unfold f_Row_length
      refine ok_be rfl (ok_s ⟨?_, rfl, hv⟩)
      show v.1 - 0 = nI w_nan.length
      rw [hv.1, ← nI_0, pk_sub (by omega), Nat.sub_zero]
      rfl
    · unfold f_Mod_write_68
      refine ok_be (mod_great hs') ?_
      rw [eg]
      refine ok_f (by rw [lg_cmp_le, pk_lLE hy63 (by omega)]; exact g) ?_
      exact ok_b (mod_nan (l := []) (by decide) (by omega) (tl_0 wa') (by decide)) (fun v hv => ok_s ⟨hv.1, rfl, rfl, hv⟩)
theorem write_eq {laid gone thr : Int32} (hfu : 2000 < fu) :
    ∃ S : List Nat, S.length ≤ 32 ∧
    ok (f_RT_write fu 32 40 40 40 40 20 x1 x3 ws we wa nb ev num pw rs ra us ua hs ha ss sa dc pt rev) (fun u => u.1 = nI S.length ∧ u.2.1 = 0 ∧ tl S u.2.2.1 u.2.2.2.1) ∧
    ok (f_Mod_write fu 40 520 520 520 520 520 x1 x3 laid gone thr aM bM fM lM rM tw pw' wa' aa ba fa L R) (fun u => u.1 = nI S.length ∧ u.2.2.1 = 0 ∧ u.2.2.2.1 = 0 ∧ tl S u.2.1 u.2.2.2.2.2.2.2.2.2.2.2.1) := by
  obtain ⟨b, hb, rfl⟩ := wb_of x1
  unfold f_RT_write f_Mod_write f_Mod_write_32
  by_cases h3 : x3 = 0
  · rw [if_pos h3, if_pos h3, if_pos h3]
    have em : lN b &&& 9223372036854775807 = lN (b % 2 ^ 63) := wb_mask (k := 63) hb (by decide)
    have es : (lN b &&& -9223372036854775808 = 0) ↔ ¬ (b / 2 ^ 63 % 2 = 1) := by
      rw [show (-9223372036854775808 : Int64) = lN (2 ^ 63) by decide, and_bit hb (by decide)]
      omega
    have eN : (0 ≤ lg_cmp (lN b) 0) ↔ ¬ (b / 2 ^ 63 % 2 = 1) := by
      rw [lg_cmp_ge, Int64.le_iff_toInt_le, l_ti hb, Int64.toInt_zero]
      by_cases q : b < 2 ^ 63
      · rw [if_pos q]; omega
      · rw [if_neg q]; omega
    rw [em]
    by_cases q : b / 2 ^ 63 % 2 = 1
    · rw [if_neg (fun e => eN.mp e q)]
      exact wr_13 (neg := b / 2 ^ 63 % 2 = 1) (lp := -1074) (M := 2047) (f := 52) (Or.inr ⟨rfl, rfl, rfl, rfl⟩) (Or.inr ⟨h3, rfl, rfl, rfl⟩) hfu rfl em (Nat.mod_lt _ (by decide)) rfl es 1 ⟨fun e => absurd e (by decide), fun e => absurd q e⟩
    · rw [if_pos (eN.mpr q)]
      exact wr_13 (neg := b / 2 ^ 63 % 2 = 1) (lp := -1074) (M := 2047) (f := 52) (Or.inr ⟨rfl, rfl, rfl, rfl⟩) (Or.inr ⟨h3, rfl, rfl, rfl⟩) hfu rfl em (Nat.mod_lt _ (by decide)) rfl es 0 ⟨fun _ => q, fun _ => rfl⟩
  · rw [if_neg h3, if_neg h3, if_neg h3]
    have em : lN b &&& 2147483647 = lN (b % 2 ^ 31) := wb_mask (k := 31) hb (by decide)
    have es : (lN b &&& 2147483648 = 0) ↔ ¬ (b / 2 ^ 31 % 2 = 1) := by
      rw [show (2147483648 : Int64) = lN (2 ^ 31) by decide, and_bit hb (by decide)]
      omega
    have eN : (lg_cmp ((lN b >>> ((31 : Int32).toInt64 &&& 63)) &&& 1) 1 = 0) ↔ b / 2 ^ 31 % 2 = 1 := by
      rw [sh31 hb, lg_cmp_eq, show (1 : Int64) = lN 1 from rfl, pk_lEQ (by omega) (by decide)]
    have hy63 : b % 2 ^ 31 < 2 ^ 63 := Nat.lt_trans (Nat.mod_lt _ (by decide)) (by decide)
    rw [em]
    by_cases q : b / 2 ^ 31 % 2 = 1
    · rw [if_pos (eN.mpr q)]
      exact wr_13 (neg := b / 2 ^ 31 % 2 = 1) (lp := -149) (M := 255) (f := 23) (Or.inl ⟨rfl, rfl, rfl, rfl⟩) (Or.inl ⟨h3, rfl, rfl, rfl⟩) hfu rfl em hy63 rfl es 1 ⟨fun e => absurd e (by decide), fun e => absurd q e⟩
    · rw [if_neg (fun e => q (eN.mp e))]
      exact wr_13 (neg := b / 2 ^ 31 % 2 = 1) (lp := -149) (M := 255) (f := 23) (Or.inl ⟨rfl, rfl, rfl, rfl⟩) (Or.inl ⟨h3, rfl, rfl, rfl⟩) hfu rfl em hy63 rfl es 0 ⟨fun _ => q, fun _ => rfl⟩
end Write2
