abbrev ws_Quo_setNumerator : List Cond := .code y_Quo_setNumerator prog_6_method_3_code 6 none :: zw
abbrev rm_Quo_setNumerator : Room := { frames := 2, cells := 0, slots := 0, locals := 47 }
theorem hd_Quo_setNumerator : y_Quo_setNumerator.cls = "RealText$Quotient" ∧ y_Quo_setNumerator.cls ≠ "java/lang/invoke/MethodHandle" ∧ y_Quo_setNumerator.cls ≠ "java/lang/invoke/VarHandle" ∧ (parseMethodDescriptor y_Quo_setNumerator.desc).map (fun d => d.parameters.length) = some 1 := by decide +kernel
theorem d_Quo_setNumerator_0 : decode prog_6_method_3_code 0 = .ok (.aload_n 0, 1) := by decide +kernel
theorem d_Quo_setNumerator_1 : decode prog_6_method_3_code 1 = .ok (.getfield 14, 3) := by decide +kernel
theorem d_Quo_setNumerator_4 : decode prog_6_method_3_code 4 = .ok (.lconst 0, 1) := by decide +kernel
theorem d_Quo_setNumerator_5 : decode prog_6_method_3_code 5 = .ok (.invokevirtual 25, 3) := by decide +kernel
theorem d_Quo_setNumerator_8 : decode prog_6_method_3_code 8 = .ok (.iconst 0, 1) := by decide +kernel
theorem d_Quo_setNumerator_9 : decode prog_6_method_3_code 9 = .ok (.istore_n 2, 1) := by decide +kernel
theorem d_Quo_setNumerator_10 : decode prog_6_method_3_code 10 = .ok (.iconst 1, 1) := by decide +kernel
theorem d_Quo_setNumerator_11 : decode prog_6_method_3_code 11 = .ok (.istore_n 3, 1) := by decide +kernel
theorem d_Quo_setNumerator_12 : decode prog_6_method_3_code 12 = .ok (.iconst 0, 1) := by decide +kernel
theorem d_Quo_setNumerator_13 : decode prog_6_method_3_code 13 = .ok (.istore 4, 2) := by decide +kernel
theorem d_Quo_setNumerator_15 : decode prog_6_method_3_code 15 = .ok (.iconst 0, 1) := by decide +kernel
theorem d_Quo_setNumerator_16 : decode prog_6_method_3_code 16 = .ok (.istore 5, 2) := by decide +kernel
theorem d_Quo_setNumerator_18 : decode prog_6_method_3_code 18 = .ok (.iload 5, 2) := by decide +kernel
theorem d_Quo_setNumerator_20 : decode prog_6_method_3_code 20 = .ok (.aload_n 1, 1) := by decide +kernel
theorem d_Quo_setNumerator_21 : decode prog_6_method_3_code 21 = .ok (.getfield 56, 3) := by decide +kernel
theorem d_Quo_setNumerator_24 : decode prog_6_method_3_code 24 = .ok (.if_icmp .ge 64, 3) := by decide +kernel
theorem d_Quo_setNumerator_27 : decode prog_6_method_3_code 27 = .ok (.iload_n 2, 1) := by decide +kernel
theorem d_Quo_setNumerator_28 : decode prog_6_method_3_code 28 = .ok (.bipush 10, 2) := by decide +kernel
theorem d_Quo_setNumerator_30 : decode prog_6_method_3_code 30 = .ok (.imul, 1) := by decide +kernel
theorem d_Quo_setNumerator_31 : decode prog_6_method_3_code 31 = .ok (.aload_n 1, 1) := by decide +kernel
theorem d_Quo_setNumerator_32 : decode prog_6_method_3_code 32 = .ok (.getfield 61, 3) := by decide +kernel
theorem d_Quo_setNumerator_35 : decode prog_6_method_3_code 35 = .ok (.iload 5, 2) := by decide +kernel
theorem d_Quo_setNumerator_37 : decode prog_6_method_3_code 37 = .ok (.baload, 1) := by decide +kernel
theorem d_Quo_setNumerator_38 : decode prog_6_method_3_code 38 = .ok (.iadd, 1) := by decide +kernel
theorem d_Quo_setNumerator_39 : decode prog_6_method_3_code 39 = .ok (.istore_n 2, 1) := by decide +kernel
theorem d_Quo_setNumerator_40 : decode prog_6_method_3_code 40 = .ok (.iload_n 3, 1) := by decide +kernel
theorem d_Quo_setNumerator_41 : decode prog_6_method_3_code 41 = .ok (.bipush 10, 2) := by decide +kernel
theorem d_Quo_setNumerator_43 : decode prog_6_method_3_code 43 = .ok (.imul, 1) := by decide +kernel
theorem d_Quo_setNumerator_44 : decode prog_6_method_3_code 44 = .ok (.istore_n 3, 1) := by decide +kernel
theorem d_Quo_setNumerator_45 : decode prog_6_method_3_code 45 = .ok (.iinc 4 1, 3) := by decide +kernel
theorem d_Quo_setNumerator_48 : decode prog_6_method_3_code 48 = .ok (.iload 4, 2) := by decide +kernel
theorem d_Quo_setNumerator_50 : decode prog_6_method_3_code 50 = .ok (.bipush 9, 2) := by decide +kernel
theorem d_Quo_setNumerator_52 : decode prog_6_method_3_code 52 = .ok (.if_icmp .eq 14, 3) := by decide +kernel
theorem d_Quo_setNumerator_55 : decode prog_6_method_3_code 55 = .ok (.iload 5, 2) := by decide +kernel
theorem d_Quo_setNumerator_57 : decode prog_6_method_3_code 57 = .ok (.aload_n 1, 1) := by decide +kernel
theorem d_Quo_setNumerator_58 : decode prog_6_method_3_code 58 = .ok (.getfield 56, 3) := by decide +kernel
theorem d_Quo_setNumerator_61 : decode prog_6_method_3_code 61 = .ok (.iconst 1, 1) := by decide +kernel
theorem d_Quo_setNumerator_62 : decode prog_6_method_3_code 62 = .ok (.isub, 1) := by decide +kernel
theorem d_Quo_setNumerator_63 : decode prog_6_method_3_code 63 = .ok (.if_icmp .ne 19, 3) := by decide +kernel
theorem d_Quo_setNumerator_66 : decode prog_6_method_3_code 66 = .ok (.aload_n 0, 1) := by decide +kernel
theorem d_Quo_setNumerator_67 : decode prog_6_method_3_code 67 = .ok (.getfield 14, 3) := by decide +kernel
theorem d_Quo_setNumerator_70 : decode prog_6_method_3_code 70 = .ok (.iload_n 3, 1) := by decide +kernel
theorem d_Quo_setNumerator_71 : decode prog_6_method_3_code 71 = .ok (.iload_n 2, 1) := by decide +kernel
theorem d_Quo_setNumerator_72 : decode prog_6_method_3_code 72 = .ok (.invokevirtual 65, 3) := by decide +kernel
theorem d_Quo_setNumerator_75 : decode prog_6_method_3_code 75 = .ok (.iconst 0, 1) := by decide +kernel
theorem d_Quo_setNumerator_76 : decode prog_6_method_3_code 76 = .ok (.istore_n 2, 1) := by decide +kernel
theorem d_Quo_setNumerator_77 : decode prog_6_method_3_code 77 = .ok (.iconst 1, 1) := by decide +kernel
theorem d_Quo_setNumerator_78 : decode prog_6_method_3_code 78 = .ok (.istore_n 3, 1) := by decide +kernel
theorem d_Quo_setNumerator_79 : decode prog_6_method_3_code 79 = .ok (.iconst 0, 1) := by decide +kernel
theorem d_Quo_setNumerator_80 : decode prog_6_method_3_code 80 = .ok (.istore 4, 2) := by decide +kernel
theorem d_Quo_setNumerator_82 : decode prog_6_method_3_code 82 = .ok (.iinc 5 1, 3) := by decide +kernel
theorem d_Quo_setNumerator_85 : decode prog_6_method_3_code 85 = .ok (.goto (-67), 3) := by decide +kernel
theorem d_Quo_setNumerator_88 : decode prog_6_method_3_code 88 = .ok (.return_, 1) := by decide +kernel
def f_Quo_setNumerator_66 (fu : Nat) (n_v_numerator_limbs : Nat) (n_w1_digits : Nat) (w1_digitCount : Int32) (w1_digits_a : Nat → Int32) (self18 : Int32 → Int32 → Int32 → Int32 → Int32 → (Nat → Int32) → Option (Int32 × (Nat → Int32))) (y2 : Int32) (y3 : Int32) (y5 : Int32) (v_numerator_size : Int32) (v_numerator_limbs_a : Nat → Int32) : Option (Int32 × (Nat → Int32)) :=
  (f_Big_multiplyAndAdd fu n_v_numerator_limbs y3 y2 v_numerator_size v_numerator_limbs_a).bind fun u_5 =>
  self18 0 1 0 (y5 + 1) u_5.1 u_5.2
def f_Quo_setNumerator_18 (fu : Nat) (n_v_numerator_limbs : Nat) (n_w1_digits : Nat) (w1_digitCount : Int32) (w1_digits_a : Nat → Int32)  : Nat → Int32 → Int32 → Int32 → Int32 → Int32 → (Nat → Int32) → Option (Int32 × (Nat → Int32))
  | 0, _, _, _, _, _, _ => none
  | n + 1, y2, y3, y4, y5, v_numerator_size, v_numerator_limbs_a =>
  (if w1_digitCount ≤ y5 then
  some (v_numerator_size, v_numerator_limbs_a)
  else
  if zz_in y5 n_w1_digits = true then
  zz_lt ((y2 * 10) + (w1_digits_a y5.toNatClampNeg)) fun x2_3 =>
  zz_lt (y3 * 10) fun x3_4 =>
  (if (y4 + 1) = 9 then
  f_Quo_setNumerator_66 fu n_v_numerator_limbs n_w1_digits w1_digitCount w1_digits_a (f_Quo_setNumerator_18 fu n_v_numerator_limbs n_w1_digits w1_digitCount w1_digits_a n) x2_3 x3_4 y5 v_numerator_size v_numerator_limbs_a
  else
  (if y5 = (w1_digitCount - 1) then
  f_Quo_setNumerator_66 fu n_v_numerator_limbs n_w1_digits w1_digitCount w1_digits_a (f_Quo_setNumerator_18 fu n_v_numerator_limbs n_w1_digits w1_digitCount w1_digits_a n) x2_3 x3_4 y5 v_numerator_size v_numerator_limbs_a
  else
  f_Quo_setNumerator_18 fu n_v_numerator_limbs n_w1_digits w1_digitCount w1_digits_a n x2_3 x3_4 (y4 + 1) (y5 + 1) v_numerator_size v_numerator_limbs_a))
  else none)
theorem f_Quo_setNumerator_18_s (fu : Nat) (n_v_numerator_limbs : Nat) (n_w1_digits : Nat) (w1_digitCount : Int32) (w1_digits_a : Nat → Int32)  (n : Nat) (y2 : Int32) (y3 : Int32) (y4 : Int32) (y5 : Int32) (v_numerator_size : Int32) (v_numerator_limbs_a : Nat → Int32) : f_Quo_setNumerator_18 fu n_v_numerator_limbs n_w1_digits w1_digitCount w1_digits_a (n + 1) y2 y3 y4 y5 v_numerator_size v_numerator_limbs_a =
  (if w1_digitCount ≤ y5 then
  some (v_numerator_size, v_numerator_limbs_a)
  else
  if zz_in y5 n_w1_digits = true then
  zz_lt ((y2 * 10) + (w1_digits_a y5.toNatClampNeg)) fun x2_3 =>
  zz_lt (y3 * 10) fun x3_4 =>
  (if (y4 + 1) = 9 then
  f_Quo_setNumerator_66 fu n_v_numerator_limbs n_w1_digits w1_digitCount w1_digits_a (f_Quo_setNumerator_18 fu n_v_numerator_limbs n_w1_digits w1_digitCount w1_digits_a n) x2_3 x3_4 y5 v_numerator_size v_numerator_limbs_a
  else
  (if y5 = (w1_digitCount - 1) then
  f_Quo_setNumerator_66 fu n_v_numerator_limbs n_w1_digits w1_digitCount w1_digits_a (f_Quo_setNumerator_18 fu n_v_numerator_limbs n_w1_digits w1_digitCount w1_digits_a n) x2_3 x3_4 y5 v_numerator_size v_numerator_limbs_a
  else
  f_Quo_setNumerator_18 fu n_v_numerator_limbs n_w1_digits w1_digitCount w1_digits_a n x2_3 x3_4 (y4 + 1) (y5 + 1) v_numerator_size v_numerator_limbs_a))
  else none) := rfl
def f_Quo_setNumerator (fu : Nat) (n_v_numerator_limbs : Nat) (n_w1_digits : Nat) (v_numerator_size : Int32) (v_numerator_limbs_a : Nat → Int32) (w1_digitCount : Int32) (w1_digits_a : Nat → Int32) : Option (Int32 × (Nat → Int32)) :=
  (f_Big_set fu n_v_numerator_limbs 0 v_numerator_size v_numerator_limbs_a).bind fun u_1 =>
  f_Quo_setNumerator_18 fu n_v_numerator_limbs n_w1_digits w1_digitCount w1_digits_a fu 0 1 0 0 u_1.1 u_1.2
set_option maxHeartbeats 4000000 in
set_option maxRecDepth 100000 in
theorem c_Quo_setNumerator (l : Launch) (dC : Nat → ClassId) (dI : Nat → Nat → Nat) (cI cC cB cJ : ClassId) (fu : Nat) (sz : Nat) (h_v : Nat) (h_v_numerator : Nat) (h_v_numerator_limbs : Nat) (h_w1 : Nat) (h_w1_digits : Nat) (h_v_denominator : Nat) (n_v_numerator_limbs : Nat) (n_w1_digits : Nat) (v_lead : Int64) (v_power : Int32) (v_more : Int32) (v_numerator_size : Int32) (v_numerator_limbs_a : Nat → Int32) (w1_digitCount : Int32) (w1_fraction : Int32) (w1_exponent : Int32) (w1_isHex : Int32) (w1_digits_a : Nat → Int32) (u : Int32 × (Nat → Int32)) (hf : f_Quo_setNumerator fu n_v_numerator_limbs n_w1_digits v_numerator_size v_numerator_limbs_a w1_digitCount w1_digits_a = some u) : Met l y_Quo_setNumerator ws_Quo_setNumerator rm_Quo_setNumerator (zz_P zz_T (dC, dI) vwCl (zz_tys cI cC cB cJ) [.ref h_v, .ref h_w1] [(h_v, .inr (3, [.ref h_v_numerator, .ref h_v_denominator, .long v_lead, .int v_power, .int v_more])), (h_v_numerator, .inr (0, [.ref h_v_numerator_limbs, .int v_numerator_size])), (h_v_numerator_limbs, .inl (cI, n_v_numerator_limbs, .inl v_numerator_limbs_a)), (h_w1, .inr (2, [.ref h_w1_digits, .int w1_digitCount, .int w1_fraction, .int w1_exponent, .int w1_isHex])), (h_w1_digits, .inl (cB, n_w1_digits, .inl w1_digits_a))] sz) (zz_Qv (dC, dI) vwCl [(h_v, .inr (3, [.ref h_v_numerator, .ref h_v_denominator, .long v_lead, .int v_power, .int v_more])), (h_v_numerator, .inr (0, [.ref h_v_numerator_limbs, .int u.1])), (h_v_numerator_limbs, .inl (cI, n_v_numerator_limbs, .inl u.2)), (h_w1, .inr (2, [.ref h_w1_digits, .int w1_digitCount, .int w1_fraction, .int w1_exponent, .int w1_isHex])), (h_w1_digits, .inl (cB, n_w1_digits, .inl w1_digits_a))] (va_A [(h_v, .inr (3, [.ref h_v_numerator, .ref h_v_denominator, .long v_lead, .int v_power, .int v_more])), (h_v_numerator, .inr (0, [.ref h_v_numerator_limbs, .int v_numerator_size])), (h_v_numerator_limbs, .inl (cI, n_v_numerator_limbs, .inl v_numerator_limbs_a)), (h_w1, .inr (2, [.ref h_w1_digits, .int w1_digitCount, .int w1_fraction, .int w1_exponent, .int w1_isHex])), (h_w1_digits, .inl (cB, n_w1_digits, .inl w1_digits_a))] sz)) 0 0 (va_A [(h_v, .inr (3, [.ref h_v_numerator, .ref h_v_denominator, .long v_lead, .int v_power, .int v_more])), (h_v_numerator, .inr (0, [.ref h_v_numerator_limbs, .int v_numerator_size])), (h_v_numerator_limbs, .inl (cI, n_v_numerator_limbs, .inl v_numerator_limbs_a)), (h_w1, .inr (2, [.ref h_w1_digits, .int w1_digitCount, .int w1_fraction, .int w1_exponent, .int w1_isHex])), (h_w1_digits, .inl (cB, n_w1_digits, .inl w1_digits_a))] sz) := by
  refine Met.ofW (cc := prog_6_method_3_code) (maxL := 6) (ret := none) (by decide +kernel) rfl ?_
  intro p e s m args below meth c s₁ B hml hv
  obtain ⟨rfl, hsz, hP, hK, hD0, hX⟩ := hv
  have hx := B.exec
  have hb := B.bytes
  have hr := B.returns
  have hts := atoms_spec (ws := ws_Quo_setNumerator) B.pre
  have hw : ∀ w ∈ zw, w.before [.ref h_v, .ref h_w1].toArray s = true := fun w h => hts w (List.mem_cons_of_mem _ h)
  have hown : s.vm.findClass R_Quo = some m.cls := findClass_of_methodNamed B.named
  have hlocks := B.notSynchronized
  subst hsz
  have hD := hD0.self (sz := s.heap.size)
  generalize hAe : va_A [(h_v, .inr (3, [.ref h_v_numerator, .ref h_v_denominator, .long v_lead, .int v_power, .int v_more])), (h_v_numerator, .inr (0, [.ref h_v_numerator_limbs, .int v_numerator_size])), (h_v_numerator_limbs, .inl (cI, n_v_numerator_limbs, .inl v_numerator_limbs_a)), (h_w1, .inr (2, [.ref h_w1_digits, .int w1_digitCount, .int w1_fraction, .int w1_exponent, .int w1_isHex])), (h_w1_digits, .inl (cB, n_w1_digits, .inl w1_digits_a))] s.heap.size = A at hD hX ⊢
  have hA : ∀ q : Nat, s.heap.size ≤ q → A q := fun q h => by rw [← hAe]; exact Or.inr h
  have hS : va_S A s.heap s.heap [] := va_S.rf
  have hl := lv_entry [.ref h_v, .ref h_w1] (n := 6) (Nat.le_of_ble_eq_true rfl)
  rw [lg_entry_eq]
  generalize (lg_sl [.ref h_v, .ref h_w1] ++ List.replicate (6 - (lg_sl [.ref h_v, .ref h_w1]).length) Slot.unset).toArray = ls at hl ⊢
  have hl : lv_has ls 6 [(0, .ref h_v), (1, .ref h_w1)] := hl
  refine zz_endv hx hb hr hlocks (fun Qq hend => ?_)
  have hL_66 : ∀ (self18 : Int32 → Int32 → Int32 → Int32 → Int32 → (Nat → Int32) → Option (Int32 × (Nat → Int32))), (∀ (y2 : Int32) (y3 : Int32) (y4 : Int32) (y5 : Int32) (v_numerator_size : Int32) (v_numerator_limbs_a : Nat → Int32) (ls : Array Slot) (H : Heap) (locs : List Loc), lv_has ls 6 [(0, .ref h_v), (1, .ref h_w1), (2, .int y2), (3, .int y3), (4, .int y4), (5, .int y5)] → va_P (dC, dI) vwCl [(h_v, .inr (3, [.ref h_v_numerator, .ref h_v_denominator, .long v_lead, .int v_power, .int v_more])), (h_v_numerator, .inr (0, [.ref h_v_numerator_limbs, .int v_numerator_size])), (h_v_numerator_limbs, .inl (cI, n_v_numerator_limbs, .inl v_numerator_limbs_a)), (h_w1, .inr (2, [.ref h_w1_digits, .int w1_digitCount, .int w1_fraction, .int w1_exponent, .int w1_isHex])), (h_w1_digits, .inl (cB, n_w1_digits, .inl w1_digits_a))] H → va_D A [(h_v, .inr (3, [.ref h_v_numerator, .ref h_v_denominator, .long v_lead, .int v_power, .int v_more])), (h_v_numerator, .inr (0, [.ref h_v_numerator_limbs, .int v_numerator_size])), (h_v_numerator_limbs, .inl (cI, n_v_numerator_limbs, .inl v_numerator_limbs_a)), (h_w1, .inr (2, [.ref h_w1_digits, .int w1_digitCount, .int w1_fraction, .int w1_exponent, .int w1_isHex])), (h_w1_digits, .inl (cB, n_w1_digits, .inl w1_digits_a))] → va_S A s.heap H locs → self18 y2 y3 y4 y5 v_numerator_size v_numerator_limbs_a = some u → W p l e (headSpec ws_Quo_setNumerator rm_Quo_setNumerator).room s m [.ref h_v, .ref h_w1].toArray below meth c H locs 0 0 Qq (F0 m 18 ls [])) → ∀ (y2 : Int32) (y3 : Int32) (y5 : Int32) (v_numerator_size : Int32) (v_numerator_limbs_a : Nat → Int32) (ls : Array Slot) (H : Heap) (locs : List Loc), lv_has ls 6 [(0, .ref h_v), (1, .ref h_w1), (2, .int y2), (3, .int y3), (5, .int y5)] → va_P (dC, dI) vwCl [(h_v, .inr (3, [.ref h_v_numerator, .ref h_v_denominator, .long v_lead, .int v_power, .int v_more])), (h_v_numerator, .inr (0, [.ref h_v_numerator_limbs, .int v_numerator_size])), (h_v_numerator_limbs, .inl (cI, n_v_numerator_limbs, .inl v_numerator_limbs_a)), (h_w1, .inr (2, [.ref h_w1_digits, .int w1_digitCount, .int w1_fraction, .int w1_exponent, .int w1_isHex])), (h_w1_digits, .inl (cB, n_w1_digits, .inl w1_digits_a))] H → va_D A [(h_v, .inr (3, [.ref h_v_numerator, .ref h_v_denominator, .long v_lead, .int v_power, .int v_more])), (h_v_numerator, .inr (0, [.ref h_v_numerator_limbs, .int v_numerator_size])), (h_v_numerator_limbs, .inl (cI, n_v_numerator_limbs, .inl v_numerator_limbs_a)), (h_w1, .inr (2, [.ref h_w1_digits, .int w1_digitCount, .int w1_fraction, .int w1_exponent, .int w1_isHex])), (h_w1_digits, .inl (cB, n_w1_digits, .inl w1_digits_a))] → va_S A s.heap H locs → f_Quo_setNumerator_66 fu n_v_numerator_limbs n_w1_digits w1_digitCount w1_digits_a self18 y2 y3 y5 v_numerator_size v_numerator_limbs_a = some u → W p l e (headSpec ws_Quo_setNumerator rm_Quo_setNumerator).room s m [.ref h_v, .ref h_w1].toArray below meth c H locs 0 0 Qq (F0 m 66 ls []) := by
    intro self18 hs18
    intro y2 y3 y5 v_numerator_size v_numerator_limbs_a ls H locs hl hP hD hS hf
    unfold f_Quo_setNumerator_66 at hf
    refine lv_aload_n hx hb d_Quo_setNumerator_66 rfl (lv_at hl 0 rfl) ?_
    refine va_get (D := (dC, dI)) (ci := 3) (v := .ref h_v_numerator) (C := R_Quo) (T := T_Quo) (N := 5) hx hb hw in_Quo hown hK hP 0 rfl rfl 0 (by decide) (hw _ wd_98) (fun _ h9 => h9) rfl d_Quo_setNumerator_67 ?_
    refine lv_iload_n hx hb d_Quo_setNumerator_70 rfl (lv_at hl 3 rfl) ?_
    refine lv_iload_n hx hb d_Quo_setNumerator_71 rfl (lv_at hl 2 rfl) ?_
    obtain ⟨u_5, hu_5, hf⟩ := zz_bd hf
    refine zz_cv (ws' := [(h_v, .inr (3, [.ref h_v_numerator, .ref h_v_denominator, .long v_lead, .int v_power, .int v_more])), (h_v_numerator, .inr (0, [.ref h_v_numerator_limbs, .int u_5.1])), (h_v_numerator_limbs, .inl (cI, n_v_numerator_limbs, .inl u_5.2)), (h_w1, .inr (2, [.ref h_w1_digits, .int w1_digitCount, .int w1_fraction, .int w1_exponent, .int w1_isHex])), (h_w1_digits, .inl (cB, n_w1_digits, .inl w1_digits_a))]) (wc := [(h_v_numerator, .inr (0, [.ref h_v_numerator_limbs, .int v_numerator_size])), (h_v_numerator_limbs, .inl (cI, n_v_numerator_limbs, .inl v_numerator_limbs_a))]) (w' := [(h_v_numerator, .inr (0, [.ref h_v_numerator_limbs, .int u_5.1])), (h_v_numerator_limbs, .inl (cI, n_v_numerator_limbs, .inl u_5.2))]) hP hD hS hA [1, 2] [0, 3, 4] [0, 3, 4, 1, 2] rfl rfl (by decide) (by decide) rfl (by decide) (va_runV (As := [.int y3, .int y2]) (rest := []) ⟨hx, hb, hml, hown, hw⟩ (c_Big_multiplyAndAdd l dC dI cI cC cB cJ fu _ h_v_numerator h_v_numerator_limbs n_v_numerator_limbs y3 y2 v_numerator_size v_numerator_limbs_a u_5 hu_5) (cwV 2 hw (zg_V wd_632 wd_367 wd_368 wd_5 wd_369) rfl rfl rfl hd_Big_multiplyAndAdd ⟨Nat.le_of_ble_eq_true rfl, Nat.le_of_ble_eq_true rfl⟩) (zz_preV zz_TE (va_recv (q0 := 1) (ci := 0) hK hP rfl rfl) hP hD hK hS hA trivial [1, 2] rfl (by decide)) rfl rfl hl.1 rfl (lv_room (Nat.le_of_ble_eq_true rfl)) d_Quo_setNumerator_72 ⟨Nat.zero_le _, Nat.zero_le _⟩) (fun H locs hP hD hS => ?_)
    refine lv_iconst (v := 0) hx hb d_Quo_setNumerator_75 (by decide) ?_
    refine lv_istore_n hx hb d_Quo_setNumerator_76 rfl hl (by decide) rfl (fun ls hl => ?_)
    have hl : lv_has ls 6 [(2, .int 0), (0, .ref h_v), (1, .ref h_w1), (3, .int y3), (5, .int y5)] := hl
    refine lv_iconst (v := 1) hx hb d_Quo_setNumerator_77 (by decide) ?_
    refine lv_istore_n hx hb d_Quo_setNumerator_78 rfl hl (by decide) rfl (fun ls hl => ?_)
    have hl : lv_has ls 6 [(3, .int 1), (2, .int 0), (0, .ref h_v), (1, .ref h_w1), (5, .int y5)] := hl
    refine lv_iconst (v := 0) hx hb d_Quo_setNumerator_79 (by decide) ?_
    refine lv_istore hx hb d_Quo_setNumerator_80 hl (by decide) rfl (fun ls hl => ?_)
    have hl : lv_has ls 6 [(4, .int 0), (3, .int 1), (2, .int 0), (0, .ref h_v), (1, .ref h_w1), (5, .int y5)] := hl
    refine lv_iinc (k := 5) (v := y5 + 1) hx hb d_Quo_setNumerator_82 hl rfl rfl (by decide) rfl (fun ls hl => ?_)
    have hl : lv_has ls 6 [(5, .int (y5 + 1)), (4, .int 0), (3, .int 1), (2, .int 0), (0, .ref h_v), (1, .ref h_w1)] := hl
    refine lv_goto (tgt := 18) hx hb d_Quo_setNumerator_85 (by decide) ?_
    exact hs18 0 1 0 (y5 + 1) u_5.1 u_5.2 ls _ _ (lv_sub hl [4, 5, 3, 2, 1, 0] rfl) hP hD hS hf
  have hL_18 : ∀ (n : Nat), ∀ (y2 : Int32) (y3 : Int32) (y4 : Int32) (y5 : Int32) (v_numerator_size : Int32) (v_numerator_limbs_a : Nat → Int32) (ls : Array Slot) (H : Heap) (locs : List Loc), lv_has ls 6 [(0, .ref h_v), (1, .ref h_w1), (2, .int y2), (3, .int y3), (4, .int y4), (5, .int y5)] → va_P (dC, dI) vwCl [(h_v, .inr (3, [.ref h_v_numerator, .ref h_v_denominator, .long v_lead, .int v_power, .int v_more])), (h_v_numerator, .inr (0, [.ref h_v_numerator_limbs, .int v_numerator_size])), (h_v_numerator_limbs, .inl (cI, n_v_numerator_limbs, .inl v_numerator_limbs_a)), (h_w1, .inr (2, [.ref h_w1_digits, .int w1_digitCount, .int w1_fraction, .int w1_exponent, .int w1_isHex])), (h_w1_digits, .inl (cB, n_w1_digits, .inl w1_digits_a))] H → va_D A [(h_v, .inr (3, [.ref h_v_numerator, .ref h_v_denominator, .long v_lead, .int v_power, .int v_more])), (h_v_numerator, .inr (0, [.ref h_v_numerator_limbs, .int v_numerator_size])), (h_v_numerator_limbs, .inl (cI, n_v_numerator_limbs, .inl v_numerator_limbs_a)), (h_w1, .inr (2, [.ref h_w1_digits, .int w1_digitCount, .int w1_fraction, .int w1_exponent, .int w1_isHex])), (h_w1_digits, .inl (cB, n_w1_digits, .inl w1_digits_a))] → va_S A s.heap H locs → f_Quo_setNumerator_18 fu n_v_numerator_limbs n_w1_digits w1_digitCount w1_digits_a n y2 y3 y4 y5 v_numerator_size v_numerator_limbs_a = some u → W p l e (headSpec ws_Quo_setNumerator rm_Quo_setNumerator).room s m [.ref h_v, .ref h_w1].toArray below meth c H locs 0 0 Qq (F0 m 18 ls []) := by
    intro n
    induction n with
    | zero =>
      intro y2 y3 y4 y5 v_numerator_size v_numerator_limbs_a ls H locs hl hP hD hS hf
      exact zz_no hf
    | succ n ih =>
      intro y2 y3 y4 y5 v_numerator_size v_numerator_limbs_a ls H locs hl hP hD hS hf
      rw [f_Quo_setNumerator_18_s] at hf
      refine lv_iload hx hb d_Quo_setNumerator_18 (lv_at hl 5 rfl) ?_
      refine lv_aload_n hx hb d_Quo_setNumerator_20 rfl (lv_at hl 1 rfl) ?_
      refine va_get (D := (dC, dI)) (ci := 2) (v := .int w1_digitCount) (C := R_Lit) (T := T_Lit) (N := 5) hx hb hw in_Lit hown hK hP 3 rfl rfl 1 (by decide) (hw _ wd_58) (fun _ h9 => h9) rfl d_Quo_setNumerator_21 ?_
      refine lv_icmp_ge (tgt := 88) hx hb d_Quo_setNumerator_24 (by decide) (fun hc => ?_) (fun hc => ?_)
      · have hf := zz_ifp hc hf
        cases hf
        exact hend 88 ls _ _ d_Quo_setNumerator_88 hP hD hS
      · have hf := zz_ifn hc hf
        refine lv_iload_n hx hb d_Quo_setNumerator_27 rfl (lv_at hl 2 rfl) ?_
        refine lv_bipush (v := 10) hx hb d_Quo_setNumerator_28 (by decide) ?_
        refine lv_imul hx hb d_Quo_setNumerator_30 ?_
        refine lv_aload_n hx hb d_Quo_setNumerator_31 rfl (lv_at hl 1 rfl) ?_
        refine va_get (D := (dC, dI)) (ci := 2) (v := .ref h_w1_digits) (C := R_Lit) (T := T_Lit) (N := 5) hx hb hw in_Lit hown hK hP 3 rfl rfl 0 (by decide) (hw _ wd_55) (fun _ h9 => h9) rfl d_Quo_setNumerator_32 ?_
        refine lv_iload hx hb d_Quo_setNumerator_35 (lv_at hl 5 rfl) ?_
        obtain ⟨hb_2, hf⟩ := zz_gd hf
        refine va_bald hx hb hK hP 4 2 rfl rfl (zz_vp hb_2) d_Quo_setNumerator_37 ?_
        refine lv_iadd hx hb d_Quo_setNumerator_38 ?_
        refine lv_topi (fun x2_3 e_x2_3 => ?_)
        have hf := zz_ltp hf x2_3 e_x2_3
        refine lv_istore_n hx hb d_Quo_setNumerator_39 rfl hl (by decide) rfl (fun ls hl => ?_)
        have hl : lv_has ls 6 [(2, .int x2_3), (0, .ref h_v), (1, .ref h_w1), (3, .int y3), (4, .int y4), (5, .int y5)] := hl
        refine lv_iload_n hx hb d_Quo_setNumerator_40 rfl (lv_at hl 3 rfl) ?_
        refine lv_bipush (v := 10) hx hb d_Quo_setNumerator_41 (by decide) ?_
        refine lv_imul hx hb d_Quo_setNumerator_43 ?_
        refine lv_topi (fun x3_4 e_x3_4 => ?_)
        have hf := zz_ltp hf x3_4 e_x3_4
        refine lv_istore_n hx hb d_Quo_setNumerator_44 rfl hl (by decide) rfl (fun ls hl => ?_)
        have hl : lv_has ls 6 [(3, .int x3_4), (2, .int x2_3), (0, .ref h_v), (1, .ref h_w1), (4, .int y4), (5, .int y5)] := hl
        refine lv_iinc (k := 4) (v := y4 + 1) hx hb d_Quo_setNumerator_45 hl rfl rfl (by decide) rfl (fun ls hl => ?_)
        have hl : lv_has ls 6 [(4, .int (y4 + 1)), (3, .int x3_4), (2, .int x2_3), (0, .ref h_v), (1, .ref h_w1), (5, .int y5)] := hl
        refine lv_iload hx hb d_Quo_setNumerator_48 (lv_at hl 0 rfl) ?_
        refine lv_bipush (v := 9) hx hb d_Quo_setNumerator_50 (by decide) ?_
        refine lv_icmp_eq (tgt := 66) hx hb d_Quo_setNumerator_52 (by decide) (fun hc => ?_) (fun hc => ?_)
        · have hf := zz_ifp hc hf
          exact hL_66 _ ih x2_3 x3_4 y5 v_numerator_size v_numerator_limbs_a ls _ _ (lv_sub hl [3, 4, 2, 1, 5] rfl) hP hD hS hf
        · have hf := zz_ifn hc hf
          refine lv_iload hx hb d_Quo_setNumerator_55 (lv_at hl 5 rfl) ?_
          refine lv_aload_n hx hb d_Quo_setNumerator_57 rfl (lv_at hl 4 rfl) ?_
          refine va_get (D := (dC, dI)) (ci := 2) (v := .int w1_digitCount) (C := R_Lit) (T := T_Lit) (N := 5) hx hb hw in_Lit hown hK hP 3 rfl rfl 1 (by decide) (hw _ wd_58) (fun _ h9 => h9) rfl d_Quo_setNumerator_58 ?_
          refine lv_iconst (v := 1) hx hb d_Quo_setNumerator_61 (by decide) ?_
          refine lv_isub hx hb d_Quo_setNumerator_62 ?_
          refine lv_icmp_ne (tgt := 82) hx hb d_Quo_setNumerator_63 (by decide) (fun hc => ?_) (fun hc => ?_)
          · have hf := zz_ifn hc hf
            refine lv_iinc (k := 5) (v := y5 + 1) hx hb d_Quo_setNumerator_82 hl rfl rfl (by decide) rfl (fun ls hl => ?_)
            have hl : lv_has ls 6 [(5, .int (y5 + 1)), (4, .int (y4 + 1)), (3, .int x3_4), (2, .int x2_3), (0, .ref h_v), (1, .ref h_w1)] := hl
            refine lv_goto (tgt := 18) hx hb d_Quo_setNumerator_85 (by decide) ?_
            exact ih x2_3 x3_4 (y4 + 1) (y5 + 1) v_numerator_size v_numerator_limbs_a ls _ _ (lv_sub hl [4, 5, 3, 2, 1, 0] rfl) hP hD hS hf
          · have hf := zz_ifp hc hf
            exact hL_66 _ ih x2_3 x3_4 y5 v_numerator_size v_numerator_limbs_a ls _ _ (lv_sub hl [3, 4, 2, 1, 5] rfl) hP hD hS hf
  unfold f_Quo_setNumerator at hf
  refine lv_aload_n hx hb d_Quo_setNumerator_0 rfl (lv_at hl 0 rfl) ?_
  refine va_get (D := (dC, dI)) (ci := 3) (v := .ref h_v_numerator) (C := R_Quo) (T := T_Quo) (N := 5) hx hb hw in_Quo hown hK hP 0 rfl rfl 0 (by decide) (hw _ wd_98) (fun _ h9 => h9) rfl d_Quo_setNumerator_1 ?_
  refine lv_lconst (v := 0) hx hb d_Quo_setNumerator_4 (by decide) ?_
  obtain ⟨u_1, hu_1, hf⟩ := zz_bd hf
  refine zz_cv (ws' := [(h_v, .inr (3, [.ref h_v_numerator, .ref h_v_denominator, .long v_lead, .int v_power, .int v_more])), (h_v_numerator, .inr (0, [.ref h_v_numerator_limbs, .int u_1.1])), (h_v_numerator_limbs, .inl (cI, n_v_numerator_limbs, .inl u_1.2)), (h_w1, .inr (2, [.ref h_w1_digits, .int w1_digitCount, .int w1_fraction, .int w1_exponent, .int w1_isHex])), (h_w1_digits, .inl (cB, n_w1_digits, .inl w1_digits_a))]) (wc := [(h_v_numerator, .inr (0, [.ref h_v_numerator_limbs, .int v_numerator_size])), (h_v_numerator_limbs, .inl (cI, n_v_numerator_limbs, .inl v_numerator_limbs_a))]) (w' := [(h_v_numerator, .inr (0, [.ref h_v_numerator_limbs, .int u_1.1])), (h_v_numerator_limbs, .inl (cI, n_v_numerator_limbs, .inl u_1.2))]) hP hD hS hA [1, 2] [0, 3, 4] [0, 3, 4, 1, 2] rfl rfl (by decide) (by decide) rfl (by decide) (va_runV (As := [.long 0]) (rest := []) ⟨hx, hb, hml, hown, hw⟩ (c_Big_set l dC dI cI cC cB cJ fu _ h_v_numerator h_v_numerator_limbs n_v_numerator_limbs 0 v_numerator_size v_numerator_limbs_a u_1 hu_1) (cwV 1 hw (zg_V wd_631 wd_323 wd_324 wd_5 wd_325) rfl rfl rfl hd_Big_set ⟨Nat.le_of_ble_eq_true rfl, Nat.le_of_ble_eq_true rfl⟩) (zz_preV zz_TE (va_recv (q0 := 1) (ci := 0) hK hP rfl rfl) hP hD hK hS hA trivial [1, 2] rfl (by decide)) rfl rfl hl.1 rfl (lv_room (Nat.le_of_ble_eq_true rfl)) d_Quo_setNumerator_5 ⟨Nat.zero_le _, Nat.zero_le _⟩) (fun H locs hP hD hS => ?_)
  refine lv_iconst (v := 0) hx hb d_Quo_setNumerator_8 (by decide) ?_
  refine lv_istore_n hx hb d_Quo_setNumerator_9 rfl hl (by decide) rfl (fun ls hl => ?_)
  have hl : lv_has ls 6 [(2, .int 0), (0, .ref h_v), (1, .ref h_w1)] := hl
  refine lv_iconst (v := 1) hx hb d_Quo_setNumerator_10 (by decide) ?_
  refine lv_istore_n hx hb d_Quo_setNumerator_11 rfl hl (by decide) rfl (fun ls hl => ?_)
  have hl : lv_has ls 6 [(3, .int 1), (2, .int 0), (0, .ref h_v), (1, .ref h_w1)] := hl
  refine lv_iconst (v := 0) hx hb d_Quo_setNumerator_12 (by decide) ?_
  refine lv_istore hx hb d_Quo_setNumerator_13 hl (by decide) rfl (fun ls hl => ?_)
  have hl : lv_has ls 6 [(4, .int 0), (3, .int 1), (2, .int 0), (0, .ref h_v), (1, .ref h_w1)] := hl
  refine lv_iconst (v := 0) hx hb d_Quo_setNumerator_15 (by decide) ?_
  refine lv_istore hx hb d_Quo_setNumerator_16 hl (by decide) rfl (fun ls hl => ?_)
  have hl : lv_has ls 6 [(5, .int 0), (4, .int 0), (3, .int 1), (2, .int 0), (0, .ref h_v), (1, .ref h_w1)] := hl
  exact hL_18 fu 0 1 0 0 u_1.1 u_1.2 ls _ _ (lv_sub hl [4, 5, 3, 2, 1, 0] rfl) hP hD hS hf
abbrev ws_Quo_divideBits : List Cond := .code y_Quo_divideBits prog_6_method_4_code 2 none :: zw
abbrev rm_Quo_divideBits : Room := { frames := 2, cells := 0, slots := 0, locals := 47 }
theorem hd_Quo_divideBits : y_Quo_divideBits.cls = "RealText$Quotient" ∧ y_Quo_divideBits.cls ≠ "java/lang/invoke/MethodHandle" ∧ y_Quo_divideBits.cls ≠ "java/lang/invoke/VarHandle" ∧ (parseMethodDescriptor y_Quo_divideBits.desc).map (fun d => d.parameters.length) = some 0 := by decide +kernel
theorem d_Quo_divideBits_0 : decode prog_6_method_4_code 0 = .ok (.aload_n 0, 1) := by decide +kernel
theorem d_Quo_divideBits_1 : decode prog_6_method_4_code 1 = .ok (.lconst 0, 1) := by decide +kernel
theorem d_Quo_divideBits_2 : decode prog_6_method_4_code 2 = .ok (.putfield 69, 3) := by decide +kernel
theorem d_Quo_divideBits_5 : decode prog_6_method_4_code 5 = .ok (.iconst 0, 1) := by decide +kernel
theorem d_Quo_divideBits_6 : decode prog_6_method_4_code 6 = .ok (.istore_n 1, 1) := by decide +kernel
theorem d_Quo_divideBits_7 : decode prog_6_method_4_code 7 = .ok (.iload_n 1, 1) := by decide +kernel
theorem d_Quo_divideBits_8 : decode prog_6_method_4_code 8 = .ok (.bipush 63, 2) := by decide +kernel
theorem d_Quo_divideBits_10 : decode prog_6_method_4_code 10 = .ok (.if_icmp .ge 62, 3) := by decide +kernel
theorem d_Quo_divideBits_13 : decode prog_6_method_4_code 13 = .ok (.aload_n 0, 1) := by decide +kernel
theorem d_Quo_divideBits_14 : decode prog_6_method_4_code 14 = .ok (.dup, 1) := by decide +kernel
theorem d_Quo_divideBits_15 : decode prog_6_method_4_code 15 = .ok (.getfield 69, 3) := by decide +kernel
theorem d_Quo_divideBits_18 : decode prog_6_method_4_code 18 = .ok (.iconst 1, 1) := by decide +kernel
theorem d_Quo_divideBits_19 : decode prog_6_method_4_code 19 = .ok (.lshl, 1) := by decide +kernel
theorem d_Quo_divideBits_20 : decode prog_6_method_4_code 20 = .ok (.putfield 69, 3) := by decide +kernel
theorem d_Quo_divideBits_23 : decode prog_6_method_4_code 23 = .ok (.aload_n 0, 1) := by decide +kernel
theorem d_Quo_divideBits_24 : decode prog_6_method_4_code 24 = .ok (.getfield 14, 3) := by decide +kernel
theorem d_Quo_divideBits_27 : decode prog_6_method_4_code 27 = .ok (.aload_n 0, 1) := by decide +kernel
theorem d_Quo_divideBits_28 : decode prog_6_method_4_code 28 = .ok (.getfield 18, 3) := by decide +kernel
theorem d_Quo_divideBits_31 : decode prog_6_method_4_code 31 = .ok (.invokevirtual 73, 3) := by decide +kernel
theorem d_Quo_divideBits_34 : decode prog_6_method_4_code 34 = .ok (.ifCond .lt 24, 3) := by decide +kernel
theorem d_Quo_divideBits_37 : decode prog_6_method_4_code 37 = .ok (.aload_n 0, 1) := by decide +kernel
theorem d_Quo_divideBits_38 : decode prog_6_method_4_code 38 = .ok (.getfield 14, 3) := by decide +kernel
theorem d_Quo_divideBits_41 : decode prog_6_method_4_code 41 = .ok (.aload_n 0, 1) := by decide +kernel
theorem d_Quo_divideBits_42 : decode prog_6_method_4_code 42 = .ok (.getfield 18, 3) := by decide +kernel
theorem d_Quo_divideBits_45 : decode prog_6_method_4_code 45 = .ok (.invokevirtual 77, 3) := by decide +kernel
theorem d_Quo_divideBits_48 : decode prog_6_method_4_code 48 = .ok (.aload_n 0, 1) := by decide +kernel
theorem d_Quo_divideBits_49 : decode prog_6_method_4_code 49 = .ok (.dup, 1) := by decide +kernel
theorem d_Quo_divideBits_50 : decode prog_6_method_4_code 50 = .ok (.getfield 69, 3) := by decide +kernel
theorem d_Quo_divideBits_53 : decode prog_6_method_4_code 53 = .ok (.lconst 1, 1) := by decide +kernel
theorem d_Quo_divideBits_54 : decode prog_6_method_4_code 54 = .ok (.lor, 1) := by decide +kernel
theorem d_Quo_divideBits_55 : decode prog_6_method_4_code 55 = .ok (.putfield 69, 3) := by decide +kernel
theorem d_Quo_divideBits_58 : decode prog_6_method_4_code 58 = .ok (.aload_n 0, 1) := by decide +kernel
theorem d_Quo_divideBits_59 : decode prog_6_method_4_code 59 = .ok (.getfield 14, 3) := by decide +kernel
theorem d_Quo_divideBits_62 : decode prog_6_method_4_code 62 = .ok (.iconst 1, 1) := by decide +kernel
theorem d_Quo_divideBits_63 : decode prog_6_method_4_code 63 = .ok (.invokevirtual 36, 3) := by decide +kernel
theorem d_Quo_divideBits_66 : decode prog_6_method_4_code 66 = .ok (.iinc 1 1, 3) := by decide +kernel
theorem d_Quo_divideBits_69 : decode prog_6_method_4_code 69 = .ok (.goto (-62), 3) := by decide +kernel
theorem d_Quo_divideBits_72 : decode prog_6_method_4_code 72 = .ok (.return_, 1) := by decide +kernel
def f_Quo_divideBits_58 (fu : Nat) (n_v_numerator_limbs : Nat) (n_v_denominator_limbs : Nat) (v_denominator_size : Int32) (v_denominator_limbs_a : Nat → Int32) (self7 : Int32 → Int64 → Int32 → (Nat → Int32) → Option (Int64 × Int32 × (Nat → Int32))) (y1 : Int32) (v_lead : Int64) (v_numerator_size : Int32) (v_numerator_limbs_a : Nat → Int32) : Option (Int64 × Int32 × (Nat → Int32)) :=
  (f_Big_shiftLeft fu n_v_numerator_limbs 1 v_numerator_size v_numerator_limbs_a).bind fun u_2 =>
  self7 (y1 + 1) v_lead u_2.1 u_2.2
def f_Quo_divideBits_7 (fu : Nat) (n_v_numerator_limbs : Nat) (n_v_denominator_limbs : Nat) (v_denominator_size : Int32) (v_denominator_limbs_a : Nat → Int32)  : Nat → Int32 → Int64 → Int32 → (Nat → Int32) → Option (Int64 × Int32 × (Nat → Int32))
  | 0, _, _, _, _ => none
  | n + 1, y1, v_lead, v_numerator_size, v_numerator_limbs_a =>
  (if 63 ≤ y1 then
  some (v_lead, v_numerator_size, v_numerator_limbs_a)
  else
  (f_Big_compare fu n_v_numerator_limbs n_v_denominator_limbs v_numerator_size v_numerator_limbs_a v_denominator_size v_denominator_limbs_a).bind fun u_1 =>
  (if u_1 < 0 then
  f_Quo_divideBits_58 fu n_v_numerator_limbs n_v_denominator_limbs v_denominator_size v_denominator_limbs_a (f_Quo_divideBits_7 fu n_v_numerator_limbs n_v_denominator_limbs v_denominator_size v_denominator_limbs_a n) y1 (v_lead <<< ((1 : Int32).toInt64 &&& 63)) v_numerator_size v_numerator_limbs_a
  else
  (f_Big_subtract fu n_v_numerator_limbs n_v_denominator_limbs v_numerator_size v_numerator_limbs_a v_denominator_size v_denominator_limbs_a).bind fun u_3 =>
  f_Quo_divideBits_58 fu n_v_numerator_limbs n_v_denominator_limbs v_denominator_size v_denominator_limbs_a (f_Quo_divideBits_7 fu n_v_numerator_limbs n_v_denominator_limbs v_denominator_size v_denominator_limbs_a n) y1 ((v_lead <<< ((1 : Int32).toInt64 &&& 63)) ||| 1) u_3.1 u_3.2))
theorem f_Quo_divideBits_7_s (fu : Nat) (n_v_numerator_limbs : Nat) (n_v_denominator_limbs : Nat) (v_denominator_size : Int32) (v_denominator_limbs_a : Nat → Int32)  (n : Nat) (y1 : Int32) (v_lead : Int64) (v_numerator_size : Int32) (v_numerator_limbs_a : Nat → Int32) : f_Quo_divideBits_7 fu n_v_numerator_limbs n_v_denominator_limbs v_denominator_size v_denominator_limbs_a (n + 1) y1 v_lead v_numerator_size v_numerator_limbs_a =
  (if 63 ≤ y1 then
  some (v_lead, v_numerator_size, v_numerator_limbs_a)
  else
  (f_Big_compare fu n_v_numerator_limbs n_v_denominator_limbs v_numerator_size v_numerator_limbs_a v_denominator_size v_denominator_limbs_a).bind fun u_1 =>
  (if u_1 < 0 then
  f_Quo_divideBits_58 fu n_v_numerator_limbs n_v_denominator_limbs v_denominator_size v_denominator_limbs_a (f_Quo_divideBits_7 fu n_v_numerator_limbs n_v_denominator_limbs v_denominator_size v_denominator_limbs_a n) y1 (v_lead <<< ((1 : Int32).toInt64 &&& 63)) v_numerator_size v_numerator_limbs_a
  else
  (f_Big_subtract fu n_v_numerator_limbs n_v_denominator_limbs v_numerator_size v_numerator_limbs_a v_denominator_size v_denominator_limbs_a).bind fun u_3 =>
  f_Quo_divideBits_58 fu n_v_numerator_limbs n_v_denominator_limbs v_denominator_size v_denominator_limbs_a (f_Quo_divideBits_7 fu n_v_numerator_limbs n_v_denominator_limbs v_denominator_size v_denominator_limbs_a n) y1 ((v_lead <<< ((1 : Int32).toInt64 &&& 63)) ||| 1) u_3.1 u_3.2)) := rfl
def f_Quo_divideBits (fu : Nat) (n_v_numerator_limbs : Nat) (n_v_denominator_limbs : Nat) (v_lead : Int64) (v_numerator_size : Int32) (v_numerator_limbs_a : Nat → Int32) (v_denominator_size : Int32) (v_denominator_limbs_a : Nat → Int32) : Option (Int64 × Int32 × (Nat → Int32)) :=
  f_Quo_divideBits_7 fu n_v_numerator_limbs n_v_denominator_limbs v_denominator_size v_denominator_limbs_a fu 0 0 v_numerator_size v_numerator_limbs_a
set_option maxHeartbeats 4000000 in
set_option maxRecDepth 100000 in
theorem c_Quo_divideBits (l : Launch) (dC : Nat → ClassId) (dI : Nat → Nat → Nat) (cI cC cB cJ : ClassId) (fu : Nat) (sz : Nat) (h_v : Nat) (h_v_numerator : Nat) (h_v_numerator_limbs : Nat) (h_v_denominator : Nat) (h_v_denominator_limbs : Nat) (n_v_numerator_limbs : Nat) (n_v_denominator_limbs : Nat) (v_lead : Int64) (v_power : Int32) (v_more : Int32) (v_numerator_size : Int32) (v_numerator_limbs_a : Nat → Int32) (v_denominator_size : Int32) (v_denominator_limbs_a : Nat → Int32) (u : Int64 × Int32 × (Nat → Int32)) (hf : f_Quo_divideBits fu n_v_numerator_limbs n_v_denominator_limbs v_lead v_numerator_size v_numerator_limbs_a v_denominator_size v_denominator_limbs_a = some u) : Met l y_Quo_divideBits ws_Quo_divideBits rm_Quo_divideBits (zz_P zz_T (dC, dI) vwCl (zz_tys cI cC cB cJ) [.ref h_v] [(h_v, .inr (3, [.ref h_v_numerator, .ref h_v_denominator, .long v_lead, .int v_power, .int v_more])), (h_v_numerator, .inr (0, [.ref h_v_numerator_limbs, .int v_numerator_size])), (h_v_numerator_limbs, .inl (cI, n_v_numerator_limbs, .inl v_numerator_limbs_a)), (h_v_denominator, .inr (0, [.ref h_v_denominator_limbs, .int v_denominator_size])), (h_v_denominator_limbs, .inl (cI, n_v_denominator_limbs, .inl v_denominator_limbs_a))] sz) (zz_Qv (dC, dI) vwCl [(h_v, .inr (3, [.ref h_v_numerator, .ref h_v_denominator, .long u.1, .int v_power, .int v_more])), (h_v_numerator, .inr (0, [.ref h_v_numerator_limbs, .int u.2.1])), (h_v_numerator_limbs, .inl (cI, n_v_numerator_limbs, .inl u.2.2)), (h_v_denominator, .inr (0, [.ref h_v_denominator_limbs, .int v_denominator_size])), (h_v_denominator_limbs, .inl (cI, n_v_denominator_limbs, .inl v_denominator_limbs_a))] (va_A [(h_v, .inr (3, [.ref h_v_numerator, .ref h_v_denominator, .long v_lead, .int v_power, .int v_more])), (h_v_numerator, .inr (0, [.ref h_v_numerator_limbs, .int v_numerator_size])), (h_v_numerator_limbs, .inl (cI, n_v_numerator_limbs, .inl v_numerator_limbs_a)), (h_v_denominator, .inr (0, [.ref h_v_denominator_limbs, .int v_denominator_size])), (h_v_denominator_limbs, .inl (cI, n_v_denominator_limbs, .inl v_denominator_limbs_a))] sz)) 0 0 (va_A [(h_v, .inr (3, [.ref h_v_numerator, .ref h_v_denominator, .long v_lead, .int v_power, .int v_more])), (h_v_numerator, .inr (0, [.ref h_v_numerator_limbs, .int v_numerator_size])), (h_v_numerator_limbs, .inl (cI, n_v_numerator_limbs, .inl v_numerator_limbs_a)), (h_v_denominator, .inr (0, [.ref h_v_denominator_limbs, .int v_denominator_size])), (h_v_denominator_limbs, .inl (cI, n_v_denominator_limbs, .inl v_denominator_limbs_a))] sz) := by
  refine Met.ofW (cc := prog_6_method_4_code) (maxL := 2) (ret := none) (by decide +kernel) rfl ?_
  intro p e s m args below meth c s₁ B hml hv
  obtain ⟨rfl, hsz, hP, hK, hD0, hX⟩ := hv
  have hx := B.exec
  have hb := B.bytes
  have hr := B.returns
  have hts := atoms_spec (ws := ws_Quo_divideBits) B.pre
  have hw : ∀ w ∈ zw, w.before [.ref h_v].toArray s = true := fun w h => hts w (List.mem_cons_of_mem _ h)
  have hown : s.vm.findClass R_Quo = some m.cls := findClass_of_methodNamed B.named
  have hlocks := B.notSynchronized
  subst hsz
  have hD := hD0.self (sz := s.heap.size)
  generalize hAe : va_A [(h_v, .inr (3, [.ref h_v_numerator, .ref h_v_denominator, .long v_lead, .int v_power, .int v_more])), (h_v_numerator, .inr (0, [.ref h_v_numerator_limbs, .int v_numerator_size])), (h_v_numerator_limbs, .inl (cI, n_v_numerator_limbs, .inl v_numerator_limbs_a)), (h_v_denominator, .inr (0, [.ref h_v_denominator_limbs, .int v_denominator_size])), (h_v_denominator_limbs, .inl (cI, n_v_denominator_limbs, .inl v_denominator_limbs_a))] s.heap.size = A at hD hX ⊢
  have hA : ∀ q : Nat, s.heap.size ≤ q → A q := fun q h => by rw [← hAe]; exact Or.inr h
  have hS : va_S A s.heap s.heap [] := va_S.rf
  have hl := lv_entry [.ref h_v] (n := 2) (Nat.le_of_ble_eq_true rfl)
  rw [lg_entry_eq]
  generalize (lg_sl [.ref h_v] ++ List.replicate (2 - (lg_sl [.ref h_v]).length) Slot.unset).toArray = ls at hl ⊢
  have hl : lv_has ls 2 [(0, .ref h_v)] := hl
  refine zz_endv hx hb hr hlocks (fun Qq hend => ?_)
  have hL_58 : ∀ (self7 : Int32 → Int64 → Int32 → (Nat → Int32) → Option (Int64 × Int32 × (Nat → Int32))), (∀ (y1 : Int32) (v_lead : Int64) (v_numerator_size : Int32) (v_numerator_limbs_a : Nat → Int32) (ls : Array Slot) (H : Heap) (locs : List Loc), lv_has ls 2 [(0, .ref h_v), (1, .int y1)] → va_P (dC, dI) vwCl [(h_v, .inr (3, [.ref h_v_numerator, .ref h_v_denominator, .long v_lead, .int v_power, .int v_more])), (h_v_numerator, .inr (0, [.ref h_v_numerator_limbs, .int v_numerator_size])), (h_v_numerator_limbs, .inl (cI, n_v_numerator_limbs, .inl v_numerator_limbs_a)), (h_v_denominator, .inr (0, [.ref h_v_denominator_limbs, .int v_denominator_size])), (h_v_denominator_limbs, .inl (cI, n_v_denominator_limbs, .inl v_denominator_limbs_a))] H → va_D A [(h_v, .inr (3, [.ref h_v_numerator, .ref h_v_denominator, .long v_lead, .int v_power, .int v_more])), (h_v_numerator, .inr (0, [.ref h_v_numerator_limbs, .int v_numerator_size])), (h_v_numerator_limbs, .inl (cI, n_v_numerator_limbs, .inl v_numerator_limbs_a)), (h_v_denominator, .inr (0, [.ref h_v_denominator_limbs, .int v_denominator_size])), (h_v_denominator_limbs, .inl (cI, n_v_denominator_limbs, .inl v_denominator_limbs_a))] → va_S A s.heap H locs → self7 y1 v_lead v_numerator_size v_numerator_limbs_a = some u → W p l e (headSpec ws_Quo_divideBits rm_Quo_divideBits).room s m [.ref h_v].toArray below meth c H locs 0 0 Qq (F0 m 7 ls [])) → ∀ (y1 : Int32) (v_lead : Int64) (v_numerator_size : Int32) (v_numerator_limbs_a : Nat → Int32) (ls : Array Slot) (H : Heap) (locs : List Loc), lv_has ls 2 [(0, .ref h_v), (1, .int y1)] → va_P (dC, dI) vwCl [(h_v, .inr (3, [.ref h_v_numerator, .ref h_v_denominator, .long v_lead, .int v_power, .int v_more])), (h_v_numerator, .inr (0, [.ref h_v_numerator_limbs, .int v_numerator_size])), (h_v_numerator_limbs, .inl (cI, n_v_numerator_limbs, .inl v_numerator_limbs_a)), (h_v_denominator, .inr (0, [.ref h_v_denominator_limbs, .int v_denominator_size])), (h_v_denominator_limbs, .inl (cI, n_v_denominator_limbs, .inl v_denominator_limbs_a))] H → va_D A [(h_v, .inr (3, [.ref h_v_numerator, .ref h_v_denominator, .long v_lead, .int v_power, .int v_more])), (h_v_numerator, .inr (0, [.ref h_v_numerator_limbs, .int v_numerator_size])), (h_v_numerator_limbs, .inl (cI, n_v_numerator_limbs, .inl v_numerator_limbs_a)), (h_v_denominator, .inr (0, [.ref h_v_denominator_limbs, .int v_denominator_size])), (h_v_denominator_limbs, .inl (cI, n_v_denominator_limbs, .inl v_denominator_limbs_a))] → va_S A s.heap H locs → f_Quo_divideBits_58 fu n_v_numerator_limbs n_v_denominator_limbs v_denominator_size v_denominator_limbs_a self7 y1 v_lead v_numerator_size v_numerator_limbs_a = some u → W p l e (headSpec ws_Quo_divideBits rm_Quo_divideBits).room s m [.ref h_v].toArray below meth c H locs 0 0 Qq (F0 m 58 ls []) := by
    intro self7 hs7
    intro y1 v_lead v_numerator_size v_numerator_limbs_a ls H locs hl hP hD hS hf
    unfold f_Quo_divideBits_58 at hf
    refine lv_aload_n hx hb d_Quo_divideBits_58 rfl (lv_at hl 0 rfl) ?_
    refine va_get (D := (dC, dI)) (ci := 3) (v := .ref h_v_numerator) (C := R_Quo) (T := T_Quo) (N := 5) hx hb hw in_Quo hown hK hP 0 rfl rfl 0 (by decide) (hw _ wd_98) (fun _ h9 => h9) rfl d_Quo_divideBits_59 ?_
    refine lv_iconst (v := 1) hx hb d_Quo_divideBits_62 (by decide) ?_
    obtain ⟨u_2, hu_2, hf⟩ := zz_bd hf
    refine zz_cv (ws' := [(h_v, .inr (3, [.ref h_v_numerator, .ref h_v_denominator, .long v_lead, .int v_power, .int v_more])), (h_v_numerator, .inr (0, [.ref h_v_numerator_limbs, .int u_2.1])), (h_v_numerator_limbs, .inl (cI, n_v_numerator_limbs, .inl u_2.2)), (h_v_denominator, .inr (0, [.ref h_v_denominator_limbs, .int v_denominator_size])), (h_v_denominator_limbs, .inl (cI, n_v_denominator_limbs, .inl v_denominator_limbs_a))]) (wc := [(h_v_numerator, .inr (0, [.ref h_v_numerator_limbs, .int v_numerator_size])), (h_v_numerator_limbs, .inl (cI, n_v_numerator_limbs, .inl v_numerator_limbs_a))]) (w' := [(h_v_numerator, .inr (0, [.ref h_v_numerator_limbs, .int u_2.1])), (h_v_numerator_limbs, .inl (cI, n_v_numerator_limbs, .inl u_2.2))]) hP hD hS hA [1, 2] [0, 3, 4] [0, 3, 4, 1, 2] rfl rfl (by decide) (by decide) rfl (by decide) (va_runV (As := [.int 1]) (rest := []) ⟨hx, hb, hml, hown, hw⟩ (c_Big_shiftLeft l dC dI cI cC cB cJ fu _ h_v_numerator h_v_numerator_limbs n_v_numerator_limbs 1 v_numerator_size v_numerator_limbs_a u_2 hu_2) (cwV 1 hw (zg_V wd_635 wd_336 wd_337 wd_5 wd_338) rfl rfl rfl hd_Big_shiftLeft ⟨Nat.le_of_ble_eq_true rfl, Nat.le_of_ble_eq_true rfl⟩) (zz_preV zz_TE (va_recv (q0 := 1) (ci := 0) hK hP rfl rfl) hP hD hK hS hA trivial [1, 2] rfl (by decide)) rfl rfl hl.1 rfl (lv_room (Nat.le_of_ble_eq_true rfl)) d_Quo_divideBits_63 ⟨Nat.zero_le _, Nat.zero_le _⟩) (fun H locs hP hD hS => ?_)
    refine lv_iinc (k := 1) (v := y1 + 1) hx hb d_Quo_divideBits_66 hl rfl rfl (by decide) rfl (fun ls hl => ?_)
    have hl : lv_has ls 2 [(1, .int (y1 + 1)), (0, .ref h_v)] := hl
    refine lv_goto (tgt := 7) hx hb d_Quo_divideBits_69 (by decide) ?_
    exact hs7 (y1 + 1) v_lead u_2.1 u_2.2 ls _ _ (lv_sub hl [1, 0] rfl) hP hD hS hf
  have hL_7 : ∀ (n : Nat), ∀ (y1 : Int32) (v_lead : Int64) (v_numerator_size : Int32) (v_numerator_limbs_a : Nat → Int32) (ls : Array Slot) (H : Heap) (locs : List Loc), lv_has ls 2 [(0, .ref h_v), (1, .int y1)] → va_P (dC, dI) vwCl [(h_v, .inr (3, [.ref h_v_numerator, .ref h_v_denominator, .long v_lead, .int v_power, .int v_more])), (h_v_numerator, .inr (0, [.ref h_v_numerator_limbs, .int v_numerator_size])), (h_v_numerator_limbs, .inl (cI, n_v_numerator_limbs, .inl v_numerator_limbs_a)), (h_v_denominator, .inr (0, [.ref h_v_denominator_limbs, .int v_denominator_size])), (h_v_denominator_limbs, .inl (cI, n_v_denominator_limbs, .inl v_denominator_limbs_a))] H → va_D A [(h_v, .inr (3, [.ref h_v_numerator, .ref h_v_denominator, .long v_lead, .int v_power, .int v_more])), (h_v_numerator, .inr (0, [.ref h_v_numerator_limbs, .int v_numerator_size])), (h_v_numerator_limbs, .inl (cI, n_v_numerator_limbs, .inl v_numerator_limbs_a)), (h_v_denominator, .inr (0, [.ref h_v_denominator_limbs, .int v_denominator_size])), (h_v_denominator_limbs, .inl (cI, n_v_denominator_limbs, .inl v_denominator_limbs_a))] → va_S A s.heap H locs → f_Quo_divideBits_7 fu n_v_numerator_limbs n_v_denominator_limbs v_denominator_size v_denominator_limbs_a n y1 v_lead v_numerator_size v_numerator_limbs_a = some u → W p l e (headSpec ws_Quo_divideBits rm_Quo_divideBits).room s m [.ref h_v].toArray below meth c H locs 0 0 Qq (F0 m 7 ls []) := by
    intro n
    induction n with
    | zero =>
      intro y1 v_lead v_numerator_size v_numerator_limbs_a ls H locs hl hP hD hS hf
      exact zz_no hf
    | succ n ih =>
      intro y1 v_lead v_numerator_size v_numerator_limbs_a ls H locs hl hP hD hS hf
      rw [f_Quo_divideBits_7_s] at hf
      refine lv_iload_n hx hb d_Quo_divideBits_7 rfl (lv_at hl 1 rfl) ?_
      refine lv_bipush (v := 63) hx hb d_Quo_divideBits_8 (by decide) ?_
      refine lv_icmp_ge (tgt := 72) hx hb d_Quo_divideBits_10 (by decide) (fun hc => ?_) (fun hc => ?_)
      · have hf := zz_ifp hc hf
        cases hf
        exact hend 72 ls _ _ d_Quo_divideBits_72 hP hD hS
      · have hf := zz_ifn hc hf
        refine lv_aload_n hx hb d_Quo_divideBits_13 rfl (lv_at hl 0 rfl) ?_
        refine lv_dup hx hb d_Quo_divideBits_14 rfl ?_
        refine va_get (D := (dC, dI)) (ci := 3) (v := .long v_lead) (C := R_Quo) (T := T_Quo) (N := 5) hx hb hw in_Quo hown hK hP 0 rfl rfl 2 (by decide) (hw _ wd_100) (fun _ h9 => h9) rfl d_Quo_divideBits_15 ?_
        refine lv_iconst (v := 1) hx hb d_Quo_divideBits_18 (by decide) ?_
        refine lv_lshl hx hb d_Quo_divideBits_19 rfl ?_
        refine va_put (D := (dC, dI)) (ci := 3) (v := .long (v_lead <<< ((1 : Int32).toInt64 &&& 63))) (ty := .long) (C := R_Quo) (T := T_Quo) (N := 5) hx hb hw in_Quo ty_Quo tyok_Quo nm_Quo hown hK hP hD hS 0 rfl rfl 2 (by decide) (hw _ wd_100) (fun _ h9 => h9) rfl (tyok_Quo 2 (by decide)) rfl rfl (Nat.le_of_ble_eq_true rfl) d_Quo_divideBits_20 (fun H locs hP hD hS => ?_)
        have hP : va_P (dC, dI) vwCl [(h_v, .inr (3, [.ref h_v_numerator, .ref h_v_denominator, .long (v_lead <<< ((1 : Int32).toInt64 &&& 63)), .int v_power, .int v_more])), (h_v_numerator, .inr (0, [.ref h_v_numerator_limbs, .int v_numerator_size])), (h_v_numerator_limbs, .inl (cI, n_v_numerator_limbs, .inl v_numerator_limbs_a)), (h_v_denominator, .inr (0, [.ref h_v_denominator_limbs, .int v_denominator_size])), (h_v_denominator_limbs, .inl (cI, n_v_denominator_limbs, .inl v_denominator_limbs_a))] H := hP
        have hD : va_D A [(h_v, .inr (3, [.ref h_v_numerator, .ref h_v_denominator, .long (v_lead <<< ((1 : Int32).toInt64 &&& 63)), .int v_power, .int v_more])), (h_v_numerator, .inr (0, [.ref h_v_numerator_limbs, .int v_numerator_size])), (h_v_numerator_limbs, .inl (cI, n_v_numerator_limbs, .inl v_numerator_limbs_a)), (h_v_denominator, .inr (0, [.ref h_v_denominator_limbs, .int v_denominator_size])), (h_v_denominator_limbs, .inl (cI, n_v_denominator_limbs, .inl v_denominator_limbs_a))] := hD
        refine lv_aload_n hx hb d_Quo_divideBits_23 rfl (lv_at hl 0 rfl) ?_
        refine va_get (D := (dC, dI)) (ci := 3) (v := .ref h_v_numerator) (C := R_Quo) (T := T_Quo) (N := 5) hx hb hw in_Quo hown hK hP 0 rfl rfl 0 (by decide) (hw _ wd_98) (fun _ h9 => h9) rfl d_Quo_divideBits_24 ?_
        refine lv_aload_n hx hb d_Quo_divideBits_27 rfl (lv_at hl 0 rfl) ?_
        refine va_get (D := (dC, dI)) (ci := 3) (v := .ref h_v_denominator) (C := R_Quo) (T := T_Quo) (N := 5) hx hb hw in_Quo hown hK hP 0 rfl rfl 1 (by decide) (hw _ wd_99) (fun _ h9 => h9) rfl d_Quo_divideBits_28 ?_
        obtain ⟨u_1, hu_1, hf⟩ := zz_bd hf
        refine zz_ci (ws' := [(h_v, .inr (3, [.ref h_v_numerator, .ref h_v_denominator, .long (v_lead <<< ((1 : Int32).toInt64 &&& 63)), .int v_power, .int v_more])), (h_v_numerator, .inr (0, [.ref h_v_numerator_limbs, .int v_numerator_size])), (h_v_numerator_limbs, .inl (cI, n_v_numerator_limbs, .inl v_numerator_limbs_a)), (h_v_denominator, .inr (0, [.ref h_v_denominator_limbs, .int v_denominator_size])), (h_v_denominator_limbs, .inl (cI, n_v_denominator_limbs, .inl v_denominator_limbs_a))]) (wc := [(h_v_numerator, .inr (0, [.ref h_v_numerator_limbs, .int v_numerator_size])), (h_v_numerator_limbs, .inl (cI, n_v_numerator_limbs, .inl v_numerator_limbs_a)), (h_v_denominator, .inr (0, [.ref h_v_denominator_limbs, .int v_denominator_size])), (h_v_denominator_limbs, .inl (cI, n_v_denominator_limbs, .inl v_denominator_limbs_a))]) (w' := [(h_v_numerator, .inr (0, [.ref h_v_numerator_limbs, .int v_numerator_size])), (h_v_numerator_limbs, .inl (cI, n_v_numerator_limbs, .inl v_numerator_limbs_a)), (h_v_denominator, .inr (0, [.ref h_v_denominator_limbs, .int v_denominator_size])), (h_v_denominator_limbs, .inl (cI, n_v_denominator_limbs, .inl v_denominator_limbs_a))]) hP hD hS hA [1, 2, 3, 4] [0] [0, 1, 2, 3, 4] rfl rfl (by decide) (by decide) rfl (by decide) (va_runV (As := [.ref h_v_denominator]) (rest := []) ⟨hx, hb, hml, hown, hw⟩ (c_Big_compare l dC dI cI cC cB cJ fu _ h_v_numerator h_v_numerator_limbs h_v_denominator h_v_denominator_limbs n_v_numerator_limbs n_v_denominator_limbs v_numerator_size v_numerator_limbs_a v_denominator_size v_denominator_limbs_a u_1 hu_1) (cwV 1 hw (zg_V wd_640 wd_372 wd_373 wd_5 wd_374) rfl rfl rfl hd_Big_compare ⟨Nat.le_of_ble_eq_true rfl, Nat.le_of_ble_eq_true rfl⟩) (zz_preV zz_TE (va_recv (q0 := 1) (ci := 0) hK hP rfl rfl) hP hD hK hS hA trivial [1, 2, 3, 4] rfl (by decide)) rfl rfl hl.1 rfl (lv_room (Nat.le_of_ble_eq_true rfl)) d_Quo_divideBits_31 ⟨Nat.zero_le _, Nat.zero_le _⟩) (fun H locs hP hD hS => ?_)
        refine lv_if_lt (tgt := 58) hx hb d_Quo_divideBits_34 (by decide) (fun hc => ?_) (fun hc => ?_)
        · have hf := zz_ifp hc hf
          exact hL_58 _ ih y1 (v_lead <<< ((1 : Int32).toInt64 &&& 63)) v_numerator_size v_numerator_limbs_a ls _ _ (lv_sub hl [0, 1] rfl) hP hD hS hf
        · have hf := zz_ifn hc hf
          refine lv_aload_n hx hb d_Quo_divideBits_37 rfl (lv_at hl 0 rfl) ?_
          refine va_get (D := (dC, dI)) (ci := 3) (v := .ref h_v_numerator) (C := R_Quo) (T := T_Quo) (N := 5) hx hb hw in_Quo hown hK hP 0 rfl rfl 0 (by decide) (hw _ wd_98) (fun _ h9 => h9) rfl d_Quo_divideBits_38 ?_
          refine lv_aload_n hx hb d_Quo_divideBits_41 rfl (lv_at hl 0 rfl) ?_
          refine va_get (D := (dC, dI)) (ci := 3) (v := .ref h_v_denominator) (C := R_Quo) (T := T_Quo) (N := 5) hx hb hw in_Quo hown hK hP 0 rfl rfl 1 (by decide) (hw _ wd_99) (fun _ h9 => h9) rfl d_Quo_divideBits_42 ?_
          obtain ⟨u_3, hu_3, hf⟩ := zz_bd hf
          refine zz_cv (ws' := [(h_v, .inr (3, [.ref h_v_numerator, .ref h_v_denominator, .long (v_lead <<< ((1 : Int32).toInt64 &&& 63)), .int v_power, .int v_more])), (h_v_numerator, .inr (0, [.ref h_v_numerator_limbs, .int u_3.1])), (h_v_numerator_limbs, .inl (cI, n_v_numerator_limbs, .inl u_3.2)), (h_v_denominator, .inr (0, [.ref h_v_denominator_limbs, .int v_denominator_size])), (h_v_denominator_limbs, .inl (cI, n_v_denominator_limbs, .inl v_denominator_limbs_a))]) (wc := [(h_v_numerator, .inr (0, [.ref h_v_numerator_limbs, .int v_numerator_size])), (h_v_numerator_limbs, .inl (cI, n_v_numerator_limbs, .inl v_numerator_limbs_a)), (h_v_denominator, .inr (0, [.ref h_v_denominator_limbs, .int v_denominator_size])), (h_v_denominator_limbs, .inl (cI, n_v_denominator_limbs, .inl v_denominator_limbs_a))]) (w' := [(h_v_numerator, .inr (0, [.ref h_v_numerator_limbs, .int u_3.1])), (h_v_numerator_limbs, .inl (cI, n_v_numerator_limbs, .inl u_3.2)), (h_v_denominator, .inr (0, [.ref h_v_denominator_limbs, .int v_denominator_size])), (h_v_denominator_limbs, .inl (cI, n_v_denominator_limbs, .inl v_denominator_limbs_a))]) hP hD hS hA [1, 2, 3, 4] [0] [0, 1, 2, 3, 4] rfl rfl (by decide) (by decide) rfl (by decide) (va_runV (As := [.ref h_v_denominator]) (rest := []) ⟨hx, hb, hml, hown, hw⟩ (c_Big_subtract l dC dI cI cC cB cJ fu _ h_v_numerator h_v_numerator_limbs h_v_denominator h_v_denominator_limbs n_v_numerator_limbs n_v_denominator_limbs v_numerator_size v_numerator_limbs_a v_denominator_size v_denominator_limbs_a u_3 hu_3) (cwV 1 hw (zg_V wd_641 wd_382 wd_383 wd_5 wd_384) rfl rfl rfl hd_Big_subtract ⟨Nat.le_of_ble_eq_true rfl, Nat.le_of_ble_eq_true rfl⟩) (zz_preV zz_TE (va_recv (q0 := 1) (ci := 0) hK hP rfl rfl) hP hD hK hS hA trivial [1, 2, 3, 4] rfl (by decide)) rfl rfl hl.1 rfl (lv_room (Nat.le_of_ble_eq_true rfl)) d_Quo_divideBits_45 ⟨Nat.zero_le _, Nat.zero_le _⟩) (fun H locs hP hD hS => ?_)
          refine lv_aload_n hx hb d_Quo_divideBits_48 rfl (lv_at hl 0 rfl) ?_
          refine lv_dup hx hb d_Quo_divideBits_49 rfl ?_
          refine va_get (D := (dC, dI)) (ci := 3) (v := .long (v_lead <<< ((1 : Int32).toInt64 &&& 63))) (C := R_Quo) (T := T_Quo) (N := 5) hx hb hw in_Quo hown hK hP 0 rfl rfl 2 (by decide) (hw _ wd_100) (fun _ h9 => h9) rfl d_Quo_divideBits_50 ?_
          refine lv_lconst (v := 1) hx hb d_Quo_divideBits_53 (by decide) ?_
          refine lv_lor hx hb d_Quo_divideBits_54 ?_
          refine va_put (D := (dC, dI)) (ci := 3) (v := .long ((v_lead <<< ((1 : Int32).toInt64 &&& 63)) ||| 1)) (ty := .long) (C := R_Quo) (T := T_Quo) (N := 5) hx hb hw in_Quo ty_Quo tyok_Quo nm_Quo hown hK hP hD hS 0 rfl rfl 2 (by decide) (hw _ wd_100) (fun _ h9 => h9) rfl (tyok_Quo 2 (by decide)) rfl rfl (Nat.le_of_ble_eq_true rfl) d_Quo_divideBits_55 (fun H locs hP hD hS => ?_)
          have hP : va_P (dC, dI) vwCl [(h_v, .inr (3, [.ref h_v_numerator, .ref h_v_denominator, .long ((v_lead <<< ((1 : Int32).toInt64 &&& 63)) ||| 1), .int v_power, .int v_more])), (h_v_numerator, .inr (0, [.ref h_v_numerator_limbs, .int u_3.1])), (h_v_numerator_limbs, .inl (cI, n_v_numerator_limbs, .inl u_3.2)), (h_v_denominator, .inr (0, [.ref h_v_denominator_limbs, .int v_denominator_size])), (h_v_denominator_limbs, .inl (cI, n_v_denominator_limbs, .inl v_denominator_limbs_a))] H := hP
          have hD : va_D A [(h_v, .inr (3, [.ref h_v_numerator, .ref h_v_denominator, .long ((v_lead <<< ((1 : Int32).toInt64 &&& 63)) ||| 1), .int v_power, .int v_more])), (h_v_numerator, .inr (0, [.ref h_v_numerator_limbs, .int u_3.1])), (h_v_numerator_limbs, .inl (cI, n_v_numerator_limbs, .inl u_3.2)), (h_v_denominator, .inr (0, [.ref h_v_denominator_limbs, .int v_denominator_size])), (h_v_denominator_limbs, .inl (cI, n_v_denominator_limbs, .inl v_denominator_limbs_a))] := hD
          exact hL_58 _ ih y1 ((v_lead <<< ((1 : Int32).toInt64 &&& 63)) ||| 1) u_3.1 u_3.2 ls _ _ (lv_sub hl [0, 1] rfl) hP hD hS hf
  unfold f_Quo_divideBits at hf
  refine lv_aload_n hx hb d_Quo_divideBits_0 rfl (lv_at hl 0 rfl) ?_
  refine lv_lconst (v := 0) hx hb d_Quo_divideBits_1 (by decide) ?_
  refine va_put (D := (dC, dI)) (ci := 3) (v := .long 0) (ty := .long) (C := R_Quo) (T := T_Quo) (N := 5) hx hb hw in_Quo ty_Quo tyok_Quo nm_Quo hown hK hP hD hS 0 rfl rfl 2 (by decide) (hw _ wd_100) (fun _ h9 => h9) rfl (tyok_Quo 2 (by decide)) rfl rfl (Nat.le_of_ble_eq_true rfl) d_Quo_divideBits_2 (fun H locs hP hD hS => ?_)
  have hP : va_P (dC, dI) vwCl [(h_v, .inr (3, [.ref h_v_numerator, .ref h_v_denominator, .long 0, .int v_power, .int v_more])), (h_v_numerator, .inr (0, [.ref h_v_numerator_limbs, .int v_numerator_size])), (h_v_numerator_limbs, .inl (cI, n_v_numerator_limbs, .inl v_numerator_limbs_a)), (h_v_denominator, .inr (0, [.ref h_v_denominator_limbs, .int v_denominator_size])), (h_v_denominator_limbs, .inl (cI, n_v_denominator_limbs, .inl v_denominator_limbs_a))] H := hP
  have hD : va_D A [(h_v, .inr (3, [.ref h_v_numerator, .ref h_v_denominator, .long 0, .int v_power, .int v_more])), (h_v_numerator, .inr (0, [.ref h_v_numerator_limbs, .int v_numerator_size])), (h_v_numerator_limbs, .inl (cI, n_v_numerator_limbs, .inl v_numerator_limbs_a)), (h_v_denominator, .inr (0, [.ref h_v_denominator_limbs, .int v_denominator_size])), (h_v_denominator_limbs, .inl (cI, n_v_denominator_limbs, .inl v_denominator_limbs_a))] := hD
  refine lv_iconst (v := 0) hx hb d_Quo_divideBits_5 (by decide) ?_
  refine lv_istore_n hx hb d_Quo_divideBits_6 rfl hl (by decide) rfl (fun ls hl => ?_)
  have hl : lv_has ls 2 [(1, .int 0), (0, .ref h_v)] := hl
  exact hL_7 fu 0 0 v_numerator_size v_numerator_limbs_a ls _ _ (lv_sub hl [1, 0] rfl) hP hD hS hf
abbrev ws_Quo_divide : List Cond := .code y_Quo_divide prog_6_method_2_code 4 none :: zw
abbrev rm_Quo_divide : Room := { frames := 3, cells := 0, slots := 0, locals := 72 }
theorem hd_Quo_divide : y_Quo_divide.cls = "RealText$Quotient" ∧ y_Quo_divide.cls ≠ "java/lang/invoke/MethodHandle" ∧ y_Quo_divide.cls ≠ "java/lang/invoke/VarHandle" ∧ (parseMethodDescriptor y_Quo_divide.desc).map (fun d => d.parameters.length) = some 2 := by decide +kernel
theorem d_Quo_divide_0 : decode prog_6_method_2_code 0 = .ok (.aload_n 0, 1) := by decide +kernel
theorem d_Quo_divide_1 : decode prog_6_method_2_code 1 = .ok (.aload_n 1, 1) := by decide +kernel
theorem d_Quo_divide_2 : decode prog_6_method_2_code 2 = .ok (.invokevirtual 21, 3) := by decide +kernel
theorem d_Quo_divide_5 : decode prog_6_method_2_code 5 = .ok (.aload_n 0, 1) := by decide +kernel
theorem d_Quo_divide_6 : decode prog_6_method_2_code 6 = .ok (.getfield 18, 3) := by decide +kernel
theorem d_Quo_divide_9 : decode prog_6_method_2_code 9 = .ok (.lconst 1, 1) := by decide +kernel
theorem d_Quo_divide_10 : decode prog_6_method_2_code 10 = .ok (.invokevirtual 25, 3) := by decide +kernel
theorem d_Quo_divide_13 : decode prog_6_method_2_code 13 = .ok (.aload_n 0, 1) := by decide +kernel
theorem d_Quo_divide_14 : decode prog_6_method_2_code 14 = .ok (.getfield 14, 3) := by decide +kernel
theorem d_Quo_divide_17 : decode prog_6_method_2_code 17 = .ok (.iload_n 2, 1) := by decide +kernel
theorem d_Quo_divide_18 : decode prog_6_method_2_code 18 = .ok (.invokevirtual 29, 3) := by decide +kernel
theorem d_Quo_divide_21 : decode prog_6_method_2_code 21 = .ok (.aload_n 0, 1) := by decide +kernel
theorem d_Quo_divide_22 : decode prog_6_method_2_code 22 = .ok (.getfield 18, 3) := by decide +kernel
theorem d_Quo_divide_25 : decode prog_6_method_2_code 25 = .ok (.iload_n 2, 1) := by decide +kernel
theorem d_Quo_divide_26 : decode prog_6_method_2_code 26 = .ok (.ineg, 1) := by decide +kernel
theorem d_Quo_divide_27 : decode prog_6_method_2_code 27 = .ok (.invokevirtual 29, 3) := by decide +kernel
theorem d_Quo_divide_30 : decode prog_6_method_2_code 30 = .ok (.aload_n 0, 1) := by decide +kernel
theorem d_Quo_divide_31 : decode prog_6_method_2_code 31 = .ok (.getfield 14, 3) := by decide +kernel
theorem d_Quo_divide_34 : decode prog_6_method_2_code 34 = .ok (.invokevirtual 32, 3) := by decide +kernel
theorem d_Quo_divide_37 : decode prog_6_method_2_code 37 = .ok (.aload_n 0, 1) := by decide +kernel
theorem d_Quo_divide_38 : decode prog_6_method_2_code 38 = .ok (.getfield 18, 3) := by decide +kernel
theorem d_Quo_divide_41 : decode prog_6_method_2_code 41 = .ok (.invokevirtual 32, 3) := by decide +kernel
theorem d_Quo_divide_44 : decode prog_6_method_2_code 44 = .ok (.isub, 1) := by decide +kernel
theorem d_Quo_divide_45 : decode prog_6_method_2_code 45 = .ok (.istore_n 3, 1) := by decide +kernel
theorem d_Quo_divide_46 : decode prog_6_method_2_code 46 = .ok (.aload_n 0, 1) := by decide +kernel
theorem d_Quo_divide_47 : decode prog_6_method_2_code 47 = .ok (.getfield 18, 3) := by decide +kernel
theorem d_Quo_divide_50 : decode prog_6_method_2_code 50 = .ok (.iload_n 3, 1) := by decide +kernel
theorem d_Quo_divide_51 : decode prog_6_method_2_code 51 = .ok (.invokevirtual 36, 3) := by decide +kernel
theorem d_Quo_divide_54 : decode prog_6_method_2_code 54 = .ok (.aload_n 0, 1) := by decide +kernel
theorem d_Quo_divide_55 : decode prog_6_method_2_code 55 = .ok (.getfield 14, 3) := by decide +kernel
theorem d_Quo_divide_58 : decode prog_6_method_2_code 58 = .ok (.iload_n 3, 1) := by decide +kernel
theorem d_Quo_divide_59 : decode prog_6_method_2_code 59 = .ok (.ineg, 1) := by decide +kernel
theorem d_Quo_divide_60 : decode prog_6_method_2_code 60 = .ok (.invokevirtual 36, 3) := by decide +kernel
theorem d_Quo_divide_63 : decode prog_6_method_2_code 63 = .ok (.aload_n 0, 1) := by decide +kernel
theorem d_Quo_divide_64 : decode prog_6_method_2_code 64 = .ok (.invokevirtual 39, 3) := by decide +kernel
theorem d_Quo_divide_67 : decode prog_6_method_2_code 67 = .ok (.aload_n 0, 1) := by decide +kernel
theorem d_Quo_divide_68 : decode prog_6_method_2_code 68 = .ok (.iload_n 2, 1) := by decide +kernel
theorem d_Quo_divide_69 : decode prog_6_method_2_code 69 = .ok (.iload_n 3, 1) := by decide +kernel
theorem d_Quo_divide_70 : decode prog_6_method_2_code 70 = .ok (.iadd, 1) := by decide +kernel
theorem d_Quo_divide_71 : decode prog_6_method_2_code 71 = .ok (.bipush 62, 2) := by decide +kernel
theorem d_Quo_divide_73 : decode prog_6_method_2_code 73 = .ok (.isub, 1) := by decide +kernel
theorem d_Quo_divide_74 : decode prog_6_method_2_code 74 = .ok (.putfield 44, 3) := by decide +kernel
theorem d_Quo_divide_77 : decode prog_6_method_2_code 77 = .ok (.aload_n 0, 1) := by decide +kernel
theorem d_Quo_divide_78 : decode prog_6_method_2_code 78 = .ok (.aload_n 0, 1) := by decide +kernel
theorem d_Quo_divide_79 : decode prog_6_method_2_code 79 = .ok (.getfield 14, 3) := by decide +kernel
theorem d_Quo_divide_82 : decode prog_6_method_2_code 82 = .ok (.invokevirtual 48, 3) := by decide +kernel
theorem d_Quo_divide_85 : decode prog_6_method_2_code 85 = .ok (.ifCond .ne 7, 3) := by decide +kernel
theorem d_Quo_divide_88 : decode prog_6_method_2_code 88 = .ok (.iconst 1, 1) := by decide +kernel
theorem d_Quo_divide_89 : decode prog_6_method_2_code 89 = .ok (.goto 4, 3) := by decide +kernel
theorem d_Quo_divide_92 : decode prog_6_method_2_code 92 = .ok (.iconst 0, 1) := by decide +kernel
theorem d_Quo_divide_93 : decode prog_6_method_2_code 93 = .ok (.putfield 52, 3) := by decide +kernel
theorem d_Quo_divide_96 : decode prog_6_method_2_code 96 = .ok (.return_, 1) := by decide +kernel
def f_Quo_divide (fu : Nat) (n_v_numerator_limbs : Nat) (n_v_denominator_limbs : Nat) (n_w1_digits : Nat) (x2 : Int32) (v_lead : Int64) (v_power : Int32) (v_more : Int32) (v_numerator_size : Int32) (v_numerator_limbs_a : Nat → Int32) (v_denominator_size : Int32) (v_denominator_limbs_a : Nat → Int32) (w1_digitCount : Int32) (w1_digits_a : Nat → Int32) : Option (Int64 × Int32 × Int32 × Int32 × (Nat → Int32) × Int32 × (Nat → Int32)) :=
  (f_Quo_setNumerator fu n_v_numerator_limbs n_w1_digits v_numerator_size v_numerator_limbs_a w1_digitCount w1_digits_a).bind fun u_1 =>
  (f_Big_set fu n_v_denominator_limbs 1 v_denominator_size v_denominator_limbs_a).bind fun u_2 =>
  (f_Big_multiplyByFives fu n_v_numerator_limbs x2 u_1.1 u_1.2).bind fun u_3 =>
  (f_Big_multiplyByFives fu n_v_denominator_limbs (-x2) u_2.1 u_2.2).bind fun u_4 =>
  (f_Big_bitLength fu n_v_numerator_limbs u_3.1 u_3.2).bind fun u_5 =>
  (f_Big_bitLength fu n_v_denominator_limbs u_4.1 u_4.2).bind fun u_6 =>
  zz_lt (u_5 - u_6) fun x3_7 =>
  (f_Big_shiftLeft fu n_v_denominator_limbs x3_7 u_4.1 u_4.2).bind fun u_8 =>
  (f_Big_shiftLeft fu n_v_numerator_limbs (-x3_7) u_3.1 u_3.2).bind fun u_9 =>
  (f_Quo_divideBits fu n_v_numerator_limbs n_v_denominator_limbs v_lead u_9.1 u_9.2 u_8.1 u_8.2).bind fun u_10 =>
  (f_Big_isZero u_10.2.1).bind fun u_11 =>
  (if u_11 = 0 then
  some (u_10.1, (x2 + x3_7) - 62, 1, u_10.2.1, u_10.2.2, u_8.1, u_8.2)
  else
  some (u_10.1, (x2 + x3_7) - 62, 0, u_10.2.1, u_10.2.2, u_8.1, u_8.2))
set_option maxHeartbeats 4000000 in
set_option maxRecDepth 100000 in
theorem c_Quo_divide (l : Launch) (dC : Nat → ClassId) (dI : Nat → Nat → Nat) (cI cC cB cJ : ClassId) (adF : Nat → Nat) (tp : Nat) (adK adV : Nat → Nat) (fu : Nat) (sz : Nat) (h_v : Nat) (h_v_numerator : Nat) (h_v_numerator_limbs : Nat) (h_v_denominator : Nat) (h_v_denominator_limbs : Nat) (h_w1 : Nat) (h_w1_digits : Nat) (n_v_numerator_limbs : Nat) (n_v_denominator_limbs : Nat) (n_w1_digits : Nat) (x2 : Int32) (v_lead : Int64) (v_power : Int32) (v_more : Int32) (v_numerator_size : Int32) (v_numerator_limbs_a : Nat → Int32) (v_denominator_size : Int32) (v_denominator_limbs_a : Nat → Int32) (w1_digitCount : Int32) (w1_fraction : Int32) (w1_exponent : Int32) (w1_isHex : Int32) (w1_digits_a : Nat → Int32) (u : Int64 × Int32 × Int32 × Int32 × (Nat → Int32) × Int32 × (Nat → Int32)) (hf : f_Quo_divide fu n_v_numerator_limbs n_v_denominator_limbs n_w1_digits x2 v_lead v_power v_more v_numerator_size v_numerator_limbs_a v_denominator_size v_denominator_limbs_a w1_digitCount w1_digits_a = some u) : Met l y_Quo_divide ws_Quo_divide rm_Quo_divide (zz_P (zx_E adF tp adK adV) (dC, dI) vwCl (zz_tys cI cC cB cJ) [.ref h_v, .ref h_w1, .int x2] [(h_v, .inr (3, [.ref h_v_numerator, .ref h_v_denominator, .long v_lead, .int v_power, .int v_more])), (h_v_numerator, .inr (0, [.ref h_v_numerator_limbs, .int v_numerator_size])), (h_v_numerator_limbs, .inl (cI, n_v_numerator_limbs, .inl v_numerator_limbs_a)), (h_v_denominator, .inr (0, [.ref h_v_denominator_limbs, .int v_denominator_size])), (h_v_denominator_limbs, .inl (cI, n_v_denominator_limbs, .inl v_denominator_limbs_a)), (h_w1, .inr (2, [.ref h_w1_digits, .int w1_digitCount, .int w1_fraction, .int w1_exponent, .int w1_isHex])), (h_w1_digits, .inl (cB, n_w1_digits, .inl w1_digits_a))] sz) (zz_Qv (dC, dI) vwCl [(h_v, .inr (3, [.ref h_v_numerator, .ref h_v_denominator, .long u.1, .int u.2.1, .int u.2.2.1])), (h_v_numerator, .inr (0, [.ref h_v_numerator_limbs, .int u.2.2.2.1])), (h_v_numerator_limbs, .inl (cI, n_v_numerator_limbs, .inl u.2.2.2.2.1)), (h_v_denominator, .inr (0, [.ref h_v_denominator_limbs, .int u.2.2.2.2.2.1])), (h_v_denominator_limbs, .inl (cI, n_v_denominator_limbs, .inl u.2.2.2.2.2.2)), (h_w1, .inr (2, [.ref h_w1_digits, .int w1_digitCount, .int w1_fraction, .int w1_exponent, .int w1_isHex])), (h_w1_digits, .inl (cB, n_w1_digits, .inl w1_digits_a))] (va_A [(h_v, .inr (3, [.ref h_v_numerator, .ref h_v_denominator, .long v_lead, .int v_power, .int v_more])), (h_v_numerator, .inr (0, [.ref h_v_numerator_limbs, .int v_numerator_size])), (h_v_numerator_limbs, .inl (cI, n_v_numerator_limbs, .inl v_numerator_limbs_a)), (h_v_denominator, .inr (0, [.ref h_v_denominator_limbs, .int v_denominator_size])), (h_v_denominator_limbs, .inl (cI, n_v_denominator_limbs, .inl v_denominator_limbs_a)), (h_w1, .inr (2, [.ref h_w1_digits, .int w1_digitCount, .int w1_fraction, .int w1_exponent, .int w1_isHex])), (h_w1_digits, .inl (cB, n_w1_digits, .inl w1_digits_a))] sz)) 0 0 (va_A [(h_v, .inr (3, [.ref h_v_numerator, .ref h_v_denominator, .long v_lead, .int v_power, .int v_more])), (h_v_numerator, .inr (0, [.ref h_v_numerator_limbs, .int v_numerator_size])), (h_v_numerator_limbs, .inl (cI, n_v_numerator_limbs, .inl v_numerator_limbs_a)), (h_v_denominator, .inr (0, [.ref h_v_denominator_limbs, .int v_denominator_size])), (h_v_denominator_limbs, .inl (cI, n_v_denominator_limbs, .inl v_denominator_limbs_a)), (h_w1, .inr (2, [.ref h_w1_digits, .int w1_digitCount, .int w1_fraction, .int w1_exponent, .int w1_isHex])), (h_w1_digits, .inl (cB, n_w1_digits, .inl w1_digits_a))] sz) := by
  refine Met.ofW (cc := prog_6_method_2_code) (maxL := 4) (ret := none) (by decide +kernel) rfl ?_
  intro p e s m args below meth c s₁ B hml hv
  obtain ⟨rfl, hsz, hP, hK, hD0, hX⟩ := hv
  have hx := B.exec
  have hb := B.bytes
  have hr := B.returns
  have hts := atoms_spec (ws := ws_Quo_divide) B.pre
  have hw : ∀ w ∈ zw, w.before [.ref h_v, .ref h_w1, .int x2].toArray s = true := fun w h => hts w (List.mem_cons_of_mem _ h)
  have hown : s.vm.findClass R_Quo = some m.cls := findClass_of_methodNamed B.named
  have hlocks := B.notSynchronized
  subst hsz
  have hD := hD0.self (sz := s.heap.size)
  generalize hAe : va_A [(h_v, .inr (3, [.ref h_v_numerator, .ref h_v_denominator, .long v_lead, .int v_power, .int v_more])), (h_v_numerator, .inr (0, [.ref h_v_numerator_limbs, .int v_numerator_size])), (h_v_numerator_limbs, .inl (cI, n_v_numerator_limbs, .inl v_numerator_limbs_a)), (h_v_denominator, .inr (0, [.ref h_v_denominator_limbs, .int v_denominator_size])), (h_v_denominator_limbs, .inl (cI, n_v_denominator_limbs, .inl v_denominator_limbs_a)), (h_w1, .inr (2, [.ref h_w1_digits, .int w1_digitCount, .int w1_fraction, .int w1_exponent, .int w1_isHex])), (h_w1_digits, .inl (cB, n_w1_digits, .inl w1_digits_a))] s.heap.size = A at hD hX ⊢
  have hA : ∀ q : Nat, s.heap.size ≤ q → A q := fun q h => by rw [← hAe]; exact Or.inr h
  have hS : va_S A s.heap s.heap [] := va_S.rf
  have hl := lv_entry [.ref h_v, .ref h_w1, .int x2] (n := 4) (Nat.le_of_ble_eq_true rfl)
  rw [lg_entry_eq]
  generalize (lg_sl [.ref h_v, .ref h_w1, .int x2] ++ List.replicate (4 - (lg_sl [.ref h_v, .ref h_w1, .int x2]).length) Slot.unset).toArray = ls at hl ⊢
  have hl : lv_has ls 4 [(0, .ref h_v), (1, .ref h_w1), (2, .int x2)] := hl
  refine zz_endv hx hb hr hlocks (fun Qq hend => ?_)
  unfold f_Quo_divide at hf
  refine lv_aload_n hx hb d_Quo_divide_0 rfl (lv_at hl 0 rfl) ?_
  refine lv_aload_n hx hb d_Quo_divide_1 rfl (lv_at hl 1 rfl) ?_
  obtain ⟨u_1, hu_1, hf⟩ := zz_bd hf
  refine zz_cv (ws' := [(h_v, .inr (3, [.ref h_v_numerator, .ref h_v_denominator, .long v_lead, .int v_power, .int v_more])), (h_v_numerator, .inr (0, [.ref h_v_numerator_limbs, .int u_1.1])), (h_v_numerator_limbs, .inl (cI, n_v_numerator_limbs, .inl u_1.2)), (h_v_denominator, .inr (0, [.ref h_v_denominator_limbs, .int v_denominator_size])), (h_v_denominator_limbs, .inl (cI, n_v_denominator_limbs, .inl v_denominator_limbs_a)), (h_w1, .inr (2, [.ref h_w1_digits, .int w1_digitCount, .int w1_fraction, .int w1_exponent, .int w1_isHex])), (h_w1_digits, .inl (cB, n_w1_digits, .inl w1_digits_a))]) (wc := [(h_v, .inr (3, [.ref h_v_numerator, .ref h_v_denominator, .long v_lead, .int v_power, .int v_more])), (h_v_numerator, .inr (0, [.ref h_v_numerator_limbs, .int v_numerator_size])), (h_v_numerator_limbs, .inl (cI, n_v_numerator_limbs, .inl v_numerator_limbs_a)), (h_w1, .inr (2, [.ref h_w1_digits, .int w1_digitCount, .int w1_fraction, .int w1_exponent, .int w1_isHex])), (h_w1_digits, .inl (cB, n_w1_digits, .inl w1_digits_a))]) (w' := [(h_v, .inr (3, [.ref h_v_numerator, .ref h_v_denominator, .long v_lead, .int v_power, .int v_more])), (h_v_numerator, .inr (0, [.ref h_v_numerator_limbs, .int u_1.1])), (h_v_numerator_limbs, .inl (cI, n_v_numerator_limbs, .inl u_1.2)), (h_w1, .inr (2, [.ref h_w1_digits, .int w1_digitCount, .int w1_fraction, .int w1_exponent, .int w1_isHex])), (h_w1_digits, .inl (cB, n_w1_digits, .inl w1_digits_a))]) hP hD hS hA [0, 1, 2, 5, 6] [3, 4] [2, 3, 4, 0, 1, 5, 6] rfl rfl (by decide) (by decide) rfl (by decide) (va_runV (As := [.ref h_w1]) (rest := []) ⟨hx, hb, hml, hown, hw⟩ (c_Quo_setNumerator l dC dI cI cC cB cJ fu _ h_v h_v_numerator h_v_numerator_limbs h_w1 h_w1_digits h_v_denominator n_v_numerator_limbs n_w1_digits v_lead v_power v_more v_numerator_size v_numerator_limbs_a w1_digitCount w1_fraction w1_exponent w1_isHex w1_digits_a u_1 hu_1) (cwV 1 hw (zg_V wd_627 wd_629 we_1_7 wd_4 wd_630) rfl rfl rfl hd_Quo_setNumerator ⟨Nat.le_of_ble_eq_true rfl, Nat.le_of_ble_eq_true rfl⟩) (zz_preV zz_TE (va_recv (q0 := 0) (ci := 3) hK hP rfl rfl) hP hD hK hS hA trivial [0, 1, 2, 5, 6] rfl (by decide)) rfl rfl hl.1 rfl (lv_room (Nat.le_of_ble_eq_true rfl)) d_Quo_divide_2 ⟨Nat.zero_le _, Nat.zero_le _⟩) (fun H locs hP hD hS => ?_)
  refine lv_aload_n hx hb d_Quo_divide_5 rfl (lv_at hl 0 rfl) ?_
  refine va_get (D := (dC, dI)) (ci := 3) (v := .ref h_v_denominator) (C := R_Quo) (T := T_Quo) (N := 5) hx hb hw in_Quo hown hK hP 0 rfl rfl 1 (by decide) (hw _ wd_99) (fun _ h9 => h9) rfl d_Quo_divide_6 ?_
  refine lv_lconst (v := 1) hx hb d_Quo_divide_9 (by decide) ?_
  obtain ⟨u_2, hu_2, hf⟩ := zz_bd hf
  refine zz_cv (ws' := [(h_v, .inr (3, [.ref h_v_numerator, .ref h_v_denominator, .long v_lead, .int v_power, .int v_more])), (h_v_numerator, .inr (0, [.ref h_v_numerator_limbs, .int u_1.1])), (h_v_numerator_limbs, .inl (cI, n_v_numerator_limbs, .inl u_1.2)), (h_v_denominator, .inr (0, [.ref h_v_denominator_limbs, .int u_2.1])), (h_v_denominator_limbs, .inl (cI, n_v_denominator_limbs, .inl u_2.2)), (h_w1, .inr (2, [.ref h_w1_digits, .int w1_digitCount, .int w1_fraction, .int w1_exponent, .int w1_isHex])), (h_w1_digits, .inl (cB, n_w1_digits, .inl w1_digits_a))]) (wc := [(h_v_denominator, .inr (0, [.ref h_v_denominator_limbs, .int v_denominator_size])), (h_v_denominator_limbs, .inl (cI, n_v_denominator_limbs, .inl v_denominator_limbs_a))]) (w' := [(h_v_denominator, .inr (0, [.ref h_v_denominator_limbs, .int u_2.1])), (h_v_denominator_limbs, .inl (cI, n_v_denominator_limbs, .inl u_2.2))]) hP hD hS hA [3, 4] [0, 1, 2, 5, 6] [0, 1, 2, 5, 6, 3, 4] rfl rfl (by decide) (by decide) rfl (by decide) (va_runV (As := [.long 1]) (rest := []) ⟨hx, hb, hml, hown, hw⟩ (c_Big_set l dC dI cI cC cB cJ fu _ h_v_denominator h_v_denominator_limbs n_v_denominator_limbs 1 v_denominator_size v_denominator_limbs_a u_2 hu_2) (cwV 1 hw (zg_V wd_631 wd_323 wd_324 wd_5 wd_325) rfl rfl rfl hd_Big_set ⟨Nat.le_of_ble_eq_true rfl, Nat.le_of_ble_eq_true rfl⟩) (zz_preV zz_TE (va_recv (q0 := 3) (ci := 0) hK hP rfl rfl) hP hD hK hS hA trivial [3, 4] rfl (by decide)) rfl rfl hl.1 rfl (lv_room (Nat.le_of_ble_eq_true rfl)) d_Quo_divide_10 ⟨Nat.zero_le _, Nat.zero_le _⟩) (fun H locs hP hD hS => ?_)
  refine lv_aload_n hx hb d_Quo_divide_13 rfl (lv_at hl 0 rfl) ?_
  refine va_get (D := (dC, dI)) (ci := 3) (v := .ref h_v_numerator) (C := R_Quo) (T := T_Quo) (N := 5) hx hb hw in_Quo hown hK hP 0 rfl rfl 0 (by decide) (hw _ wd_98) (fun _ h9 => h9) rfl d_Quo_divide_14 ?_
  refine lv_iload_n hx hb d_Quo_divide_17 rfl (lv_at hl 2 rfl) ?_
  obtain ⟨u_3, hu_3, hf⟩ := zz_bd hf
  refine zz_cv (ws' := [(h_v, .inr (3, [.ref h_v_numerator, .ref h_v_denominator, .long v_lead, .int v_power, .int v_more])), (h_v_numerator, .inr (0, [.ref h_v_numerator_limbs, .int u_3.1])), (h_v_numerator_limbs, .inl (cI, n_v_numerator_limbs, .inl u_3.2)), (h_v_denominator, .inr (0, [.ref h_v_denominator_limbs, .int u_2.1])), (h_v_denominator_limbs, .inl (cI, n_v_denominator_limbs, .inl u_2.2)), (h_w1, .inr (2, [.ref h_w1_digits, .int w1_digitCount, .int w1_fraction, .int w1_exponent, .int w1_isHex])), (h_w1_digits, .inl (cB, n_w1_digits, .inl w1_digits_a))]) (wc := [(h_v_numerator, .inr (0, [.ref h_v_numerator_limbs, .int u_1.1])), (h_v_numerator_limbs, .inl (cI, n_v_numerator_limbs, .inl u_1.2))]) (w' := [(h_v_numerator, .inr (0, [.ref h_v_numerator_limbs, .int u_3.1])), (h_v_numerator_limbs, .inl (cI, n_v_numerator_limbs, .inl u_3.2))]) hP hD hS hA [1, 2] [0, 3, 4, 5, 6] [0, 5, 6, 1, 2, 3, 4] rfl rfl (by decide) (by decide) rfl (by decide) (va_runV (As := [.int x2]) (rest := []) ⟨hx, hb, hml, hown, hw⟩ (c_Big_multiplyByFives l dC dI cI cC cB cJ adF tp adK adV fu _ h_v_numerator h_v_numerator_limbs n_v_numerator_limbs x2 u_1.1 u_1.2 u_3 hu_3) (cwV 1 hw (zg_V wd_633 wd_358 wd_359 wd_5 wd_360) rfl rfl rfl hd_Big_multiplyByFives ⟨Nat.le_of_ble_eq_true rfl, Nat.le_of_ble_eq_true rfl⟩) (zz_preV (zx_ok adF tp adK adV) (va_recv (q0 := 1) (ci := 0) hK hP rfl rfl) hP hD hK hS hA hX [1, 2] rfl (by decide)) rfl rfl hl.1 rfl (lv_room (Nat.le_of_ble_eq_true rfl)) d_Quo_divide_18 ⟨Nat.zero_le _, Nat.zero_le _⟩) (fun H locs hP hD hS => ?_)
  refine lv_aload_n hx hb d_Quo_divide_21 rfl (lv_at hl 0 rfl) ?_
  refine va_get (D := (dC, dI)) (ci := 3) (v := .ref h_v_denominator) (C := R_Quo) (T := T_Quo) (N := 5) hx hb hw in_Quo hown hK hP 0 rfl rfl 1 (by decide) (hw _ wd_99) (fun _ h9 => h9) rfl d_Quo_divide_22 ?_
  refine lv_iload_n hx hb d_Quo_divide_25 rfl (lv_at hl 2 rfl) ?_
  refine lv_ineg hx hb d_Quo_divide_26 ?_
  obtain ⟨u_4, hu_4, hf⟩ := zz_bd hf
  refine zz_cv (ws' := [(h_v, .inr (3, [.ref h_v_numerator, .ref h_v_denominator, .long v_lead, .int v_power, .int v_more])), (h_v_numerator, .inr (0, [.ref h_v_numerator_limbs, .int u_3.1])), (h_v_numerator_limbs, .inl (cI, n_v_numerator_limbs, .inl u_3.2)), (h_v_denominator, .inr (0, [.ref h_v_denominator_limbs, .int u_4.1])), (h_v_denominator_limbs, .inl (cI, n_v_denominator_limbs, .inl u_4.2)), (h_w1, .inr (2, [.ref h_w1_digits, .int w1_digitCount, .int w1_fraction, .int w1_exponent, .int w1_isHex])), (h_w1_digits, .inl (cB, n_w1_digits, .inl w1_digits_a))]) (wc := [(h_v_denominator, .inr (0, [.ref h_v_denominator_limbs, .int u_2.1])), (h_v_denominator_limbs, .inl (cI, n_v_denominator_limbs, .inl u_2.2))]) (w' := [(h_v_denominator, .inr (0, [.ref h_v_denominator_limbs, .int u_4.1])), (h_v_denominator_limbs, .inl (cI, n_v_denominator_limbs, .inl u_4.2))]) hP hD hS hA [3, 4] [0, 1, 2, 5, 6] [0, 1, 2, 5, 6, 3, 4] rfl rfl (by decide) (by decide) rfl (by decide) (va_runV (As := [.int (-x2)]) (rest := []) ⟨hx, hb, hml, hown, hw⟩ (c_Big_multiplyByFives l dC dI cI cC cB cJ adF tp adK adV fu _ h_v_denominator h_v_denominator_limbs n_v_denominator_limbs (-x2) u_2.1 u_2.2 u_4 hu_4) (cwV 1 hw (zg_V wd_633 wd_358 wd_359 wd_5 wd_360) rfl rfl rfl hd_Big_multiplyByFives ⟨Nat.le_of_ble_eq_true rfl, Nat.le_of_ble_eq_true rfl⟩) (zz_preV (zx_ok adF tp adK adV) (va_recv (q0 := 3) (ci := 0) hK hP rfl rfl) hP hD hK hS hA hX [3, 4] rfl (by decide)) rfl rfl hl.1 rfl (lv_room (Nat.le_of_ble_eq_true rfl)) d_Quo_divide_27 ⟨Nat.zero_le _, Nat.zero_le _⟩) (fun H locs hP hD hS => ?_)
  refine lv_aload_n hx hb d_Quo_divide_30 rfl (lv_at hl 0 rfl) ?_
  refine va_get (D := (dC, dI)) (ci := 3) (v := .ref h_v_numerator) (C := R_Quo) (T := T_Quo) (N := 5) hx hb hw in_Quo hown hK hP 0 rfl rfl 0 (by decide) (hw _ wd_98) (fun _ h9 => h9) rfl d_Quo_divide_31 ?_
  obtain ⟨u_5, hu_5, hf⟩ := zz_bd hf
  refine zz_ci (ws' := [(h_v, .inr (3, [.ref h_v_numerator, .ref h_v_denominator, .long v_lead, .int v_power, .int v_more])), (h_v_numerator, .inr (0, [.ref h_v_numerator_limbs, .int u_3.1])), (h_v_numerator_limbs, .inl (cI, n_v_numerator_limbs, .inl u_3.2)), (h_v_denominator, .inr (0, [.ref h_v_denominator_limbs, .int u_4.1])), (h_v_denominator_limbs, .inl (cI, n_v_denominator_limbs, .inl u_4.2)), (h_w1, .inr (2, [.ref h_w1_digits, .int w1_digitCount, .int w1_fraction, .int w1_exponent, .int w1_isHex])), (h_w1_digits, .inl (cB, n_w1_digits, .inl w1_digits_a))]) (wc := [(h_v_numerator, .inr (0, [.ref h_v_numerator_limbs, .int u_3.1])), (h_v_numerator_limbs, .inl (cI, n_v_numerator_limbs, .inl u_3.2))]) (w' := [(h_v_numerator, .inr (0, [.ref h_v_numerator_limbs, .int u_3.1])), (h_v_numerator_limbs, .inl (cI, n_v_numerator_limbs, .inl u_3.2))]) hP hD hS hA [1, 2] [0, 3, 4, 5, 6] [0, 5, 6, 1, 2, 3, 4] rfl rfl (by decide) (by decide) rfl (by decide) (va_runV (As := []) (rest := []) ⟨hx, hb, hml, hown, hw⟩ (c_Big_bitLength l dC dI cI cC cB cJ fu _ h_v_numerator h_v_numerator_limbs n_v_numerator_limbs u_3.1 u_3.2 u_5 hu_5) (cwV 0 hw (zg_V wd_634 wd_346 wd_347 wd_5 wd_348) rfl rfl rfl hd_Big_bitLength ⟨Nat.le_of_ble_eq_true rfl, Nat.le_of_ble_eq_true rfl⟩) (zz_preV zz_TE (va_recv (q0 := 1) (ci := 0) hK hP rfl rfl) hP hD hK hS hA trivial [1, 2] rfl (by decide)) rfl rfl hl.1 rfl (lv_room (Nat.le_of_ble_eq_true rfl)) d_Quo_divide_34 ⟨Nat.zero_le _, Nat.zero_le _⟩) (fun H locs hP hD hS => ?_)
  refine lv_aload_n hx hb d_Quo_divide_37 rfl (lv_at hl 0 rfl) ?_
  refine va_get (D := (dC, dI)) (ci := 3) (v := .ref h_v_denominator) (C := R_Quo) (T := T_Quo) (N := 5) hx hb hw in_Quo hown hK hP 0 rfl rfl 1 (by decide) (hw _ wd_99) (fun _ h9 => h9) rfl d_Quo_divide_38 ?_
  obtain ⟨u_6, hu_6, hf⟩ := zz_bd hf
  refine zz_ci (ws' := [(h_v, .inr (3, [.ref h_v_numerator, .ref h_v_denominator, .long v_lead, .int v_power, .int v_more])), (h_v_numerator, .inr (0, [.ref h_v_numerator_limbs, .int u_3.1])), (h_v_numerator_limbs, .inl (cI, n_v_numerator_limbs, .inl u_3.2)), (h_v_denominator, .inr (0, [.ref h_v_denominator_limbs, .int u_4.1])), (h_v_denominator_limbs, .inl (cI, n_v_denominator_limbs, .inl u_4.2)), (h_w1, .inr (2, [.ref h_w1_digits, .int w1_digitCount, .int w1_fraction, .int w1_exponent, .int w1_isHex])), (h_w1_digits, .inl (cB, n_w1_digits, .inl w1_digits_a))]) (wc := [(h_v_denominator, .inr (0, [.ref h_v_denominator_limbs, .int u_4.1])), (h_v_denominator_limbs, .inl (cI, n_v_denominator_limbs, .inl u_4.2))]) (w' := [(h_v_denominator, .inr (0, [.ref h_v_denominator_limbs, .int u_4.1])), (h_v_denominator_limbs, .inl (cI, n_v_denominator_limbs, .inl u_4.2))]) hP hD hS hA [3, 4] [0, 1, 2, 5, 6] [0, 1, 2, 5, 6, 3, 4] rfl rfl (by decide) (by decide) rfl (by decide) (va_runV (As := []) (rest := [.int u_5]) ⟨hx, hb, hml, hown, hw⟩ (c_Big_bitLength l dC dI cI cC cB cJ fu _ h_v_denominator h_v_denominator_limbs n_v_denominator_limbs u_4.1 u_4.2 u_6 hu_6) (cwV 0 hw (zg_V wd_634 wd_346 wd_347 wd_5 wd_348) rfl rfl rfl hd_Big_bitLength ⟨Nat.le_of_ble_eq_true rfl, Nat.le_of_ble_eq_true rfl⟩) (zz_preV zz_TE (va_recv (q0 := 3) (ci := 0) hK hP rfl rfl) hP hD hK hS hA trivial [3, 4] rfl (by decide)) rfl rfl hl.1 rfl (lv_room (Nat.le_of_ble_eq_true rfl)) d_Quo_divide_41 ⟨Nat.zero_le _, Nat.zero_le _⟩) (fun H locs hP hD hS => ?_)
  refine lv_isub hx hb d_Quo_divide_44 ?_
  refine lv_topi (fun x3_7 e_x3_7 => ?_)
  have hf := zz_ltp hf x3_7 e_x3_7
  refine lv_istore_n hx hb d_Quo_divide_45 rfl hl (by decide) rfl (fun ls hl => ?_)
  have hl : lv_has ls 4 [(3, .int x3_7), (0, .ref h_v), (1, .ref h_w1), (2, .int x2)] := hl
  refine lv_aload_n hx hb d_Quo_divide_46 rfl (lv_at hl 1 rfl) ?_
  refine va_get (D := (dC, dI)) (ci := 3) (v := .ref h_v_denominator) (C := R_Quo) (T := T_Quo) (N := 5) hx hb hw in_Quo hown hK hP 0 rfl rfl 1 (by decide) (hw _ wd_99) (fun _ h9 => h9) rfl d_Quo_divide_47 ?_
  refine lv_iload_n hx hb d_Quo_divide_50 rfl (lv_at hl 0 rfl) ?_
  obtain ⟨u_8, hu_8, hf⟩ := zz_bd hf
  refine zz_cv (ws' := [(h_v, .inr (3, [.ref h_v_numerator, .ref h_v_denominator, .long v_lead, .int v_power, .int v_more])), (h_v_numerator, .inr (0, [.ref h_v_numerator_limbs, .int u_3.1])), (h_v_numerator_limbs, .inl (cI, n_v_numerator_limbs, .inl u_3.2)), (h_v_denominator, .inr (0, [.ref h_v_denominator_limbs, .int u_8.1])), (h_v_denominator_limbs, .inl (cI, n_v_denominator_limbs, .inl u_8.2)), (h_w1, .inr (2, [.ref h_w1_digits, .int w1_digitCount, .int w1_fraction, .int w1_exponent, .int w1_isHex])), (h_w1_digits, .inl (cB, n_w1_digits, .inl w1_digits_a))]) (wc := [(h_v_denominator, .inr (0, [.ref h_v_denominator_limbs, .int u_4.1])), (h_v_denominator_limbs, .inl (cI, n_v_denominator_limbs, .inl u_4.2))]) (w' := [(h_v_denominator, .inr (0, [.ref h_v_denominator_limbs, .int u_8.1])), (h_v_denominator_limbs, .inl (cI, n_v_denominator_limbs, .inl u_8.2))]) hP hD hS hA [3, 4] [0, 1, 2, 5, 6] [0, 1, 2, 5, 6, 3, 4] rfl rfl (by decide) (by decide) rfl (by decide) (va_runV (As := [.int x3_7]) (rest := []) ⟨hx, hb, hml, hown, hw⟩ (c_Big_shiftLeft l dC dI cI cC cB cJ fu _ h_v_denominator h_v_denominator_limbs n_v_denominator_limbs x3_7 u_4.1 u_4.2 u_8 hu_8) (cwV 1 hw (zg_V wd_635 wd_336 wd_337 wd_5 wd_338) rfl rfl rfl hd_Big_shiftLeft ⟨Nat.le_of_ble_eq_true rfl, Nat.le_of_ble_eq_true rfl⟩) (zz_preV zz_TE (va_recv (q0 := 3) (ci := 0) hK hP rfl rfl) hP hD hK hS hA trivial [3, 4] rfl (by decide)) rfl rfl hl.1 rfl (lv_room (Nat.le_of_ble_eq_true rfl)) d_Quo_divide_51 ⟨Nat.zero_le _, Nat.zero_le _⟩) (fun H locs hP hD hS => ?_)
  refine lv_aload_n hx hb d_Quo_divide_54 rfl (lv_at hl 1 rfl) ?_
  refine va_get (D := (dC, dI)) (ci := 3) (v := .ref h_v_numerator) (C := R_Quo) (T := T_Quo) (N := 5) hx hb hw in_Quo hown hK hP 0 rfl rfl 0 (by decide) (hw _ wd_98) (fun _ h9 => h9) rfl d_Quo_divide_55 ?_
  refine lv_iload_n hx hb d_Quo_divide_58 rfl (lv_at hl 0 rfl) ?_
  refine lv_ineg hx hb d_Quo_divide_59 ?_
  obtain ⟨u_9, hu_9, hf⟩ := zz_bd hf
  refine zz_cv (ws' := [(h_v, .inr (3, [.ref h_v_numerator, .ref h_v_denominator, .long v_lead, .int v_power, .int v_more])), (h_v_numerator, .inr (0, [.ref h_v_numerator_limbs, .int u_9.1])), (h_v_numerator_limbs, .inl (cI, n_v_numerator_limbs, .inl u_9.2)), (h_v_denominator, .inr (0, [.ref h_v_denominator_limbs, .int u_8.1])), (h_v_denominator_limbs, .inl (cI, n_v_denominator_limbs, .inl u_8.2)), (h_w1, .inr (2, [.ref h_w1_digits, .int w1_digitCount, .int w1_fraction, .int w1_exponent, .int w1_isHex])), (h_w1_digits, .inl (cB, n_w1_digits, .inl w1_digits_a))]) (wc := [(h_v_numerator, .inr (0, [.ref h_v_numerator_limbs, .int u_3.1])), (h_v_numerator_limbs, .inl (cI, n_v_numerator_limbs, .inl u_3.2))]) (w' := [(h_v_numerator, .inr (0, [.ref h_v_numerator_limbs, .int u_9.1])), (h_v_numerator_limbs, .inl (cI, n_v_numerator_limbs, .inl u_9.2))]) hP hD hS hA [1, 2] [0, 3, 4, 5, 6] [0, 5, 6, 1, 2, 3, 4] rfl rfl (by decide) (by decide) rfl (by decide) (va_runV (As := [.int (-x3_7)]) (rest := []) ⟨hx, hb, hml, hown, hw⟩ (c_Big_shiftLeft l dC dI cI cC cB cJ fu _ h_v_numerator h_v_numerator_limbs n_v_numerator_limbs (-x3_7) u_3.1 u_3.2 u_9 hu_9) (cwV 1 hw (zg_V wd_635 wd_336 wd_337 wd_5 wd_338) rfl rfl rfl hd_Big_shiftLeft ⟨Nat.le_of_ble_eq_true rfl, Nat.le_of_ble_eq_true rfl⟩) (zz_preV zz_TE (va_recv (q0 := 1) (ci := 0) hK hP rfl rfl) hP hD hK hS hA trivial [1, 2] rfl (by decide)) rfl rfl hl.1 rfl (lv_room (Nat.le_of_ble_eq_true rfl)) d_Quo_divide_60 ⟨Nat.zero_le _, Nat.zero_le _⟩) (fun H locs hP hD hS => ?_)
  refine lv_aload_n hx hb d_Quo_divide_63 rfl (lv_at hl 1 rfl) ?_
  obtain ⟨u_10, hu_10, hf⟩ := zz_bd hf
  refine zz_cv (ws' := [(h_v, .inr (3, [.ref h_v_numerator, .ref h_v_denominator, .long u_10.1, .int v_power, .int v_more])), (h_v_numerator, .inr (0, [.ref h_v_numerator_limbs, .int u_10.2.1])), (h_v_numerator_limbs, .inl (cI, n_v_numerator_limbs, .inl u_10.2.2)), (h_v_denominator, .inr (0, [.ref h_v_denominator_limbs, .int u_8.1])), (h_v_denominator_limbs, .inl (cI, n_v_denominator_limbs, .inl u_8.2)), (h_w1, .inr (2, [.ref h_w1_digits, .int w1_digitCount, .int w1_fraction, .int w1_exponent, .int w1_isHex])), (h_w1_digits, .inl (cB, n_w1_digits, .inl w1_digits_a))]) (wc := [(h_v, .inr (3, [.ref h_v_numerator, .ref h_v_denominator, .long v_lead, .int v_power, .int v_more])), (h_v_numerator, .inr (0, [.ref h_v_numerator_limbs, .int u_9.1])), (h_v_numerator_limbs, .inl (cI, n_v_numerator_limbs, .inl u_9.2)), (h_v_denominator, .inr (0, [.ref h_v_denominator_limbs, .int u_8.1])), (h_v_denominator_limbs, .inl (cI, n_v_denominator_limbs, .inl u_8.2))]) (w' := [(h_v, .inr (3, [.ref h_v_numerator, .ref h_v_denominator, .long u_10.1, .int v_power, .int v_more])), (h_v_numerator, .inr (0, [.ref h_v_numerator_limbs, .int u_10.2.1])), (h_v_numerator_limbs, .inl (cI, n_v_numerator_limbs, .inl u_10.2.2)), (h_v_denominator, .inr (0, [.ref h_v_denominator_limbs, .int u_8.1])), (h_v_denominator_limbs, .inl (cI, n_v_denominator_limbs, .inl u_8.2))]) hP hD hS hA [0, 1, 2, 3, 4] [5, 6] [2, 3, 4, 5, 6, 0, 1] rfl rfl (by decide) (by decide) rfl (by decide) (va_runV (As := []) (rest := []) ⟨hx, hb, hml, hown, hw⟩ (c_Quo_divideBits l dC dI cI cC cB cJ fu _ h_v h_v_numerator h_v_numerator_limbs h_v_denominator h_v_denominator_limbs n_v_numerator_limbs n_v_denominator_limbs v_lead v_power v_more u_9.1 u_9.2 u_8.1 u_8.2 u_10 hu_10) (cwV 0 hw (zg_V wd_636 wd_638 we_1_8 wd_4 wd_639) rfl rfl rfl hd_Quo_divideBits ⟨Nat.le_of_ble_eq_true rfl, Nat.le_of_ble_eq_true rfl⟩) (zz_preV zz_TE (va_recv (q0 := 0) (ci := 3) hK hP rfl rfl) hP hD hK hS hA trivial [0, 1, 2, 3, 4] rfl (by decide)) rfl rfl hl.1 rfl (lv_room (Nat.le_of_ble_eq_true rfl)) d_Quo_divide_64 ⟨Nat.zero_le _, Nat.zero_le _⟩) (fun H locs hP hD hS => ?_)
  refine lv_aload_n hx hb d_Quo_divide_67 rfl (lv_at hl 1 rfl) ?_
  refine lv_iload_n hx hb d_Quo_divide_68 rfl (lv_at hl 3 rfl) ?_
  refine lv_iload_n hx hb d_Quo_divide_69 rfl (lv_at hl 0 rfl) ?_
  refine lv_iadd hx hb d_Quo_divide_70 ?_
  refine lv_bipush (v := 62) hx hb d_Quo_divide_71 (by decide) ?_
  refine lv_isub hx hb d_Quo_divide_73 ?_
  refine va_put (D := (dC, dI)) (ci := 3) (v := .int ((x2 + x3_7) - 62)) (ty := .int) (C := R_Quo) (T := T_Quo) (N := 5) hx hb hw in_Quo ty_Quo tyok_Quo nm_Quo hown hK hP hD hS 0 rfl rfl 3 (by decide) (hw _ wd_102) (fun _ h9 => h9) rfl (tyok_Quo 3 (by decide)) rfl rfl (Nat.le_of_ble_eq_true rfl) d_Quo_divide_74 (fun H locs hP hD hS => ?_)
  have hP : va_P (dC, dI) vwCl [(h_v, .inr (3, [.ref h_v_numerator, .ref h_v_denominator, .long u_10.1, .int ((x2 + x3_7) - 62), .int v_more])), (h_v_numerator, .inr (0, [.ref h_v_numerator_limbs, .int u_10.2.1])), (h_v_numerator_limbs, .inl (cI, n_v_numerator_limbs, .inl u_10.2.2)), (h_v_denominator, .inr (0, [.ref h_v_denominator_limbs, .int u_8.1])), (h_v_denominator_limbs, .inl (cI, n_v_denominator_limbs, .inl u_8.2)), (h_w1, .inr (2, [.ref h_w1_digits, .int w1_digitCount, .int w1_fraction, .int w1_exponent, .int w1_isHex])), (h_w1_digits, .inl (cB, n_w1_digits, .inl w1_digits_a))] H := hP
  have hD : va_D A [(h_v, .inr (3, [.ref h_v_numerator, .ref h_v_denominator, .long u_10.1, .int ((x2 + x3_7) - 62), .int v_more])), (h_v_numerator, .inr (0, [.ref h_v_numerator_limbs, .int u_10.2.1])), (h_v_numerator_limbs, .inl (cI, n_v_numerator_limbs, .inl u_10.2.2)), (h_v_denominator, .inr (0, [.ref h_v_denominator_limbs, .int u_8.1])), (h_v_denominator_limbs, .inl (cI, n_v_denominator_limbs, .inl u_8.2)), (h_w1, .inr (2, [.ref h_w1_digits, .int w1_digitCount, .int w1_fraction, .int w1_exponent, .int w1_isHex])), (h_w1_digits, .inl (cB, n_w1_digits, .inl w1_digits_a))] := hD
  refine lv_aload_n hx hb d_Quo_divide_77 rfl (lv_at hl 1 rfl) ?_
  refine lv_aload_n hx hb d_Quo_divide_78 rfl (lv_at hl 1 rfl) ?_
  refine va_get (D := (dC, dI)) (ci := 3) (v := .ref h_v_numerator) (C := R_Quo) (T := T_Quo) (N := 5) hx hb hw in_Quo hown hK hP 0 rfl rfl 0 (by decide) (hw _ wd_98) (fun _ h9 => h9) rfl d_Quo_divide_79 ?_
  obtain ⟨u_11, hu_11, hf⟩ := zz_bd hf
  refine zz_ci (ws' := [(h_v, .inr (3, [.ref h_v_numerator, .ref h_v_denominator, .long u_10.1, .int ((x2 + x3_7) - 62), .int v_more])), (h_v_numerator, .inr (0, [.ref h_v_numerator_limbs, .int u_10.2.1])), (h_v_numerator_limbs, .inl (cI, n_v_numerator_limbs, .inl u_10.2.2)), (h_v_denominator, .inr (0, [.ref h_v_denominator_limbs, .int u_8.1])), (h_v_denominator_limbs, .inl (cI, n_v_denominator_limbs, .inl u_8.2)), (h_w1, .inr (2, [.ref h_w1_digits, .int w1_digitCount, .int w1_fraction, .int w1_exponent, .int w1_isHex])), (h_w1_digits, .inl (cB, n_w1_digits, .inl w1_digits_a))]) (wc := [(h_v_numerator, .inr (0, [.ref h_v_numerator_limbs, .int u_10.2.1]))]) (w' := [(h_v_numerator, .inr (0, [.ref h_v_numerator_limbs, .int u_10.2.1]))]) hP hD hS hA [1] [0, 2, 3, 4, 5, 6] [0, 6, 1, 2, 3, 4, 5] rfl rfl (by decide) (by decide) rfl (by decide) (va_runV (As := []) (rest := [.ref h_v]) ⟨hx, hb, hml, hown, hw⟩ (c_Big_isZero l dC dI cI cC cB cJ _ h_v_numerator h_v_numerator_limbs u_10.2.1 u_11 hu_11) (cwV 0 hw (zg_V wd_642 wd_643 wd_644 wd_5 wd_645) rfl rfl rfl hd_Big_isZero ⟨Nat.le_of_ble_eq_true rfl, Nat.le_of_ble_eq_true rfl⟩) (zz_preV zz_TE (va_recv (q0 := 1) (ci := 0) hK hP rfl rfl) hP hD hK hS hA trivial [1] rfl (by decide)) rfl rfl hl.1 rfl (lv_room (Nat.le_of_ble_eq_true rfl)) d_Quo_divide_82 ⟨Nat.zero_le _, Nat.zero_le _⟩) (fun H locs hP hD hS => ?_)
  refine lv_if_ne (tgt := 92) hx hb d_Quo_divide_85 (by decide) (fun hc => ?_) (fun hc => ?_)
  · have hf := zz_ifn hc hf
    refine lv_iconst (v := 0) hx hb d_Quo_divide_92 (by decide) ?_
    refine va_put (D := (dC, dI)) (ci := 3) (v := .int 0) (ty := .boolean) (C := R_Quo) (T := T_Quo) (N := 5) hx hb hw in_Quo ty_Quo tyok_Quo nm_Quo hown hK hP hD hS 0 rfl rfl 4 (by decide) (hw _ wd_104) (fun _ h9 => h9) rfl (tyok_Quo 4 (by decide)) rfl rfl (Nat.le_of_ble_eq_true rfl) d_Quo_divide_93 (fun H locs hP hD hS => ?_)
    have hP : va_P (dC, dI) vwCl [(h_v, .inr (3, [.ref h_v_numerator, .ref h_v_denominator, .long u_10.1, .int ((x2 + x3_7) - 62), .int 0])), (h_v_numerator, .inr (0, [.ref h_v_numerator_limbs, .int u_10.2.1])), (h_v_numerator_limbs, .inl (cI, n_v_numerator_limbs, .inl u_10.2.2)), (h_v_denominator, .inr (0, [.ref h_v_denominator_limbs, .int u_8.1])), (h_v_denominator_limbs, .inl (cI, n_v_denominator_limbs, .inl u_8.2)), (h_w1, .inr (2, [.ref h_w1_digits, .int w1_digitCount, .int w1_fraction, .int w1_exponent, .int w1_isHex])), (h_w1_digits, .inl (cB, n_w1_digits, .inl w1_digits_a))] H := hP
    have hD : va_D A [(h_v, .inr (3, [.ref h_v_numerator, .ref h_v_denominator, .long u_10.1, .int ((x2 + x3_7) - 62), .int 0])), (h_v_numerator, .inr (0, [.ref h_v_numerator_limbs, .int u_10.2.1])), (h_v_numerator_limbs, .inl (cI, n_v_numerator_limbs, .inl u_10.2.2)), (h_v_denominator, .inr (0, [.ref h_v_denominator_limbs, .int u_8.1])), (h_v_denominator_limbs, .inl (cI, n_v_denominator_limbs, .inl u_8.2)), (h_w1, .inr (2, [.ref h_w1_digits, .int w1_digitCount, .int w1_fraction, .int w1_exponent, .int w1_isHex])), (h_w1_digits, .inl (cB, n_w1_digits, .inl w1_digits_a))] := hD
    cases hf
    exact hend 96 ls _ _ d_Quo_divide_96 hP hD hS
  · have hf := zz_ifp hc hf
    refine lv_iconst (v := 1) hx hb d_Quo_divide_88 (by decide) ?_
    refine lv_goto (tgt := 93) hx hb d_Quo_divide_89 (by decide) ?_
    refine va_put (D := (dC, dI)) (ci := 3) (v := .int 1) (ty := .boolean) (C := R_Quo) (T := T_Quo) (N := 5) hx hb hw in_Quo ty_Quo tyok_Quo nm_Quo hown hK hP hD hS 0 rfl rfl 4 (by decide) (hw _ wd_104) (fun _ h9 => h9) rfl (tyok_Quo 4 (by decide)) rfl rfl (Nat.le_of_ble_eq_true rfl) d_Quo_divide_93 (fun H locs hP hD hS => ?_)
    have hP : va_P (dC, dI) vwCl [(h_v, .inr (3, [.ref h_v_numerator, .ref h_v_denominator, .long u_10.1, .int ((x2 + x3_7) - 62), .int 1])), (h_v_numerator, .inr (0, [.ref h_v_numerator_limbs, .int u_10.2.1])), (h_v_numerator_limbs, .inl (cI, n_v_numerator_limbs, .inl u_10.2.2)), (h_v_denominator, .inr (0, [.ref h_v_denominator_limbs, .int u_8.1])), (h_v_denominator_limbs, .inl (cI, n_v_denominator_limbs, .inl u_8.2)), (h_w1, .inr (2, [.ref h_w1_digits, .int w1_digitCount, .int w1_fraction, .int w1_exponent, .int w1_isHex])), (h_w1_digits, .inl (cB, n_w1_digits, .inl w1_digits_a))] H := hP
    have hD : va_D A [(h_v, .inr (3, [.ref h_v_numerator, .ref h_v_denominator, .long u_10.1, .int ((x2 + x3_7) - 62), .int 1])), (h_v_numerator, .inr (0, [.ref h_v_numerator_limbs, .int u_10.2.1])), (h_v_numerator_limbs, .inl (cI, n_v_numerator_limbs, .inl u_10.2.2)), (h_v_denominator, .inr (0, [.ref h_v_denominator_limbs, .int u_8.1])), (h_v_denominator_limbs, .inl (cI, n_v_denominator_limbs, .inl u_8.2)), (h_w1, .inr (2, [.ref h_w1_digits, .int w1_digitCount, .int w1_fraction, .int w1_exponent, .int w1_isHex])), (h_w1_digits, .inl (cB, n_w1_digits, .inl w1_digits_a))] := hD
    cases hf
    exact hend 96 ls _ _ d_Quo_divide_96 hP hD hS
