abbrev ws_Dec_digitAt : List Cond := .code y_Dec_digitAt prog_3_method_5_code 2 (some .int) :: zw
abbrev rm_Dec_digitAt : Room := { frames := 0, cells := 0, slots := 0, locals := 0 }
theorem hd_Dec_digitAt : y_Dec_digitAt.cls = "RealText$Decimal" ∧ y_Dec_digitAt.cls ≠ "java/lang/invoke/MethodHandle" ∧ y_Dec_digitAt.cls ≠ "java/lang/invoke/VarHandle" ∧ (parseMethodDescriptor y_Dec_digitAt.desc).map (fun d => d.parameters.length) = some 1 := by decide +kernel
theorem d_Dec_digitAt_0 : decode prog_3_method_5_code 0 = .ok (.iload_n 1, 1) := by decide +kernel
theorem d_Dec_digitAt_1 : decode prog_3_method_5_code 1 = .ok (.ifCond .lt 27, 3) := by decide +kernel
theorem d_Dec_digitAt_4 : decode prog_3_method_5_code 4 = .ok (.iload_n 1, 1) := by decide +kernel
theorem d_Dec_digitAt_5 : decode prog_3_method_5_code 5 = .ok (.aload_n 0, 1) := by decide +kernel
theorem d_Dec_digitAt_6 : decode prog_3_method_5_code 6 = .ok (.getfield 13, 3) := by decide +kernel
theorem d_Dec_digitAt_9 : decode prog_3_method_5_code 9 = .ok (.if_icmp .ge 19, 3) := by decide +kernel
theorem d_Dec_digitAt_12 : decode prog_3_method_5_code 12 = .ok (.aload_n 0, 1) := by decide +kernel
theorem d_Dec_digitAt_13 : decode prog_3_method_5_code 13 = .ok (.getfield 9, 3) := by decide +kernel
theorem d_Dec_digitAt_16 : decode prog_3_method_5_code 16 = .ok (.aload_n 0, 1) := by decide +kernel
theorem d_Dec_digitAt_17 : decode prog_3_method_5_code 17 = .ok (.getfield 13, 3) := by decide +kernel
theorem d_Dec_digitAt_20 : decode prog_3_method_5_code 20 = .ok (.iconst 1, 1) := by decide +kernel
theorem d_Dec_digitAt_21 : decode prog_3_method_5_code 21 = .ok (.isub, 1) := by decide +kernel
theorem d_Dec_digitAt_22 : decode prog_3_method_5_code 22 = .ok (.iload_n 1, 1) := by decide +kernel
theorem d_Dec_digitAt_23 : decode prog_3_method_5_code 23 = .ok (.isub, 1) := by decide +kernel
theorem d_Dec_digitAt_24 : decode prog_3_method_5_code 24 = .ok (.baload, 1) := by decide +kernel
theorem d_Dec_digitAt_25 : decode prog_3_method_5_code 25 = .ok (.goto 4, 3) := by decide +kernel
theorem d_Dec_digitAt_28 : decode prog_3_method_5_code 28 = .ok (.iconst 0, 1) := by decide +kernel
theorem d_Dec_digitAt_29 : decode prog_3_method_5_code 29 = .ok (.ireturn, 1) := by decide +kernel
def f_Dec_digitAt (n_v_reversed : Nat) (x1 : Int32) (v_digitCount : Int32) (v_reversed_a : Nat → Int32) : Option (Int32) :=
  (if x1 < 0 then
  some (0)
  else
  (if v_digitCount ≤ x1 then
  some (0)
  else
  if zz_in ((v_digitCount - 1) - x1) n_v_reversed = true then
  some (v_reversed_a ((v_digitCount - 1) - x1).toNatClampNeg)
  else none))
set_option maxHeartbeats 4000000 in
set_option maxRecDepth 100000 in
theorem c_Dec_digitAt (l : Launch) (dC : Nat → ClassId) (dI : Nat → Nat → Nat) (cI cC cB cJ : ClassId) (sz : Nat) (h_v : Nat) (h_v_reversed : Nat) (n_v_reversed : Nat) (x1 : Int32) (v_digitCount : Int32) (v_point : Int32) (v_reversed_a : Nat → Int32) (u : Int32) (hf : f_Dec_digitAt n_v_reversed x1 v_digitCount v_reversed_a = some u) : Met l y_Dec_digitAt ws_Dec_digitAt rm_Dec_digitAt (zz_P zz_T (dC, dI) vwCl (zz_tys cI cC cB cJ) [.ref h_v, .int x1] [(h_v, .inr (1, [.ref h_v_reversed, .int v_digitCount, .int v_point])), (h_v_reversed, .inl (cB, n_v_reversed, .inl v_reversed_a))] sz) (zz_Qi (dC, dI) vwCl u [(h_v, .inr (1, [.ref h_v_reversed, .int v_digitCount, .int v_point])), (h_v_reversed, .inl (cB, n_v_reversed, .inl v_reversed_a))] (va_A [(h_v, .inr (1, [.ref h_v_reversed, .int v_digitCount, .int v_point])), (h_v_reversed, .inl (cB, n_v_reversed, .inl v_reversed_a))] sz)) 0 0 (va_A [(h_v, .inr (1, [.ref h_v_reversed, .int v_digitCount, .int v_point])), (h_v_reversed, .inl (cB, n_v_reversed, .inl v_reversed_a))] sz) := by
  refine Met.ofW (cc := prog_3_method_5_code) (maxL := 2) (ret := (some .int)) (by decide +kernel) rfl ?_
  intro p e s m args below meth c s₁ B hml hv
  obtain ⟨rfl, hsz, hP, hK, hD0, hX⟩ := hv
  have hx := B.exec
  have hb := B.bytes
  have hr := B.returns
  have hts := atoms_spec (ws := ws_Dec_digitAt) B.pre
  have hw : ∀ w ∈ zw, w.before [.ref h_v, .int x1].toArray s = true := fun w h => hts w (List.mem_cons_of_mem _ h)
  have hown : s.vm.findClass R_Dec = some m.cls := findClass_of_methodNamed B.named
  have hlocks := B.notSynchronized
  subst hsz
  have hD := hD0.self (sz := s.heap.size)
  generalize hAe : va_A [(h_v, .inr (1, [.ref h_v_reversed, .int v_digitCount, .int v_point])), (h_v_reversed, .inl (cB, n_v_reversed, .inl v_reversed_a))] s.heap.size = A at hD hX ⊢
  have hA : ∀ q : Nat, s.heap.size ≤ q → A q := fun q h => by rw [← hAe]; exact Or.inr h
  have hS : va_S A s.heap s.heap [] := va_S.rf
  have hl := lv_entry [.ref h_v, .int x1] (n := 2) (Nat.le_of_ble_eq_true rfl)
  rw [lg_entry_eq]
  generalize (lg_sl [.ref h_v, .int x1] ++ List.replicate (2 - (lg_sl [.ref h_v, .int x1]).length) Slot.unset).toArray = ls at hl ⊢
  have hl : lv_has ls 2 [(0, .ref h_v), (1, .int x1)] := hl
  refine zz_endi hx hb hr hlocks (fun Qq hend => ?_)
  unfold f_Dec_digitAt at hf
  refine lv_iload_n hx hb d_Dec_digitAt_0 rfl (lv_at hl 1 rfl) ?_
  refine lv_if_lt (tgt := 28) hx hb d_Dec_digitAt_1 (by decide) (fun hc => ?_) (fun hc => ?_)
  · have hf := zz_ifp hc hf
    refine lv_iconst (v := 0) hx hb d_Dec_digitAt_28 (by decide) ?_
    cases hf
    exact hend 29 ls _ _ d_Dec_digitAt_29 hP hD hS
  · have hf := zz_ifn hc hf
    refine lv_iload_n hx hb d_Dec_digitAt_4 rfl (lv_at hl 1 rfl) ?_
    refine lv_aload_n hx hb d_Dec_digitAt_5 rfl (lv_at hl 0 rfl) ?_
    refine va_get (D := (dC, dI)) (ci := 1) (v := .int v_digitCount) (C := R_Dec) (T := T_Dec) (N := 3) hx hb hw in_Dec hown hK hP 0 rfl rfl 1 (by decide) (hw _ wd_159) (fun _ h9 => h9) rfl d_Dec_digitAt_6 ?_
    refine lv_icmp_ge (tgt := 28) hx hb d_Dec_digitAt_9 (by decide) (fun hc => ?_) (fun hc => ?_)
    · have hf := zz_ifp hc hf
      refine lv_iconst (v := 0) hx hb d_Dec_digitAt_28 (by decide) ?_
      cases hf
      exact hend 29 ls _ _ d_Dec_digitAt_29 hP hD hS
    · have hf := zz_ifn hc hf
      refine lv_aload_n hx hb d_Dec_digitAt_12 rfl (lv_at hl 0 rfl) ?_
      refine va_get (D := (dC, dI)) (ci := 1) (v := .ref h_v_reversed) (C := R_Dec) (T := T_Dec) (N := 3) hx hb hw in_Dec hown hK hP 0 rfl rfl 0 (by decide) (hw _ wd_158) (fun _ h9 => h9) rfl d_Dec_digitAt_13 ?_
      refine lv_aload_n hx hb d_Dec_digitAt_16 rfl (lv_at hl 0 rfl) ?_
      refine va_get (D := (dC, dI)) (ci := 1) (v := .int v_digitCount) (C := R_Dec) (T := T_Dec) (N := 3) hx hb hw in_Dec hown hK hP 0 rfl rfl 1 (by decide) (hw _ wd_159) (fun _ h9 => h9) rfl d_Dec_digitAt_17 ?_
      refine lv_iconst (v := 1) hx hb d_Dec_digitAt_20 (by decide) ?_
      refine lv_isub hx hb d_Dec_digitAt_21 ?_
      refine lv_iload_n hx hb d_Dec_digitAt_22 rfl (lv_at hl 1 rfl) ?_
      refine lv_isub hx hb d_Dec_digitAt_23 ?_
      obtain ⟨hb_1, hf⟩ := zz_gd hf
      refine va_bald hx hb hK hP 1 2 rfl rfl (zz_vp hb_1) d_Dec_digitAt_24 ?_
      refine lv_goto (tgt := 29) hx hb d_Dec_digitAt_25 (by decide) ?_
      cases hf
      exact hend 29 ls _ _ d_Dec_digitAt_29 hP hD hS
abbrev ws_Dec_putDigits : List Cond := .code y_Dec_putDigits prog_3_method_4_code 5 none :: zw
abbrev rm_Dec_putDigits : Room := { frames := 1, cells := 0, slots := 0, locals := 21 }
theorem hd_Dec_putDigits : y_Dec_putDigits.cls = "RealText$Decimal" ∧ y_Dec_putDigits.cls ≠ "java/lang/invoke/MethodHandle" ∧ y_Dec_putDigits.cls ≠ "java/lang/invoke/VarHandle" ∧ (parseMethodDescriptor y_Dec_putDigits.desc).map (fun d => d.parameters.length) = some 3 := by decide +kernel
theorem d_Dec_putDigits_0 : decode prog_3_method_4_code 0 = .ok (.iload_n 2, 1) := by decide +kernel
theorem d_Dec_putDigits_1 : decode prog_3_method_4_code 1 = .ok (.istore 4, 2) := by decide +kernel
theorem d_Dec_putDigits_3 : decode prog_3_method_4_code 3 = .ok (.iload 4, 2) := by decide +kernel
theorem d_Dec_putDigits_5 : decode prog_3_method_4_code 5 = .ok (.iload_n 3, 1) := by decide +kernel
theorem d_Dec_putDigits_6 : decode prog_3_method_4_code 6 = .ok (.if_icmp .ge 23, 3) := by decide +kernel
theorem d_Dec_putDigits_9 : decode prog_3_method_4_code 9 = .ok (.aload_n 1, 1) := by decide +kernel
theorem d_Dec_putDigits_10 : decode prog_3_method_4_code 10 = .ok (.bipush 48, 2) := by decide +kernel
theorem d_Dec_putDigits_12 : decode prog_3_method_4_code 12 = .ok (.aload_n 0, 1) := by decide +kernel
theorem d_Dec_putDigits_13 : decode prog_3_method_4_code 13 = .ok (.iload 4, 2) := by decide +kernel
theorem d_Dec_putDigits_15 : decode prog_3_method_4_code 15 = .ok (.invokevirtual 45, 3) := by decide +kernel
theorem d_Dec_putDigits_18 : decode prog_3_method_4_code 18 = .ok (.iadd, 1) := by decide +kernel
theorem d_Dec_putDigits_19 : decode prog_3_method_4_code 19 = .ok (.i2c, 1) := by decide +kernel
theorem d_Dec_putDigits_20 : decode prog_3_method_4_code 20 = .ok (.invokevirtual 26, 3) := by decide +kernel
theorem d_Dec_putDigits_23 : decode prog_3_method_4_code 23 = .ok (.iinc 4 1, 3) := by decide +kernel
theorem d_Dec_putDigits_26 : decode prog_3_method_4_code 26 = .ok (.goto (-23), 3) := by decide +kernel
theorem d_Dec_putDigits_29 : decode prog_3_method_4_code 29 = .ok (.return_, 1) := by decide +kernel
def f_Dec_putDigits_3 (fu : Nat) (n_v_reversed : Nat) (n_w1_letters : Nat) (x2 : Int32) (x3 : Int32) (v_digitCount : Int32) (v_reversed_a : Nat → Int32)  : Nat → Int32 → Int32 → (Nat → Int32) → Option (Int32 × (Nat → Int32))
  | 0, _, _, _ => none
  | n + 1, y4, w1_end, w1_letters_a =>
  (if x3 ≤ y4 then
  some (w1_end, w1_letters_a)
  else
  (f_Dec_digitAt n_v_reversed y4 v_digitCount v_reversed_a).bind fun u_1 =>
  (f_Row_put n_w1_letters (((48 + u_1).toUInt32 % 65536).toInt32) w1_end w1_letters_a).bind fun u_2 =>
  f_Dec_putDigits_3 fu n_v_reversed n_w1_letters x2 x3 v_digitCount v_reversed_a n (y4 + 1) u_2.1 u_2.2)
theorem f_Dec_putDigits_3_s (fu : Nat) (n_v_reversed : Nat) (n_w1_letters : Nat) (x2 : Int32) (x3 : Int32) (v_digitCount : Int32) (v_reversed_a : Nat → Int32)  (n : Nat) (y4 : Int32) (w1_end : Int32) (w1_letters_a : Nat → Int32) : f_Dec_putDigits_3 fu n_v_reversed n_w1_letters x2 x3 v_digitCount v_reversed_a (n + 1) y4 w1_end w1_letters_a =
  (if x3 ≤ y4 then
  some (w1_end, w1_letters_a)
  else
  (f_Dec_digitAt n_v_reversed y4 v_digitCount v_reversed_a).bind fun u_1 =>
  (f_Row_put n_w1_letters (((48 + u_1).toUInt32 % 65536).toInt32) w1_end w1_letters_a).bind fun u_2 =>
  f_Dec_putDigits_3 fu n_v_reversed n_w1_letters x2 x3 v_digitCount v_reversed_a n (y4 + 1) u_2.1 u_2.2) := rfl
def f_Dec_putDigits (fu : Nat) (n_v_reversed : Nat) (n_w1_letters : Nat) (x2 : Int32) (x3 : Int32) (v_digitCount : Int32) (v_reversed_a : Nat → Int32) (w1_end : Int32) (w1_letters_a : Nat → Int32) : Option (Int32 × (Nat → Int32)) :=
  f_Dec_putDigits_3 fu n_v_reversed n_w1_letters x2 x3 v_digitCount v_reversed_a fu x2 w1_end w1_letters_a
set_option maxHeartbeats 4000000 in
set_option maxRecDepth 100000 in
theorem c_Dec_putDigits (l : Launch) (dC : Nat → ClassId) (dI : Nat → Nat → Nat) (cI cC cB cJ : ClassId) (fu : Nat) (sz : Nat) (h_v : Nat) (h_v_reversed : Nat) (h_w1 : Nat) (h_w1_letters : Nat) (n_v_reversed : Nat) (n_w1_letters : Nat) (x2 : Int32) (x3 : Int32) (v_digitCount : Int32) (v_point : Int32) (v_reversed_a : Nat → Int32) (w1_start : Int32) (w1_end : Int32) (w1_letters_a : Nat → Int32) (u : Int32 × (Nat → Int32)) (hf : f_Dec_putDigits fu n_v_reversed n_w1_letters x2 x3 v_digitCount v_reversed_a w1_end w1_letters_a = some u) : Met l y_Dec_putDigits ws_Dec_putDigits rm_Dec_putDigits (zz_P zz_T (dC, dI) vwCl (zz_tys cI cC cB cJ) [.ref h_v, .ref h_w1, .int x2, .int x3] [(h_v, .inr (1, [.ref h_v_reversed, .int v_digitCount, .int v_point])), (h_v_reversed, .inl (cB, n_v_reversed, .inl v_reversed_a)), (h_w1, .inr (4, [.ref h_w1_letters, .int w1_start, .int w1_end])), (h_w1_letters, .inl (cC, n_w1_letters, .inl w1_letters_a))] sz) (zz_Qv (dC, dI) vwCl [(h_v, .inr (1, [.ref h_v_reversed, .int v_digitCount, .int v_point])), (h_v_reversed, .inl (cB, n_v_reversed, .inl v_reversed_a)), (h_w1, .inr (4, [.ref h_w1_letters, .int w1_start, .int u.1])), (h_w1_letters, .inl (cC, n_w1_letters, .inl u.2))] (va_A [(h_v, .inr (1, [.ref h_v_reversed, .int v_digitCount, .int v_point])), (h_v_reversed, .inl (cB, n_v_reversed, .inl v_reversed_a)), (h_w1, .inr (4, [.ref h_w1_letters, .int w1_start, .int w1_end])), (h_w1_letters, .inl (cC, n_w1_letters, .inl w1_letters_a))] sz)) 0 0 (va_A [(h_v, .inr (1, [.ref h_v_reversed, .int v_digitCount, .int v_point])), (h_v_reversed, .inl (cB, n_v_reversed, .inl v_reversed_a)), (h_w1, .inr (4, [.ref h_w1_letters, .int w1_start, .int w1_end])), (h_w1_letters, .inl (cC, n_w1_letters, .inl w1_letters_a))] sz) := by
  refine Met.ofW (cc := prog_3_method_4_code) (maxL := 5) (ret := none) (by decide +kernel) rfl ?_
  intro p e s m args below meth c s₁ B hml hv
  obtain ⟨rfl, hsz, hP, hK, hD0, hX⟩ := hv
  have hx := B.exec
  have hb := B.bytes
  have hr := B.returns
  have hts := atoms_spec (ws := ws_Dec_putDigits) B.pre
  have hw : ∀ w ∈ zw, w.before [.ref h_v, .ref h_w1, .int x2, .int x3].toArray s = true := fun w h => hts w (List.mem_cons_of_mem _ h)
  have hown : s.vm.findClass R_Dec = some m.cls := findClass_of_methodNamed B.named
  have hlocks := B.notSynchronized
  subst hsz
  have hD := hD0.self (sz := s.heap.size)
  generalize hAe : va_A [(h_v, .inr (1, [.ref h_v_reversed, .int v_digitCount, .int v_point])), (h_v_reversed, .inl (cB, n_v_reversed, .inl v_reversed_a)), (h_w1, .inr (4, [.ref h_w1_letters, .int w1_start, .int w1_end])), (h_w1_letters, .inl (cC, n_w1_letters, .inl w1_letters_a))] s.heap.size = A at hD hX ⊢
  have hA : ∀ q : Nat, s.heap.size ≤ q → A q := fun q h => by rw [← hAe]; exact Or.inr h
  have hS : va_S A s.heap s.heap [] := va_S.rf
  have hl := lv_entry [.ref h_v, .ref h_w1, .int x2, .int x3] (n := 5) (Nat.le_of_ble_eq_true rfl)
  rw [lg_entry_eq]
  generalize (lg_sl [.ref h_v, .ref h_w1, .int x2, .int x3] ++ List.replicate (5 - (lg_sl [.ref h_v, .ref h_w1, .int x2, .int x3]).length) Slot.unset).toArray = ls at hl ⊢
  have hl : lv_has ls 5 [(0, .ref h_v), (1, .ref h_w1), (2, .int x2), (3, .int x3)] := hl
  refine zz_endv hx hb hr hlocks (fun Qq hend => ?_)
  have hL_3 : ∀ (n : Nat), ∀ (y4 : Int32) (w1_end : Int32) (w1_letters_a : Nat → Int32) (ls : Array Slot) (H : Heap) (locs : List Loc), lv_has ls 5 [(0, .ref h_v), (1, .ref h_w1), (3, .int x3), (4, .int y4)] → va_P (dC, dI) vwCl [(h_v, .inr (1, [.ref h_v_reversed, .int v_digitCount, .int v_point])), (h_v_reversed, .inl (cB, n_v_reversed, .inl v_reversed_a)), (h_w1, .inr (4, [.ref h_w1_letters, .int w1_start, .int w1_end])), (h_w1_letters, .inl (cC, n_w1_letters, .inl w1_letters_a))] H → va_D A [(h_v, .inr (1, [.ref h_v_reversed, .int v_digitCount, .int v_point])), (h_v_reversed, .inl (cB, n_v_reversed, .inl v_reversed_a)), (h_w1, .inr (4, [.ref h_w1_letters, .int w1_start, .int w1_end])), (h_w1_letters, .inl (cC, n_w1_letters, .inl w1_letters_a))] → va_S A s.heap H locs → f_Dec_putDigits_3 fu n_v_reversed n_w1_letters x2 x3 v_digitCount v_reversed_a n y4 w1_end w1_letters_a = some u → W p l e (headSpec ws_Dec_putDigits rm_Dec_putDigits).room s m [.ref h_v, .ref h_w1, .int x2, .int x3].toArray below meth c H locs 0 0 Qq (F0 m 3 ls []) := by
    intro n
    induction n with
    | zero =>
      intro y4 w1_end w1_letters_a ls H locs hl hP hD hS hf
      exact zz_no hf
    | succ n ih =>
      intro y4 w1_end w1_letters_a ls H locs hl hP hD hS hf
      rw [f_Dec_putDigits_3_s] at hf
      refine lv_iload hx hb d_Dec_putDigits_3 (lv_at hl 3 rfl) ?_
      refine lv_iload_n hx hb d_Dec_putDigits_5 rfl (lv_at hl 2 rfl) ?_
      refine lv_icmp_ge (tgt := 29) hx hb d_Dec_putDigits_6 (by decide) (fun hc => ?_) (fun hc => ?_)
      · have hf := zz_ifp hc hf
        cases hf
        exact hend 29 ls _ _ d_Dec_putDigits_29 hP hD hS
      · have hf := zz_ifn hc hf
        refine lv_aload_n hx hb d_Dec_putDigits_9 rfl (lv_at hl 1 rfl) ?_
        refine lv_bipush (v := 48) hx hb d_Dec_putDigits_10 (by decide) ?_
        refine lv_aload_n hx hb d_Dec_putDigits_12 rfl (lv_at hl 0 rfl) ?_
        refine lv_iload hx hb d_Dec_putDigits_13 (lv_at hl 3 rfl) ?_
        obtain ⟨u_1, hu_1, hf⟩ := zz_bd hf
        refine zz_ci (ws' := [(h_v, .inr (1, [.ref h_v_reversed, .int v_digitCount, .int v_point])), (h_v_reversed, .inl (cB, n_v_reversed, .inl v_reversed_a)), (h_w1, .inr (4, [.ref h_w1_letters, .int w1_start, .int w1_end])), (h_w1_letters, .inl (cC, n_w1_letters, .inl w1_letters_a))]) (wc := [(h_v, .inr (1, [.ref h_v_reversed, .int v_digitCount, .int v_point])), (h_v_reversed, .inl (cB, n_v_reversed, .inl v_reversed_a))]) (w' := [(h_v, .inr (1, [.ref h_v_reversed, .int v_digitCount, .int v_point])), (h_v_reversed, .inl (cB, n_v_reversed, .inl v_reversed_a))]) hP hD hS hA [0, 1] [2, 3] [2, 3, 0, 1] rfl rfl (by decide) (by decide) rfl (by decide) (va_runV (As := [.int y4]) (rest := [.int 48, .ref h_w1]) ⟨hx, hb, hml, hown, hw⟩ (c_Dec_digitAt l dC dI cI cC cB cJ _ h_v h_v_reversed n_v_reversed y4 v_digitCount v_point v_reversed_a u_1 hu_1) (cwV 1 hw (zg_V wd_426 wd_428 we_0_13 wd_7 wd_429) rfl rfl rfl hd_Dec_digitAt ⟨Nat.le_of_ble_eq_true rfl, Nat.le_of_ble_eq_true rfl⟩) (zz_preV zz_TE (va_recv (q0 := 0) (ci := 1) hK hP rfl rfl) hP hD hK hS hA trivial [0, 1] rfl (by decide)) rfl rfl hl.1 rfl (lv_room (Nat.le_of_ble_eq_true rfl)) d_Dec_putDigits_15 ⟨Nat.zero_le _, Nat.zero_le _⟩) (fun H locs hP hD hS => ?_)
        refine lv_iadd hx hb d_Dec_putDigits_18 ?_
        refine lv_i2c hx hb d_Dec_putDigits_19 rfl ?_
        obtain ⟨u_2, hu_2, hf⟩ := zz_bd hf
        refine zz_cv (ws' := [(h_v, .inr (1, [.ref h_v_reversed, .int v_digitCount, .int v_point])), (h_v_reversed, .inl (cB, n_v_reversed, .inl v_reversed_a)), (h_w1, .inr (4, [.ref h_w1_letters, .int w1_start, .int u_2.1])), (h_w1_letters, .inl (cC, n_w1_letters, .inl u_2.2))]) (wc := [(h_w1, .inr (4, [.ref h_w1_letters, .int w1_start, .int w1_end])), (h_w1_letters, .inl (cC, n_w1_letters, .inl w1_letters_a))]) (w' := [(h_w1, .inr (4, [.ref h_w1_letters, .int w1_start, .int u_2.1])), (h_w1_letters, .inl (cC, n_w1_letters, .inl u_2.2))]) hP hD hS hA [2, 3] [0, 1] [0, 1, 2, 3] rfl rfl (by decide) (by decide) rfl (by decide) (va_runV (As := [.int (((48 + u_1).toUInt32 % 65536).toInt32)]) (rest := []) ⟨hx, hb, hml, hown, hw⟩ (c_Row_put l dC dI cI cC cB cJ _ h_w1 h_w1_letters n_w1_letters (((48 + u_1).toUInt32 % 65536).toInt32) w1_start w1_end w1_letters_a u_2 hu_2) (cwV 1 hw (zg_V wd_430 wd_280 wd_281 wd_2 wd_282) rfl rfl rfl hd_Row_put ⟨Nat.le_of_ble_eq_true rfl, Nat.le_of_ble_eq_true rfl⟩) (zz_preV zz_TE (va_recv (q0 := 2) (ci := 4) hK hP rfl rfl) hP hD hK hS hA trivial [2, 3] rfl (by decide)) rfl rfl hl.1 rfl (lv_room (Nat.le_of_ble_eq_true rfl)) d_Dec_putDigits_20 ⟨Nat.zero_le _, Nat.zero_le _⟩) (fun H locs hP hD hS => ?_)
        refine lv_iinc (k := 3) (v := y4 + 1) hx hb d_Dec_putDigits_23 hl rfl rfl (by decide) rfl (fun ls hl => ?_)
        have hl : lv_has ls 5 [(4, .int (y4 + 1)), (0, .ref h_v), (1, .ref h_w1), (3, .int x3)] := hl
        refine lv_goto (tgt := 3) hx hb d_Dec_putDigits_26 (by decide) ?_
        exact ih (y4 + 1) u_2.1 u_2.2 ls _ _ (lv_sub hl [1, 2, 3, 0] rfl) hP hD hS hf
  unfold f_Dec_putDigits at hf
  refine lv_iload_n hx hb d_Dec_putDigits_0 rfl (lv_at hl 2 rfl) ?_
  refine lv_istore hx hb d_Dec_putDigits_1 hl (by decide) rfl (fun ls hl => ?_)
  have hl : lv_has ls 5 [(4, .int x2), (0, .ref h_v), (1, .ref h_w1), (2, .int x2), (3, .int x3)] := hl
  exact hL_3 fu x2 w1_end w1_letters_a ls _ _ (lv_sub hl [1, 2, 4, 0] rfl) hP hD hS hf
abbrev ws_Dec_putExponent : List Cond := .code y_Dec_putExponent prog_3_method_6_code 4 none :: zw
abbrev rm_Dec_putExponent : Room := { frames := 1, cells := 0, slots := 0, locals := 21 }
theorem hd_Dec_putExponent : y_Dec_putExponent.cls ≠ "java/lang/invoke/MethodHandle" ∧ y_Dec_putExponent.cls ≠ "java/lang/invoke/VarHandle" ∧ (parseMethodDescriptor y_Dec_putExponent.desc).map (fun d => d.parameters.length) = some 2 := by decide +kernel
theorem d_Dec_putExponent_0 : decode prog_3_method_6_code 0 = .ok (.iload_n 1, 1) := by decide +kernel
theorem d_Dec_putExponent_1 : decode prog_3_method_6_code 1 = .ok (.invokestatic 49, 3) := by decide +kernel
theorem d_Dec_putExponent_4 : decode prog_3_method_6_code 4 = .ok (.istore_n 2, 1) := by decide +kernel
theorem d_Dec_putExponent_5 : decode prog_3_method_6_code 5 = .ok (.iload_n 1, 1) := by decide +kernel
theorem d_Dec_putExponent_6 : decode prog_3_method_6_code 6 = .ok (.ifCond .ge 9, 3) := by decide +kernel
theorem d_Dec_putExponent_9 : decode prog_3_method_6_code 9 = .ok (.aload_n 0, 1) := by decide +kernel
theorem d_Dec_putExponent_10 : decode prog_3_method_6_code 10 = .ok (.bipush 45, 2) := by decide +kernel
theorem d_Dec_putExponent_12 : decode prog_3_method_6_code 12 = .ok (.invokevirtual 26, 3) := by decide +kernel
theorem d_Dec_putExponent_15 : decode prog_3_method_6_code 15 = .ok (.bipush 100, 2) := by decide +kernel
theorem d_Dec_putExponent_17 : decode prog_3_method_6_code 17 = .ok (.istore_n 3, 1) := by decide +kernel
theorem d_Dec_putExponent_18 : decode prog_3_method_6_code 18 = .ok (.iload_n 3, 1) := by decide +kernel
theorem d_Dec_putExponent_19 : decode prog_3_method_6_code 19 = .ok (.ifCond .le 35, 3) := by decide +kernel
theorem d_Dec_putExponent_22 : decode prog_3_method_6_code 22 = .ok (.iload_n 2, 1) := by decide +kernel
theorem d_Dec_putExponent_23 : decode prog_3_method_6_code 23 = .ok (.iload_n 3, 1) := by decide +kernel
theorem d_Dec_putExponent_24 : decode prog_3_method_6_code 24 = .ok (.if_icmp .ge 8, 3) := by decide +kernel
theorem d_Dec_putExponent_27 : decode prog_3_method_6_code 27 = .ok (.iload_n 3, 1) := by decide +kernel
theorem d_Dec_putExponent_28 : decode prog_3_method_6_code 28 = .ok (.iconst 1, 1) := by decide +kernel
theorem d_Dec_putExponent_29 : decode prog_3_method_6_code 29 = .ok (.if_icmp .ne 17, 3) := by decide +kernel
theorem d_Dec_putExponent_32 : decode prog_3_method_6_code 32 = .ok (.aload_n 0, 1) := by decide +kernel
theorem d_Dec_putExponent_33 : decode prog_3_method_6_code 33 = .ok (.bipush 48, 2) := by decide +kernel
theorem d_Dec_putExponent_35 : decode prog_3_method_6_code 35 = .ok (.iload_n 2, 1) := by decide +kernel
theorem d_Dec_putExponent_36 : decode prog_3_method_6_code 36 = .ok (.iload_n 3, 1) := by decide +kernel
theorem d_Dec_putExponent_37 : decode prog_3_method_6_code 37 = .ok (.idiv, 1) := by decide +kernel
theorem d_Dec_putExponent_38 : decode prog_3_method_6_code 38 = .ok (.bipush 10, 2) := by decide +kernel
theorem d_Dec_putExponent_40 : decode prog_3_method_6_code 40 = .ok (.irem, 1) := by decide +kernel
theorem d_Dec_putExponent_41 : decode prog_3_method_6_code 41 = .ok (.iadd, 1) := by decide +kernel
theorem d_Dec_putExponent_42 : decode prog_3_method_6_code 42 = .ok (.i2c, 1) := by decide +kernel
theorem d_Dec_putExponent_43 : decode prog_3_method_6_code 43 = .ok (.invokevirtual 26, 3) := by decide +kernel
theorem d_Dec_putExponent_46 : decode prog_3_method_6_code 46 = .ok (.iload_n 3, 1) := by decide +kernel
theorem d_Dec_putExponent_47 : decode prog_3_method_6_code 47 = .ok (.bipush 10, 2) := by decide +kernel
theorem d_Dec_putExponent_49 : decode prog_3_method_6_code 49 = .ok (.idiv, 1) := by decide +kernel
theorem d_Dec_putExponent_50 : decode prog_3_method_6_code 50 = .ok (.istore_n 3, 1) := by decide +kernel
theorem d_Dec_putExponent_51 : decode prog_3_method_6_code 51 = .ok (.goto (-33), 3) := by decide +kernel
theorem d_Dec_putExponent_54 : decode prog_3_method_6_code 54 = .ok (.return_, 1) := by decide +kernel
def f_Dec_putExponent_46 (fu : Nat) (n_w0_letters : Nat) (x1 : Int32) (self18 : Int32 → Int32 → Int32 → (Nat → Int32) → Option (Int32 × (Nat → Int32))) (y2 : Int32) (y3 : Int32) (w0_end : Int32) (w0_letters_a : Nat → Int32) : Option (Int32 × (Nat → Int32)) :=
  zz_lt (y3 / 10) fun x3_4 =>
  self18 y2 x3_4 w0_end w0_letters_a
def f_Dec_putExponent_32 (fu : Nat) (n_w0_letters : Nat) (x1 : Int32) (self18 : Int32 → Int32 → Int32 → (Nat → Int32) → Option (Int32 × (Nat → Int32))) (y2 : Int32) (y3 : Int32) (w0_end : Int32) (w0_letters_a : Nat → Int32) : Option (Int32 × (Nat → Int32)) :=
  if ¬ y3 = 0 then
  (f_Row_put n_w0_letters (((48 + ((y2 / y3) - (y2 / y3) / 10 * 10)).toUInt32 % 65536).toInt32) w0_end w0_letters_a).bind fun u_3 =>
  f_Dec_putExponent_46 fu n_w0_letters x1 self18 y2 y3 u_3.1 u_3.2
  else none
def f_Dec_putExponent_18 (fu : Nat) (n_w0_letters : Nat) (x1 : Int32)  : Nat → Int32 → Int32 → Int32 → (Nat → Int32) → Option (Int32 × (Nat → Int32))
  | 0, _, _, _, _ => none
  | n + 1, y2, y3, w0_end, w0_letters_a =>
  (if y3 ≤ 0 then
  some (w0_end, w0_letters_a)
  else
  (if y3 ≤ y2 then
  f_Dec_putExponent_32 fu n_w0_letters x1 (f_Dec_putExponent_18 fu n_w0_letters x1 n) y2 y3 w0_end w0_letters_a
  else
  (if y3 = 1 then
  f_Dec_putExponent_32 fu n_w0_letters x1 (f_Dec_putExponent_18 fu n_w0_letters x1 n) y2 y3 w0_end w0_letters_a
  else
  f_Dec_putExponent_46 fu n_w0_letters x1 (f_Dec_putExponent_18 fu n_w0_letters x1 n) y2 y3 w0_end w0_letters_a)))
theorem f_Dec_putExponent_18_s (fu : Nat) (n_w0_letters : Nat) (x1 : Int32)  (n : Nat) (y2 : Int32) (y3 : Int32) (w0_end : Int32) (w0_letters_a : Nat → Int32) : f_Dec_putExponent_18 fu n_w0_letters x1 (n + 1) y2 y3 w0_end w0_letters_a =
  (if y3 ≤ 0 then
  some (w0_end, w0_letters_a)
  else
  (if y3 ≤ y2 then
  f_Dec_putExponent_32 fu n_w0_letters x1 (f_Dec_putExponent_18 fu n_w0_letters x1 n) y2 y3 w0_end w0_letters_a
  else
  (if y3 = 1 then
  f_Dec_putExponent_32 fu n_w0_letters x1 (f_Dec_putExponent_18 fu n_w0_letters x1 n) y2 y3 w0_end w0_letters_a
  else
  f_Dec_putExponent_46 fu n_w0_letters x1 (f_Dec_putExponent_18 fu n_w0_letters x1 n) y2 y3 w0_end w0_letters_a))) := rfl
def f_Dec_putExponent_15 (fu : Nat) (n_w0_letters : Nat) (x1 : Int32)  (y2 : Int32) (w0_end : Int32) (w0_letters_a : Nat → Int32) : Option (Int32 × (Nat → Int32)) :=
  f_Dec_putExponent_18 fu n_w0_letters x1 fu y2 100 w0_end w0_letters_a
def f_Dec_putExponent (fu : Nat) (n_w0_letters : Nat) (x1 : Int32) (w0_end : Int32) (w0_letters_a : Nat → Int32) : Option (Int32 × (Nat → Int32)) :=
  (f_Mat_abs x1).bind fun u_1 =>
  (if 0 ≤ x1 then
  f_Dec_putExponent_15 fu n_w0_letters x1 u_1 w0_end w0_letters_a
  else
  (f_Row_put n_w0_letters 45 w0_end w0_letters_a).bind fun u_5 =>
  f_Dec_putExponent_15 fu n_w0_letters x1 u_1 u_5.1 u_5.2)
set_option maxHeartbeats 4000000 in
set_option maxRecDepth 100000 in
theorem c_Dec_putExponent (l : Launch) (dC : Nat → ClassId) (dI : Nat → Nat → Nat) (cI cC cB cJ : ClassId) (fu : Nat) (sz : Nat) (h_w0 : Nat) (h_w0_letters : Nat) (n_w0_letters : Nat) (x1 : Int32) (w0_start : Int32) (w0_end : Int32) (w0_letters_a : Nat → Int32) (u : Int32 × (Nat → Int32)) (hf : f_Dec_putExponent fu n_w0_letters x1 w0_end w0_letters_a = some u) : Met l y_Dec_putExponent ws_Dec_putExponent rm_Dec_putExponent (zz_P zz_T (dC, dI) vwCl (zz_tys cI cC cB cJ) [.ref h_w0, .int x1] [(h_w0, .inr (4, [.ref h_w0_letters, .int w0_start, .int w0_end])), (h_w0_letters, .inl (cC, n_w0_letters, .inl w0_letters_a))] sz) (zz_Qv (dC, dI) vwCl [(h_w0, .inr (4, [.ref h_w0_letters, .int w0_start, .int u.1])), (h_w0_letters, .inl (cC, n_w0_letters, .inl u.2))] (va_A [(h_w0, .inr (4, [.ref h_w0_letters, .int w0_start, .int w0_end])), (h_w0_letters, .inl (cC, n_w0_letters, .inl w0_letters_a))] sz)) 0 0 (va_A [(h_w0, .inr (4, [.ref h_w0_letters, .int w0_start, .int w0_end])), (h_w0_letters, .inl (cC, n_w0_letters, .inl w0_letters_a))] sz) := by
  refine Met.ofW (cc := prog_3_method_6_code) (maxL := 4) (ret := none) (by decide +kernel) rfl ?_
  intro p e s m args below meth c s₁ B hml hv
  obtain ⟨rfl, hsz, hP, hK, hD0, hX⟩ := hv
  have hx := B.exec
  have hb := B.bytes
  have hr := B.returns
  have hts := atoms_spec (ws := ws_Dec_putExponent) B.pre
  have hw : ∀ w ∈ zw, w.before [.ref h_w0, .int x1].toArray s = true := fun w h => hts w (List.mem_cons_of_mem _ h)
  have hown : s.vm.findClass R_Dec = some m.cls := findClass_of_methodNamed B.named
  have hlocks := B.notSynchronized
  subst hsz
  have hD := hD0.self (sz := s.heap.size)
  generalize hAe : va_A [(h_w0, .inr (4, [.ref h_w0_letters, .int w0_start, .int w0_end])), (h_w0_letters, .inl (cC, n_w0_letters, .inl w0_letters_a))] s.heap.size = A at hD hX ⊢
  have hA : ∀ q : Nat, s.heap.size ≤ q → A q := fun q h => by rw [← hAe]; exact Or.inr h
  have hS : va_S A s.heap s.heap [] := va_S.rf
  have hl := lv_entry [.ref h_w0, .int x1] (n := 4) (Nat.le_of_ble_eq_true rfl)
  rw [lg_entry_eq]
  generalize (lg_sl [.ref h_w0, .int x1] ++ List.replicate (4 - (lg_sl [.ref h_w0, .int x1]).length) Slot.unset).toArray = ls at hl ⊢
  have hl : lv_has ls 4 [(0, .ref h_w0), (1, .int x1)] := hl
  refine zz_endv hx hb hr hlocks (fun Qq hend => ?_)
  have hL_46 : ∀ (self18 : Int32 → Int32 → Int32 → (Nat → Int32) → Option (Int32 × (Nat → Int32))), (∀ (y2 : Int32) (y3 : Int32) (w0_end : Int32) (w0_letters_a : Nat → Int32) (ls : Array Slot) (H : Heap) (locs : List Loc), lv_has ls 4 [(0, .ref h_w0), (2, .int y2), (3, .int y3)] → va_P (dC, dI) vwCl [(h_w0, .inr (4, [.ref h_w0_letters, .int w0_start, .int w0_end])), (h_w0_letters, .inl (cC, n_w0_letters, .inl w0_letters_a))] H → va_D A [(h_w0, .inr (4, [.ref h_w0_letters, .int w0_start, .int w0_end])), (h_w0_letters, .inl (cC, n_w0_letters, .inl w0_letters_a))] → va_S A s.heap H locs → self18 y2 y3 w0_end w0_letters_a = some u → W p l e (headSpec ws_Dec_putExponent rm_Dec_putExponent).room s m [.ref h_w0, .int x1].toArray below meth c H locs 0 0 Qq (F0 m 18 ls [])) → ∀ (y2 : Int32) (y3 : Int32) (w0_end : Int32) (w0_letters_a : Nat → Int32) (ls : Array Slot) (H : Heap) (locs : List Loc), lv_has ls 4 [(0, .ref h_w0), (2, .int y2), (3, .int y3)] → va_P (dC, dI) vwCl [(h_w0, .inr (4, [.ref h_w0_letters, .int w0_start, .int w0_end])), (h_w0_letters, .inl (cC, n_w0_letters, .inl w0_letters_a))] H → va_D A [(h_w0, .inr (4, [.ref h_w0_letters, .int w0_start, .int w0_end])), (h_w0_letters, .inl (cC, n_w0_letters, .inl w0_letters_a))] → va_S A s.heap H locs → f_Dec_putExponent_46 fu n_w0_letters x1 self18 y2 y3 w0_end w0_letters_a = some u → W p l e (headSpec ws_Dec_putExponent rm_Dec_putExponent).room s m [.ref h_w0, .int x1].toArray below meth c H locs 0 0 Qq (F0 m 46 ls []) := by
    intro self18 hs18
    intro y2 y3 w0_end w0_letters_a ls H locs hl hP hD hS hf
    unfold f_Dec_putExponent_46 at hf
    refine lv_iload_n hx hb d_Dec_putExponent_46 rfl (lv_at hl 2 rfl) ?_
    refine lv_bipush (v := 10) hx hb d_Dec_putExponent_47 (by decide) ?_
    refine lv_idiv hx hb d_Dec_putExponent_49 (by decide) ?_
    refine lv_topi (fun x3_4 e_x3_4 => ?_)
    have hf := zz_ltp hf x3_4 e_x3_4
    refine lv_istore_n hx hb d_Dec_putExponent_50 rfl hl (by decide) rfl (fun ls hl => ?_)
    have hl : lv_has ls 4 [(3, .int x3_4), (0, .ref h_w0), (2, .int y2)] := hl
    refine lv_goto (tgt := 18) hx hb d_Dec_putExponent_51 (by decide) ?_
    exact hs18 y2 x3_4 w0_end w0_letters_a ls _ _ (lv_sub hl [1, 2, 0] rfl) hP hD hS hf
  have hL_32 : ∀ (self18 : Int32 → Int32 → Int32 → (Nat → Int32) → Option (Int32 × (Nat → Int32))), (∀ (y2 : Int32) (y3 : Int32) (w0_end : Int32) (w0_letters_a : Nat → Int32) (ls : Array Slot) (H : Heap) (locs : List Loc), lv_has ls 4 [(0, .ref h_w0), (2, .int y2), (3, .int y3)] → va_P (dC, dI) vwCl [(h_w0, .inr (4, [.ref h_w0_letters, .int w0_start, .int w0_end])), (h_w0_letters, .inl (cC, n_w0_letters, .inl w0_letters_a))] H → va_D A [(h_w0, .inr (4, [.ref h_w0_letters, .int w0_start, .int w0_end])), (h_w0_letters, .inl (cC, n_w0_letters, .inl w0_letters_a))] → va_S A s.heap H locs → self18 y2 y3 w0_end w0_letters_a = some u → W p l e (headSpec ws_Dec_putExponent rm_Dec_putExponent).room s m [.ref h_w0, .int x1].toArray below meth c H locs 0 0 Qq (F0 m 18 ls [])) → ∀ (y2 : Int32) (y3 : Int32) (w0_end : Int32) (w0_letters_a : Nat → Int32) (ls : Array Slot) (H : Heap) (locs : List Loc), lv_has ls 4 [(0, .ref h_w0), (2, .int y2), (3, .int y3)] → va_P (dC, dI) vwCl [(h_w0, .inr (4, [.ref h_w0_letters, .int w0_start, .int w0_end])), (h_w0_letters, .inl (cC, n_w0_letters, .inl w0_letters_a))] H → va_D A [(h_w0, .inr (4, [.ref h_w0_letters, .int w0_start, .int w0_end])), (h_w0_letters, .inl (cC, n_w0_letters, .inl w0_letters_a))] → va_S A s.heap H locs → f_Dec_putExponent_32 fu n_w0_letters x1 self18 y2 y3 w0_end w0_letters_a = some u → W p l e (headSpec ws_Dec_putExponent rm_Dec_putExponent).room s m [.ref h_w0, .int x1].toArray below meth c H locs 0 0 Qq (F0 m 32 ls []) := by
    intro self18 hs18
    intro y2 y3 w0_end w0_letters_a ls H locs hl hP hD hS hf
    unfold f_Dec_putExponent_32 at hf
    refine lv_aload_n hx hb d_Dec_putExponent_32 rfl (lv_at hl 0 rfl) ?_
    refine lv_bipush (v := 48) hx hb d_Dec_putExponent_33 (by decide) ?_
    refine lv_iload_n hx hb d_Dec_putExponent_35 rfl (lv_at hl 1 rfl) ?_
    refine lv_iload_n hx hb d_Dec_putExponent_36 rfl (lv_at hl 2 rfl) ?_
    obtain ⟨hz_2, hf⟩ := zz_gd hf
    refine lv_idiv hx hb d_Dec_putExponent_37 hz_2 ?_
    refine lv_bipush (v := 10) hx hb d_Dec_putExponent_38 (by decide) ?_
    refine lv_irem hx hb d_Dec_putExponent_40 (by decide) ?_
    refine lv_iadd hx hb d_Dec_putExponent_41 ?_
    refine lv_i2c hx hb d_Dec_putExponent_42 rfl ?_
    obtain ⟨u_3, hu_3, hf⟩ := zz_bd hf
    refine zz_cv (ws' := [(h_w0, .inr (4, [.ref h_w0_letters, .int w0_start, .int u_3.1])), (h_w0_letters, .inl (cC, n_w0_letters, .inl u_3.2))]) (wc := [(h_w0, .inr (4, [.ref h_w0_letters, .int w0_start, .int w0_end])), (h_w0_letters, .inl (cC, n_w0_letters, .inl w0_letters_a))]) (w' := [(h_w0, .inr (4, [.ref h_w0_letters, .int w0_start, .int u_3.1])), (h_w0_letters, .inl (cC, n_w0_letters, .inl u_3.2))]) hP hD hS hA [0, 1] [] [0, 1] rfl rfl (by decide) (by decide) rfl (by decide) (va_runV (As := [.int (((48 + ((y2 / y3) - (y2 / y3) / 10 * 10)).toUInt32 % 65536).toInt32)]) (rest := []) ⟨hx, hb, hml, hown, hw⟩ (c_Row_put l dC dI cI cC cB cJ _ h_w0 h_w0_letters n_w0_letters (((48 + ((y2 / y3) - (y2 / y3) / 10 * 10)).toUInt32 % 65536).toInt32) w0_start w0_end w0_letters_a u_3 hu_3) (cwV 1 hw (zg_V wd_430 wd_280 wd_281 wd_2 wd_282) rfl rfl rfl hd_Row_put ⟨Nat.le_of_ble_eq_true rfl, Nat.le_of_ble_eq_true rfl⟩) (zz_preV zz_TE (va_recv (q0 := 0) (ci := 4) hK hP rfl rfl) hP hD hK hS hA trivial [0, 1] rfl (by decide)) rfl rfl hl.1 rfl (lv_room (Nat.le_of_ble_eq_true rfl)) d_Dec_putExponent_43 ⟨Nat.zero_le _, Nat.zero_le _⟩) (fun H locs hP hD hS => ?_)
    exact hL_46 _ hs18 y2 y3 u_3.1 u_3.2 ls _ _ (lv_sub hl [0, 1, 2] rfl) hP hD hS hf
  have hL_18 : ∀ (n : Nat), ∀ (y2 : Int32) (y3 : Int32) (w0_end : Int32) (w0_letters_a : Nat → Int32) (ls : Array Slot) (H : Heap) (locs : List Loc), lv_has ls 4 [(0, .ref h_w0), (2, .int y2), (3, .int y3)] → va_P (dC, dI) vwCl [(h_w0, .inr (4, [.ref h_w0_letters, .int w0_start, .int w0_end])), (h_w0_letters, .inl (cC, n_w0_letters, .inl w0_letters_a))] H → va_D A [(h_w0, .inr (4, [.ref h_w0_letters, .int w0_start, .int w0_end])), (h_w0_letters, .inl (cC, n_w0_letters, .inl w0_letters_a))] → va_S A s.heap H locs → f_Dec_putExponent_18 fu n_w0_letters x1 n y2 y3 w0_end w0_letters_a = some u → W p l e (headSpec ws_Dec_putExponent rm_Dec_putExponent).room s m [.ref h_w0, .int x1].toArray below meth c H locs 0 0 Qq (F0 m 18 ls []) := by
    intro n
    induction n with
    | zero =>
      intro y2 y3 w0_end w0_letters_a ls H locs hl hP hD hS hf
      exact zz_no hf
    | succ n ih =>
      intro y2 y3 w0_end w0_letters_a ls H locs hl hP hD hS hf
      rw [f_Dec_putExponent_18_s] at hf
      refine lv_iload_n hx hb d_Dec_putExponent_18 rfl (lv_at hl 2 rfl) ?_
      refine lv_if_le (tgt := 54) hx hb d_Dec_putExponent_19 (by decide) (fun hc => ?_) (fun hc => ?_)
      · have hf := zz_ifp hc hf
        cases hf
        exact hend 54 ls _ _ d_Dec_putExponent_54 hP hD hS
      · have hf := zz_ifn hc hf
        refine lv_iload_n hx hb d_Dec_putExponent_22 rfl (lv_at hl 1 rfl) ?_
        refine lv_iload_n hx hb d_Dec_putExponent_23 rfl (lv_at hl 2 rfl) ?_
        refine lv_icmp_ge (tgt := 32) hx hb d_Dec_putExponent_24 (by decide) (fun hc => ?_) (fun hc => ?_)
        · have hf := zz_ifp hc hf
          exact hL_32 _ ih y2 y3 w0_end w0_letters_a ls _ _ (lv_sub hl [0, 1, 2] rfl) hP hD hS hf
        · have hf := zz_ifn hc hf
          refine lv_iload_n hx hb d_Dec_putExponent_27 rfl (lv_at hl 2 rfl) ?_
          refine lv_iconst (v := 1) hx hb d_Dec_putExponent_28 (by decide) ?_
          refine lv_icmp_ne (tgt := 46) hx hb d_Dec_putExponent_29 (by decide) (fun hc => ?_) (fun hc => ?_)
          · have hf := zz_ifn hc hf
            exact hL_46 _ ih y2 y3 w0_end w0_letters_a ls _ _ (lv_sub hl [0, 1, 2] rfl) hP hD hS hf
          · have hf := zz_ifp hc hf
            exact hL_32 _ ih y2 y3 w0_end w0_letters_a ls _ _ (lv_sub hl [0, 1, 2] rfl) hP hD hS hf
  have hL_15 : ∀ (y2 : Int32) (w0_end : Int32) (w0_letters_a : Nat → Int32) (ls : Array Slot) (H : Heap) (locs : List Loc), lv_has ls 4 [(0, .ref h_w0), (2, .int y2)] → va_P (dC, dI) vwCl [(h_w0, .inr (4, [.ref h_w0_letters, .int w0_start, .int w0_end])), (h_w0_letters, .inl (cC, n_w0_letters, .inl w0_letters_a))] H → va_D A [(h_w0, .inr (4, [.ref h_w0_letters, .int w0_start, .int w0_end])), (h_w0_letters, .inl (cC, n_w0_letters, .inl w0_letters_a))] → va_S A s.heap H locs → f_Dec_putExponent_15 fu n_w0_letters x1 y2 w0_end w0_letters_a = some u → W p l e (headSpec ws_Dec_putExponent rm_Dec_putExponent).room s m [.ref h_w0, .int x1].toArray below meth c H locs 0 0 Qq (F0 m 15 ls []) := by
    intro y2 w0_end w0_letters_a ls H locs hl hP hD hS hf
    unfold f_Dec_putExponent_15 at hf
    refine lv_bipush (v := 100) hx hb d_Dec_putExponent_15 (by decide) ?_
    refine lv_istore_n hx hb d_Dec_putExponent_17 rfl hl (by decide) rfl (fun ls hl => ?_)
    have hl : lv_has ls 4 [(3, .int 100), (0, .ref h_w0), (2, .int y2)] := hl
    exact hL_18 fu y2 100 w0_end w0_letters_a ls _ _ (lv_sub hl [1, 2, 0] rfl) hP hD hS hf
  unfold f_Dec_putExponent at hf
  refine lv_iload_n hx hb d_Dec_putExponent_0 rfl (lv_at hl 1 rfl) ?_
  obtain ⟨u_1, hu_1, hf⟩ := zz_bd hf
  refine zz_ci (ws' := [(h_w0, .inr (4, [.ref h_w0_letters, .int w0_start, .int w0_end])), (h_w0_letters, .inl (cC, n_w0_letters, .inl w0_letters_a))]) (wc := []) (w' := []) hP hD hS hA [] [0, 1] [0, 1] rfl rfl (by decide) (by decide) rfl (by decide) (va_runS (As := [.int x1]) (rest := []) ⟨hx, hb, hml, hown, hw⟩ (c_Mat_abs l dC dI cI cC cB cJ _ x1 u_1 hu_1) (va_cwS 1 hw (zg_S wd_435 wd_436 wd_16 wd_437) rfl rfl rfl hd_Mat_abs ⟨Nat.le_of_ble_eq_true rfl, Nat.le_of_ble_eq_true rfl⟩) (zz_preS zz_TE hP hD hK hS hA trivial [] rfl (by decide)) rfl rfl hl.1 rfl (lv_room (Nat.le_of_ble_eq_true rfl)) d_Dec_putExponent_1 ⟨Nat.zero_le _, Nat.zero_le _⟩) (fun H locs hP hD hS => ?_)
  refine lv_istore_n hx hb d_Dec_putExponent_4 rfl hl (by decide) rfl (fun ls hl => ?_)
  have hl : lv_has ls 4 [(2, .int u_1), (0, .ref h_w0), (1, .int x1)] := hl
  refine lv_iload_n hx hb d_Dec_putExponent_5 rfl (lv_at hl 2 rfl) ?_
  refine lv_if_ge (tgt := 15) hx hb d_Dec_putExponent_6 (by decide) (fun hc => ?_) (fun hc => ?_)
  · have hf := zz_ifp hc hf
    exact hL_15 u_1 w0_end w0_letters_a ls _ _ (lv_sub hl [1, 0] rfl) hP hD hS hf
  · have hf := zz_ifn hc hf
    refine lv_aload_n hx hb d_Dec_putExponent_9 rfl (lv_at hl 1 rfl) ?_
    refine lv_bipush (v := 45) hx hb d_Dec_putExponent_10 (by decide) ?_
    obtain ⟨u_5, hu_5, hf⟩ := zz_bd hf
    refine zz_cv (ws' := [(h_w0, .inr (4, [.ref h_w0_letters, .int w0_start, .int u_5.1])), (h_w0_letters, .inl (cC, n_w0_letters, .inl u_5.2))]) (wc := [(h_w0, .inr (4, [.ref h_w0_letters, .int w0_start, .int w0_end])), (h_w0_letters, .inl (cC, n_w0_letters, .inl w0_letters_a))]) (w' := [(h_w0, .inr (4, [.ref h_w0_letters, .int w0_start, .int u_5.1])), (h_w0_letters, .inl (cC, n_w0_letters, .inl u_5.2))]) hP hD hS hA [0, 1] [] [0, 1] rfl rfl (by decide) (by decide) rfl (by decide) (va_runV (As := [.int 45]) (rest := []) ⟨hx, hb, hml, hown, hw⟩ (c_Row_put l dC dI cI cC cB cJ _ h_w0 h_w0_letters n_w0_letters 45 w0_start w0_end w0_letters_a u_5 hu_5) (cwV 1 hw (zg_V wd_430 wd_280 wd_281 wd_2 wd_282) rfl rfl rfl hd_Row_put ⟨Nat.le_of_ble_eq_true rfl, Nat.le_of_ble_eq_true rfl⟩) (zz_preV zz_TE (va_recv (q0 := 0) (ci := 4) hK hP rfl rfl) hP hD hK hS hA trivial [0, 1] rfl (by decide)) rfl rfl hl.1 rfl (lv_room (Nat.le_of_ble_eq_true rfl)) d_Dec_putExponent_12 ⟨Nat.zero_le _, Nat.zero_le _⟩) (fun H locs hP hD hS => ?_)
    exact hL_15 u_1 u_5.1 u_5.2 ls _ _ (lv_sub hl [1, 0] rfl) hP hD hS hf
abbrev ws_Dec_set : List Cond := .code y_Dec_set prog_3_method_2_code 8 none :: zw
abbrev rm_Dec_set : Room := { frames := 0, cells := 0, slots := 0, locals := 0 }
theorem hd_Dec_set : y_Dec_set.cls = "RealText$Decimal" ∧ y_Dec_set.cls ≠ "java/lang/invoke/MethodHandle" ∧ y_Dec_set.cls ≠ "java/lang/invoke/VarHandle" ∧ (parseMethodDescriptor y_Dec_set.desc).map (fun d => d.parameters.length) = some 2 := by decide +kernel
theorem d_Dec_set_0 : decode prog_3_method_2_code 0 = .ok (.aload_n 0, 1) := by decide +kernel
theorem d_Dec_set_1 : decode prog_3_method_2_code 1 = .ok (.iconst 0, 1) := by decide +kernel
theorem d_Dec_set_2 : decode prog_3_method_2_code 2 = .ok (.putfield 13, 3) := by decide +kernel
theorem d_Dec_set_5 : decode prog_3_method_2_code 5 = .ok (.aload_n 0, 1) := by decide +kernel
theorem d_Dec_set_6 : decode prog_3_method_2_code 6 = .ok (.iload_n 3, 1) := by decide +kernel
theorem d_Dec_set_7 : decode prog_3_method_2_code 7 = .ok (.putfield 17, 3) := by decide +kernel
theorem d_Dec_set_10 : decode prog_3_method_2_code 10 = .ok (.lload_n 1, 1) := by decide +kernel
theorem d_Dec_set_11 : decode prog_3_method_2_code 11 = .ok (.lstore 4, 2) := by decide +kernel
theorem d_Dec_set_13 : decode prog_3_method_2_code 13 = .ok (.iconst 0, 1) := by decide +kernel
theorem d_Dec_set_14 : decode prog_3_method_2_code 14 = .ok (.istore 6, 2) := by decide +kernel
theorem d_Dec_set_16 : decode prog_3_method_2_code 16 = .ok (.iload 6, 2) := by decide +kernel
theorem d_Dec_set_18 : decode prog_3_method_2_code 18 = .ok (.bipush 20, 2) := by decide +kernel
theorem d_Dec_set_20 : decode prog_3_method_2_code 20 = .ok (.if_icmp .ge 77, 3) := by decide +kernel
theorem d_Dec_set_23 : decode prog_3_method_2_code 23 = .ok (.lload 4, 2) := by decide +kernel
theorem d_Dec_set_25 : decode prog_3_method_2_code 25 = .ok (.lconst 0, 1) := by decide +kernel
theorem d_Dec_set_26 : decode prog_3_method_2_code 26 = .ok (.lcmp, 1) := by decide +kernel
theorem d_Dec_set_27 : decode prog_3_method_2_code 27 = .ok (.ifCond .le 70, 3) := by decide +kernel
theorem d_Dec_set_30 : decode prog_3_method_2_code 30 = .ok (.lload 4, 2) := by decide +kernel
theorem d_Dec_set_32 : decode prog_3_method_2_code 32 = .ok (.ldc2_w 20, 3) := by decide +kernel
theorem d_Dec_set_35 : decode prog_3_method_2_code 35 = .ok (.lrem, 1) := by decide +kernel
theorem d_Dec_set_36 : decode prog_3_method_2_code 36 = .ok (.l2i, 1) := by decide +kernel
theorem d_Dec_set_37 : decode prog_3_method_2_code 37 = .ok (.istore 7, 2) := by decide +kernel
theorem d_Dec_set_39 : decode prog_3_method_2_code 39 = .ok (.lload 4, 2) := by decide +kernel
theorem d_Dec_set_41 : decode prog_3_method_2_code 41 = .ok (.ldc2_w 20, 3) := by decide +kernel
theorem d_Dec_set_44 : decode prog_3_method_2_code 44 = .ok (.ldiv, 1) := by decide +kernel
theorem d_Dec_set_45 : decode prog_3_method_2_code 45 = .ok (.lstore 4, 2) := by decide +kernel
theorem d_Dec_set_47 : decode prog_3_method_2_code 47 = .ok (.aload_n 0, 1) := by decide +kernel
theorem d_Dec_set_48 : decode prog_3_method_2_code 48 = .ok (.dup, 1) := by decide +kernel
theorem d_Dec_set_49 : decode prog_3_method_2_code 49 = .ok (.getfield 17, 3) := by decide +kernel
theorem d_Dec_set_52 : decode prog_3_method_2_code 52 = .ok (.iconst 1, 1) := by decide +kernel
theorem d_Dec_set_53 : decode prog_3_method_2_code 53 = .ok (.iadd, 1) := by decide +kernel
theorem d_Dec_set_54 : decode prog_3_method_2_code 54 = .ok (.putfield 17, 3) := by decide +kernel
theorem d_Dec_set_57 : decode prog_3_method_2_code 57 = .ok (.iload 7, 2) := by decide +kernel
theorem d_Dec_set_59 : decode prog_3_method_2_code 59 = .ok (.ifCond .ne 10, 3) := by decide +kernel
theorem d_Dec_set_62 : decode prog_3_method_2_code 62 = .ok (.aload_n 0, 1) := by decide +kernel
theorem d_Dec_set_63 : decode prog_3_method_2_code 63 = .ok (.getfield 13, 3) := by decide +kernel
theorem d_Dec_set_66 : decode prog_3_method_2_code 66 = .ok (.ifCond .le 25, 3) := by decide +kernel
theorem d_Dec_set_69 : decode prog_3_method_2_code 69 = .ok (.aload_n 0, 1) := by decide +kernel
theorem d_Dec_set_70 : decode prog_3_method_2_code 70 = .ok (.getfield 9, 3) := by decide +kernel
theorem d_Dec_set_73 : decode prog_3_method_2_code 73 = .ok (.aload_n 0, 1) := by decide +kernel
theorem d_Dec_set_74 : decode prog_3_method_2_code 74 = .ok (.getfield 13, 3) := by decide +kernel
theorem d_Dec_set_77 : decode prog_3_method_2_code 77 = .ok (.iload 7, 2) := by decide +kernel
theorem d_Dec_set_79 : decode prog_3_method_2_code 79 = .ok (.i2b, 1) := by decide +kernel
theorem d_Dec_set_80 : decode prog_3_method_2_code 80 = .ok (.bastore, 1) := by decide +kernel
theorem d_Dec_set_81 : decode prog_3_method_2_code 81 = .ok (.aload_n 0, 1) := by decide +kernel
theorem d_Dec_set_82 : decode prog_3_method_2_code 82 = .ok (.dup, 1) := by decide +kernel
theorem d_Dec_set_83 : decode prog_3_method_2_code 83 = .ok (.getfield 13, 3) := by decide +kernel
theorem d_Dec_set_86 : decode prog_3_method_2_code 86 = .ok (.iconst 1, 1) := by decide +kernel
theorem d_Dec_set_87 : decode prog_3_method_2_code 87 = .ok (.iadd, 1) := by decide +kernel
theorem d_Dec_set_88 : decode prog_3_method_2_code 88 = .ok (.putfield 13, 3) := by decide +kernel
theorem d_Dec_set_91 : decode prog_3_method_2_code 91 = .ok (.iinc 6 1, 3) := by decide +kernel
theorem d_Dec_set_94 : decode prog_3_method_2_code 94 = .ok (.goto (-78), 3) := by decide +kernel
theorem d_Dec_set_97 : decode prog_3_method_2_code 97 = .ok (.return_, 1) := by decide +kernel
def f_Dec_set_69 (fu : Nat) (n_v_reversed : Nat) (x1 : Int64) (x3 : Int32) (self16 : Int64 → Int32 → Int32 → Int32 → (Nat → Int32) → Option (Int32 × Int32 × (Nat → Int32))) (y4 : Int64) (y6 : Int32) (y7 : Int32) (v_digitCount : Int32) (v_point : Int32) (v_reversed_a : Nat → Int32) : Option (Int32 × Int32 × (Nat → Int32)) :=
  if zz_in v_digitCount n_v_reversed = true then
  self16 y4 (y6 + 1) (v_digitCount + 1) v_point (upd v_reversed_a v_digitCount.toNatClampNeg (vp_nar .byte y7.toInt8.toInt32))
  else none
def f_Dec_set_16 (fu : Nat) (n_v_reversed : Nat) (x1 : Int64) (x3 : Int32)  : Nat → Int64 → Int32 → Int32 → Int32 → (Nat → Int32) → Option (Int32 × Int32 × (Nat → Int32))
  | 0, _, _, _, _, _ => none
  | n + 1, y4, y6, v_digitCount, v_point, v_reversed_a =>
  (if 20 ≤ y6 then
  some (v_digitCount, v_point, v_reversed_a)
  else
  (if (lg_cmp y4 0) ≤ 0 then
  some (v_digitCount, v_point, v_reversed_a)
  else
  zz_lt ((y4 - y4 / 10 * 10).toInt32) fun x7_1 =>
  zz_lt (y4 / 10) fun x4_2 =>
  (if x7_1 = 0 then
  (if v_digitCount ≤ 0 then
  f_Dec_set_16 fu n_v_reversed x1 x3 n x4_2 (y6 + 1) v_digitCount (v_point + 1) v_reversed_a
  else
  f_Dec_set_69 fu n_v_reversed x1 x3 (f_Dec_set_16 fu n_v_reversed x1 x3 n) x4_2 y6 x7_1 v_digitCount (v_point + 1) v_reversed_a)
  else
  f_Dec_set_69 fu n_v_reversed x1 x3 (f_Dec_set_16 fu n_v_reversed x1 x3 n) x4_2 y6 x7_1 v_digitCount (v_point + 1) v_reversed_a)))
theorem f_Dec_set_16_s (fu : Nat) (n_v_reversed : Nat) (x1 : Int64) (x3 : Int32)  (n : Nat) (y4 : Int64) (y6 : Int32) (v_digitCount : Int32) (v_point : Int32) (v_reversed_a : Nat → Int32) : f_Dec_set_16 fu n_v_reversed x1 x3 (n + 1) y4 y6 v_digitCount v_point v_reversed_a =
  (if 20 ≤ y6 then
  some (v_digitCount, v_point, v_reversed_a)
  else
  (if (lg_cmp y4 0) ≤ 0 then
  some (v_digitCount, v_point, v_reversed_a)
  else
  zz_lt ((y4 - y4 / 10 * 10).toInt32) fun x7_1 =>
  zz_lt (y4 / 10) fun x4_2 =>
  (if x7_1 = 0 then
  (if v_digitCount ≤ 0 then
  f_Dec_set_16 fu n_v_reversed x1 x3 n x4_2 (y6 + 1) v_digitCount (v_point + 1) v_reversed_a
  else
  f_Dec_set_69 fu n_v_reversed x1 x3 (f_Dec_set_16 fu n_v_reversed x1 x3 n) x4_2 y6 x7_1 v_digitCount (v_point + 1) v_reversed_a)
  else
  f_Dec_set_69 fu n_v_reversed x1 x3 (f_Dec_set_16 fu n_v_reversed x1 x3 n) x4_2 y6 x7_1 v_digitCount (v_point + 1) v_reversed_a))) := rfl
def f_Dec_set (fu : Nat) (n_v_reversed : Nat) (x1 : Int64) (x3 : Int32) (v_digitCount : Int32) (v_point : Int32) (v_reversed_a : Nat → Int32) : Option (Int32 × Int32 × (Nat → Int32)) :=
  f_Dec_set_16 fu n_v_reversed x1 x3 fu x1 0 0 x3 v_reversed_a
set_option maxHeartbeats 4000000 in
set_option maxRecDepth 100000 in
theorem c_Dec_set (l : Launch) (dC : Nat → ClassId) (dI : Nat → Nat → Nat) (cI cC cB cJ : ClassId) (fu : Nat) (sz : Nat) (h_v : Nat) (h_v_reversed : Nat) (n_v_reversed : Nat) (x1 : Int64) (x3 : Int32) (v_digitCount : Int32) (v_point : Int32) (v_reversed_a : Nat → Int32) (u : Int32 × Int32 × (Nat → Int32)) (hf : f_Dec_set fu n_v_reversed x1 x3 v_digitCount v_point v_reversed_a = some u) : Met l y_Dec_set ws_Dec_set rm_Dec_set (zz_P zz_T (dC, dI) vwCl (zz_tys cI cC cB cJ) [.ref h_v, .long x1, .int x3] [(h_v, .inr (1, [.ref h_v_reversed, .int v_digitCount, .int v_point])), (h_v_reversed, .inl (cB, n_v_reversed, .inl v_reversed_a))] sz) (zz_Qv (dC, dI) vwCl [(h_v, .inr (1, [.ref h_v_reversed, .int u.1, .int u.2.1])), (h_v_reversed, .inl (cB, n_v_reversed, .inl u.2.2))] (va_A [(h_v, .inr (1, [.ref h_v_reversed, .int v_digitCount, .int v_point])), (h_v_reversed, .inl (cB, n_v_reversed, .inl v_reversed_a))] sz)) 0 0 (va_A [(h_v, .inr (1, [.ref h_v_reversed, .int v_digitCount, .int v_point])), (h_v_reversed, .inl (cB, n_v_reversed, .inl v_reversed_a))] sz) := by
  refine Met.ofW (cc := prog_3_method_2_code) (maxL := 8) (ret := none) (by decide +kernel) rfl ?_
  intro p e s m args below meth c s₁ B hml hv
  obtain ⟨rfl, hsz, hP, hK, hD0, hX⟩ := hv
  have hx := B.exec
  have hb := B.bytes
  have hr := B.returns
  have hts := atoms_spec (ws := ws_Dec_set) B.pre
  have hw : ∀ w ∈ zw, w.before [.ref h_v, .long x1, .int x3].toArray s = true := fun w h => hts w (List.mem_cons_of_mem _ h)
  have hown : s.vm.findClass R_Dec = some m.cls := findClass_of_methodNamed B.named
  have hlocks := B.notSynchronized
  subst hsz
  have hD := hD0.self (sz := s.heap.size)
  generalize hAe : va_A [(h_v, .inr (1, [.ref h_v_reversed, .int v_digitCount, .int v_point])), (h_v_reversed, .inl (cB, n_v_reversed, .inl v_reversed_a))] s.heap.size = A at hD hX ⊢
  have hA : ∀ q : Nat, s.heap.size ≤ q → A q := fun q h => by rw [← hAe]; exact Or.inr h
  have hS : va_S A s.heap s.heap [] := va_S.rf
  have hl := lv_entry [.ref h_v, .long x1, .int x3] (n := 8) (Nat.le_of_ble_eq_true rfl)
  rw [lg_entry_eq]
  generalize (lg_sl [.ref h_v, .long x1, .int x3] ++ List.replicate (8 - (lg_sl [.ref h_v, .long x1, .int x3]).length) Slot.unset).toArray = ls at hl ⊢
  have hl : lv_has ls 8 [(0, .ref h_v), (1, .long x1), (3, .int x3)] := hl
  refine zz_endv hx hb hr hlocks (fun Qq hend => ?_)
  have hL_69 : ∀ (self16 : Int64 → Int32 → Int32 → Int32 → (Nat → Int32) → Option (Int32 × Int32 × (Nat → Int32))), (∀ (y4 : Int64) (y6 : Int32) (v_digitCount : Int32) (v_point : Int32) (v_reversed_a : Nat → Int32) (ls : Array Slot) (H : Heap) (locs : List Loc), lv_has ls 8 [(0, .ref h_v), (4, .long y4), (6, .int y6)] → va_P (dC, dI) vwCl [(h_v, .inr (1, [.ref h_v_reversed, .int v_digitCount, .int v_point])), (h_v_reversed, .inl (cB, n_v_reversed, .inl v_reversed_a))] H → va_D A [(h_v, .inr (1, [.ref h_v_reversed, .int v_digitCount, .int v_point])), (h_v_reversed, .inl (cB, n_v_reversed, .inl v_reversed_a))] → va_S A s.heap H locs → self16 y4 y6 v_digitCount v_point v_reversed_a = some u → W p l e (headSpec ws_Dec_set rm_Dec_set).room s m [.ref h_v, .long x1, .int x3].toArray below meth c H locs 0 0 Qq (F0 m 16 ls [])) → ∀ (y4 : Int64) (y6 : Int32) (y7 : Int32) (v_digitCount : Int32) (v_point : Int32) (v_reversed_a : Nat → Int32) (ls : Array Slot) (H : Heap) (locs : List Loc), lv_has ls 8 [(0, .ref h_v), (4, .long y4), (6, .int y6), (7, .int y7)] → va_P (dC, dI) vwCl [(h_v, .inr (1, [.ref h_v_reversed, .int v_digitCount, .int v_point])), (h_v_reversed, .inl (cB, n_v_reversed, .inl v_reversed_a))] H → va_D A [(h_v, .inr (1, [.ref h_v_reversed, .int v_digitCount, .int v_point])), (h_v_reversed, .inl (cB, n_v_reversed, .inl v_reversed_a))] → va_S A s.heap H locs → f_Dec_set_69 fu n_v_reversed x1 x3 self16 y4 y6 y7 v_digitCount v_point v_reversed_a = some u → W p l e (headSpec ws_Dec_set rm_Dec_set).room s m [.ref h_v, .long x1, .int x3].toArray below meth c H locs 0 0 Qq (F0 m 69 ls []) := by
    intro self16 hs16
    intro y4 y6 y7 v_digitCount v_point v_reversed_a ls H locs hl hP hD hS hf
    unfold f_Dec_set_69 at hf
    refine lv_aload_n hx hb d_Dec_set_69 rfl (lv_at hl 0 rfl) ?_
    refine va_get (D := (dC, dI)) (ci := 1) (v := .ref h_v_reversed) (C := R_Dec) (T := T_Dec) (N := 3) hx hb hw in_Dec hown hK hP 0 rfl rfl 0 (by decide) (hw _ wd_158) (fun _ h9 => h9) rfl d_Dec_set_70 ?_
    refine lv_aload_n hx hb d_Dec_set_73 rfl (lv_at hl 0 rfl) ?_
    refine va_get (D := (dC, dI)) (ci := 1) (v := .int v_digitCount) (C := R_Dec) (T := T_Dec) (N := 3) hx hb hw in_Dec hown hK hP 0 rfl rfl 1 (by decide) (hw _ wd_159) (fun _ h9 => h9) rfl d_Dec_set_74 ?_
    refine lv_iload hx hb d_Dec_set_77 (lv_at hl 3 rfl) ?_
    refine lv_i2b hx hb d_Dec_set_79 rfl ?_
    obtain ⟨hb_3, hf⟩ := zz_gd hf
    refine va_bast hx hb hK hP hD hS 1 2 rfl rfl (zz_vp hb_3) d_Dec_set_80 (fun H locs hP hD hS => ?_)
    have hP : va_P (dC, dI) vwCl [(h_v, .inr (1, [.ref h_v_reversed, .int v_digitCount, .int v_point])), (h_v_reversed, .inl (cB, n_v_reversed, .inl (upd v_reversed_a v_digitCount.toNatClampNeg (vp_nar .byte y7.toInt8.toInt32))))] H := hP
    have hD : va_D A [(h_v, .inr (1, [.ref h_v_reversed, .int v_digitCount, .int v_point])), (h_v_reversed, .inl (cB, n_v_reversed, .inl (upd v_reversed_a v_digitCount.toNatClampNeg (vp_nar .byte y7.toInt8.toInt32))))] := hD
    refine lv_aload_n hx hb d_Dec_set_81 rfl (lv_at hl 0 rfl) ?_
    refine lv_dup hx hb d_Dec_set_82 rfl ?_
    refine va_get (D := (dC, dI)) (ci := 1) (v := .int v_digitCount) (C := R_Dec) (T := T_Dec) (N := 3) hx hb hw in_Dec hown hK hP 0 rfl rfl 1 (by decide) (hw _ wd_159) (fun _ h9 => h9) rfl d_Dec_set_83 ?_
    refine lv_iconst (v := 1) hx hb d_Dec_set_86 (by decide) ?_
    refine lv_iadd hx hb d_Dec_set_87 ?_
    refine va_put (D := (dC, dI)) (ci := 1) (v := .int (v_digitCount + 1)) (ty := .int) (C := R_Dec) (T := T_Dec) (N := 3) hx hb hw in_Dec ty_Dec tyok_Dec nm_Dec hown hK hP hD hS 0 rfl rfl 1 (by decide) (hw _ wd_159) (fun _ h9 => h9) rfl (tyok_Dec 1 (by decide)) rfl rfl (Nat.le_of_ble_eq_true rfl) d_Dec_set_88 (fun H locs hP hD hS => ?_)
    have hP : va_P (dC, dI) vwCl [(h_v, .inr (1, [.ref h_v_reversed, .int (v_digitCount + 1), .int v_point])), (h_v_reversed, .inl (cB, n_v_reversed, .inl (upd v_reversed_a v_digitCount.toNatClampNeg (vp_nar .byte y7.toInt8.toInt32))))] H := hP
    have hD : va_D A [(h_v, .inr (1, [.ref h_v_reversed, .int (v_digitCount + 1), .int v_point])), (h_v_reversed, .inl (cB, n_v_reversed, .inl (upd v_reversed_a v_digitCount.toNatClampNeg (vp_nar .byte y7.toInt8.toInt32))))] := hD
    refine lv_iinc (k := 2) (v := y6 + 1) hx hb d_Dec_set_91 hl rfl rfl (by decide) rfl (fun ls hl => ?_)
    have hl : lv_has ls 8 [(6, .int (y6 + 1)), (0, .ref h_v), (4, .long y4), (7, .int y7)] := hl
    refine lv_goto (tgt := 16) hx hb d_Dec_set_94 (by decide) ?_
    exact hs16 y4 (y6 + 1) (v_digitCount + 1) v_point (upd v_reversed_a v_digitCount.toNatClampNeg (vp_nar .byte y7.toInt8.toInt32)) ls _ _ (lv_sub hl [1, 2, 0] rfl) hP hD hS hf
  have hL_16 : ∀ (n : Nat), ∀ (y4 : Int64) (y6 : Int32) (v_digitCount : Int32) (v_point : Int32) (v_reversed_a : Nat → Int32) (ls : Array Slot) (H : Heap) (locs : List Loc), lv_has ls 8 [(0, .ref h_v), (4, .long y4), (6, .int y6)] → va_P (dC, dI) vwCl [(h_v, .inr (1, [.ref h_v_reversed, .int v_digitCount, .int v_point])), (h_v_reversed, .inl (cB, n_v_reversed, .inl v_reversed_a))] H → va_D A [(h_v, .inr (1, [.ref h_v_reversed, .int v_digitCount, .int v_point])), (h_v_reversed, .inl (cB, n_v_reversed, .inl v_reversed_a))] → va_S A s.heap H locs → f_Dec_set_16 fu n_v_reversed x1 x3 n y4 y6 v_digitCount v_point v_reversed_a = some u → W p l e (headSpec ws_Dec_set rm_Dec_set).room s m [.ref h_v, .long x1, .int x3].toArray below meth c H locs 0 0 Qq (F0 m 16 ls []) := by
    intro n
    induction n with
    | zero =>
      intro y4 y6 v_digitCount v_point v_reversed_a ls H locs hl hP hD hS hf
      exact zz_no hf
    | succ n ih =>
      intro y4 y6 v_digitCount v_point v_reversed_a ls H locs hl hP hD hS hf
      rw [f_Dec_set_16_s] at hf
      refine lv_iload hx hb d_Dec_set_16 (lv_at hl 2 rfl) ?_
      refine lv_bipush (v := 20) hx hb d_Dec_set_18 (by decide) ?_
      refine lv_icmp_ge (tgt := 97) hx hb d_Dec_set_20 (by decide) (fun hc => ?_) (fun hc => ?_)
      · have hf := zz_ifp hc hf
        cases hf
        exact hend 97 ls _ _ d_Dec_set_97 hP hD hS
      · have hf := zz_ifn hc hf
        refine lv_lload hx hb d_Dec_set_23 (lv_at hl 1 rfl) ?_
        refine lv_lconst (v := 0) hx hb d_Dec_set_25 (by decide) ?_
        refine W.lcmp hx hb d_Dec_set_26 ?_
        refine lv_if_le (tgt := 97) hx hb d_Dec_set_27 (by decide) (fun hc => ?_) (fun hc => ?_)
        · have hf := zz_ifp hc hf
          cases hf
          exact hend 97 ls _ _ d_Dec_set_97 hP hD hS
        · have hf := zz_ifn hc hf
          refine lv_lload hx hb d_Dec_set_30 (lv_at hl 1 rfl) ?_
          refine lv_ldc2 (v := 10) hx hb hown (hw _ wd_417) d_Dec_set_32 ?_
          refine lv_lrem hx hb d_Dec_set_35 (by decide) ?_
          refine lv_l2i hx hb d_Dec_set_36 rfl ?_
          refine lv_topi (fun x7_1 e_x7_1 => ?_)
          have hf := zz_ltp hf x7_1 e_x7_1
          refine lv_istore hx hb d_Dec_set_37 hl (by decide) rfl (fun ls hl => ?_)
          have hl : lv_has ls 8 [(7, .int x7_1), (0, .ref h_v), (4, .long y4), (6, .int y6)] := hl
          refine lv_lload hx hb d_Dec_set_39 (lv_at hl 2 rfl) ?_
          refine lv_ldc2 (v := 10) hx hb hown (hw _ wd_417) d_Dec_set_41 ?_
          refine lv_ldiv hx hb d_Dec_set_44 (by decide) ?_
          refine lv_topl (fun x4_2 e_x4_2 => ?_)
          have hf := zz_ltp hf x4_2 e_x4_2
          refine lv_lstore hx hb d_Dec_set_45 hl (by decide) rfl (fun ls hl => ?_)
          have hl : lv_has ls 8 [(4, .long x4_2), (7, .int x7_1), (0, .ref h_v), (6, .int y6)] := hl
          refine lv_aload_n hx hb d_Dec_set_47 rfl (lv_at hl 2 rfl) ?_
          refine lv_dup hx hb d_Dec_set_48 rfl ?_
          refine va_get (D := (dC, dI)) (ci := 1) (v := .int v_point) (C := R_Dec) (T := T_Dec) (N := 3) hx hb hw in_Dec hown hK hP 0 rfl rfl 2 (by decide) (hw _ wd_160) (fun _ h9 => h9) rfl d_Dec_set_49 ?_
          refine lv_iconst (v := 1) hx hb d_Dec_set_52 (by decide) ?_
          refine lv_iadd hx hb d_Dec_set_53 ?_
          refine va_put (D := (dC, dI)) (ci := 1) (v := .int (v_point + 1)) (ty := .int) (C := R_Dec) (T := T_Dec) (N := 3) hx hb hw in_Dec ty_Dec tyok_Dec nm_Dec hown hK hP hD hS 0 rfl rfl 2 (by decide) (hw _ wd_160) (fun _ h9 => h9) rfl (tyok_Dec 2 (by decide)) rfl rfl (Nat.le_of_ble_eq_true rfl) d_Dec_set_54 (fun H locs hP hD hS => ?_)
          have hP : va_P (dC, dI) vwCl [(h_v, .inr (1, [.ref h_v_reversed, .int v_digitCount, .int (v_point + 1)])), (h_v_reversed, .inl (cB, n_v_reversed, .inl v_reversed_a))] H := hP
          have hD : va_D A [(h_v, .inr (1, [.ref h_v_reversed, .int v_digitCount, .int (v_point + 1)])), (h_v_reversed, .inl (cB, n_v_reversed, .inl v_reversed_a))] := hD
          refine lv_iload hx hb d_Dec_set_57 (lv_at hl 1 rfl) ?_
          refine lv_if_ne (tgt := 69) hx hb d_Dec_set_59 (by decide) (fun hc => ?_) (fun hc => ?_)
          · have hf := zz_ifn hc hf
            exact hL_69 _ ih x4_2 y6 x7_1 v_digitCount (v_point + 1) v_reversed_a ls _ _ (lv_sub hl [2, 0, 3, 1] rfl) hP hD hS hf
          · have hf := zz_ifp hc hf
            refine lv_aload_n hx hb d_Dec_set_62 rfl (lv_at hl 2 rfl) ?_
            refine va_get (D := (dC, dI)) (ci := 1) (v := .int v_digitCount) (C := R_Dec) (T := T_Dec) (N := 3) hx hb hw in_Dec hown hK hP 0 rfl rfl 1 (by decide) (hw _ wd_159) (fun _ h9 => h9) rfl d_Dec_set_63 ?_
            refine lv_if_le (tgt := 91) hx hb d_Dec_set_66 (by decide) (fun hc => ?_) (fun hc => ?_)
            · have hf := zz_ifp hc hf
              refine lv_iinc (k := 3) (v := y6 + 1) hx hb d_Dec_set_91 hl rfl rfl (by decide) rfl (fun ls hl => ?_)
              have hl : lv_has ls 8 [(6, .int (y6 + 1)), (4, .long x4_2), (7, .int x7_1), (0, .ref h_v)] := hl
              refine lv_goto (tgt := 16) hx hb d_Dec_set_94 (by decide) ?_
              exact ih x4_2 (y6 + 1) v_digitCount (v_point + 1) v_reversed_a ls _ _ (lv_sub hl [3, 1, 0] rfl) hP hD hS hf
            · have hf := zz_ifn hc hf
              exact hL_69 _ ih x4_2 y6 x7_1 v_digitCount (v_point + 1) v_reversed_a ls _ _ (lv_sub hl [2, 0, 3, 1] rfl) hP hD hS hf
  unfold f_Dec_set at hf
  refine lv_aload_n hx hb d_Dec_set_0 rfl (lv_at hl 0 rfl) ?_
  refine lv_iconst (v := 0) hx hb d_Dec_set_1 (by decide) ?_
  refine va_put (D := (dC, dI)) (ci := 1) (v := .int 0) (ty := .int) (C := R_Dec) (T := T_Dec) (N := 3) hx hb hw in_Dec ty_Dec tyok_Dec nm_Dec hown hK hP hD hS 0 rfl rfl 1 (by decide) (hw _ wd_159) (fun _ h9 => h9) rfl (tyok_Dec 1 (by decide)) rfl rfl (Nat.le_of_ble_eq_true rfl) d_Dec_set_2 (fun H locs hP hD hS => ?_)
  have hP : va_P (dC, dI) vwCl [(h_v, .inr (1, [.ref h_v_reversed, .int 0, .int v_point])), (h_v_reversed, .inl (cB, n_v_reversed, .inl v_reversed_a))] H := hP
  have hD : va_D A [(h_v, .inr (1, [.ref h_v_reversed, .int 0, .int v_point])), (h_v_reversed, .inl (cB, n_v_reversed, .inl v_reversed_a))] := hD
  refine lv_aload_n hx hb d_Dec_set_5 rfl (lv_at hl 0 rfl) ?_
  refine lv_iload_n hx hb d_Dec_set_6 rfl (lv_at hl 2 rfl) ?_
  refine va_put (D := (dC, dI)) (ci := 1) (v := .int x3) (ty := .int) (C := R_Dec) (T := T_Dec) (N := 3) hx hb hw in_Dec ty_Dec tyok_Dec nm_Dec hown hK hP hD hS 0 rfl rfl 2 (by decide) (hw _ wd_160) (fun _ h9 => h9) rfl (tyok_Dec 2 (by decide)) rfl rfl (Nat.le_of_ble_eq_true rfl) d_Dec_set_7 (fun H locs hP hD hS => ?_)
  have hP : va_P (dC, dI) vwCl [(h_v, .inr (1, [.ref h_v_reversed, .int 0, .int x3])), (h_v_reversed, .inl (cB, n_v_reversed, .inl v_reversed_a))] H := hP
  have hD : va_D A [(h_v, .inr (1, [.ref h_v_reversed, .int 0, .int x3])), (h_v_reversed, .inl (cB, n_v_reversed, .inl v_reversed_a))] := hD
  refine lv_lload_n hx hb d_Dec_set_10 rfl (lv_at hl 1 rfl) ?_
  refine lv_lstore hx hb d_Dec_set_11 hl (by decide) rfl (fun ls hl => ?_)
  have hl : lv_has ls 8 [(4, .long x1), (0, .ref h_v), (1, .long x1), (3, .int x3)] := hl
  refine lv_iconst (v := 0) hx hb d_Dec_set_13 (by decide) ?_
  refine lv_istore hx hb d_Dec_set_14 hl (by decide) rfl (fun ls hl => ?_)
  have hl : lv_has ls 8 [(6, .int 0), (4, .long x1), (0, .ref h_v), (1, .long x1), (3, .int x3)] := hl
  exact hL_16 fu x1 0 0 x3 v_reversed_a ls _ _ (lv_sub hl [2, 1, 0] rfl) hP hD hS hf
abbrev ws_Dec_putOn : List Cond := .code y_Dec_putOn prog_3_method_3_code 2 none :: zw
abbrev rm_Dec_putOn : Room := { frames := 2, cells := 0, slots := 0, locals := 45 }
theorem hd_Dec_putOn : y_Dec_putOn.cls = "RealText$Decimal" ∧ y_Dec_putOn.cls ≠ "java/lang/invoke/MethodHandle" ∧ y_Dec_putOn.cls ≠ "java/lang/invoke/VarHandle" ∧ (parseMethodDescriptor y_Dec_putOn.desc).map (fun d => d.parameters.length) = some 1 := by decide +kernel
theorem d_Dec_putOn_0 : decode prog_3_method_3_code 0 = .ok (.aload_n 0, 1) := by decide +kernel
theorem d_Dec_putOn_1 : decode prog_3_method_3_code 1 = .ok (.getfield 17, 3) := by decide +kernel
theorem d_Dec_putOn_4 : decode prog_3_method_3_code 4 = .ok (.bipush (-2), 2) := by decide +kernel
theorem d_Dec_putOn_6 : decode prog_3_method_3_code 6 = .ok (.if_icmp .lt 12, 3) := by decide +kernel
theorem d_Dec_putOn_9 : decode prog_3_method_3_code 9 = .ok (.aload_n 0, 1) := by decide +kernel
theorem d_Dec_putOn_10 : decode prog_3_method_3_code 10 = .ok (.getfield 17, 3) := by decide +kernel
theorem d_Dec_putOn_13 : decode prog_3_method_3_code 13 = .ok (.bipush 7, 2) := by decide +kernel
theorem d_Dec_putOn_15 : decode prog_3_method_3_code 15 = .ok (.if_icmp .le 49, 3) := by decide +kernel
theorem d_Dec_putOn_18 : decode prog_3_method_3_code 18 = .ok (.aload_n 0, 1) := by decide +kernel
theorem d_Dec_putOn_19 : decode prog_3_method_3_code 19 = .ok (.aload_n 1, 1) := by decide +kernel
theorem d_Dec_putOn_20 : decode prog_3_method_3_code 20 = .ok (.iconst 0, 1) := by decide +kernel
theorem d_Dec_putOn_21 : decode prog_3_method_3_code 21 = .ok (.iconst 1, 1) := by decide +kernel
theorem d_Dec_putOn_22 : decode prog_3_method_3_code 22 = .ok (.invokevirtual 22, 3) := by decide +kernel
theorem d_Dec_putOn_25 : decode prog_3_method_3_code 25 = .ok (.aload_n 1, 1) := by decide +kernel
theorem d_Dec_putOn_26 : decode prog_3_method_3_code 26 = .ok (.bipush 46, 2) := by decide +kernel
theorem d_Dec_putOn_28 : decode prog_3_method_3_code 28 = .ok (.invokevirtual 26, 3) := by decide +kernel
theorem d_Dec_putOn_31 : decode prog_3_method_3_code 31 = .ok (.aload_n 0, 1) := by decide +kernel
theorem d_Dec_putOn_32 : decode prog_3_method_3_code 32 = .ok (.aload_n 1, 1) := by decide +kernel
theorem d_Dec_putOn_33 : decode prog_3_method_3_code 33 = .ok (.iconst 1, 1) := by decide +kernel
theorem d_Dec_putOn_34 : decode prog_3_method_3_code 34 = .ok (.aload_n 0, 1) := by decide +kernel
theorem d_Dec_putOn_35 : decode prog_3_method_3_code 35 = .ok (.getfield 13, 3) := by decide +kernel
theorem d_Dec_putOn_38 : decode prog_3_method_3_code 38 = .ok (.iconst 2, 1) := by decide +kernel
theorem d_Dec_putOn_39 : decode prog_3_method_3_code 39 = .ok (.invokestatic 32, 3) := by decide +kernel
theorem d_Dec_putOn_42 : decode prog_3_method_3_code 42 = .ok (.invokevirtual 22, 3) := by decide +kernel
theorem d_Dec_putOn_45 : decode prog_3_method_3_code 45 = .ok (.aload_n 1, 1) := by decide +kernel
theorem d_Dec_putOn_46 : decode prog_3_method_3_code 46 = .ok (.bipush 69, 2) := by decide +kernel
theorem d_Dec_putOn_48 : decode prog_3_method_3_code 48 = .ok (.invokevirtual 26, 3) := by decide +kernel
theorem d_Dec_putOn_51 : decode prog_3_method_3_code 51 = .ok (.aload_n 1, 1) := by decide +kernel
theorem d_Dec_putOn_52 : decode prog_3_method_3_code 52 = .ok (.aload_n 0, 1) := by decide +kernel
theorem d_Dec_putOn_53 : decode prog_3_method_3_code 53 = .ok (.getfield 17, 3) := by decide +kernel
theorem d_Dec_putOn_56 : decode prog_3_method_3_code 56 = .ok (.iconst 1, 1) := by decide +kernel
theorem d_Dec_putOn_57 : decode prog_3_method_3_code 57 = .ok (.isub, 1) := by decide +kernel
theorem d_Dec_putOn_58 : decode prog_3_method_3_code 58 = .ok (.invokestatic 38, 3) := by decide +kernel
theorem d_Dec_putOn_61 : decode prog_3_method_3_code 61 = .ok (.goto 50, 3) := by decide +kernel
theorem d_Dec_putOn_64 : decode prog_3_method_3_code 64 = .ok (.aload_n 0, 1) := by decide +kernel
theorem d_Dec_putOn_65 : decode prog_3_method_3_code 65 = .ok (.aload_n 1, 1) := by decide +kernel
theorem d_Dec_putOn_66 : decode prog_3_method_3_code 66 = .ok (.aload_n 0, 1) := by decide +kernel
theorem d_Dec_putOn_67 : decode prog_3_method_3_code 67 = .ok (.getfield 17, 3) := by decide +kernel
theorem d_Dec_putOn_70 : decode prog_3_method_3_code 70 = .ok (.iconst 1, 1) := by decide +kernel
theorem d_Dec_putOn_71 : decode prog_3_method_3_code 71 = .ok (.isub, 1) := by decide +kernel
theorem d_Dec_putOn_72 : decode prog_3_method_3_code 72 = .ok (.iconst 0, 1) := by decide +kernel
theorem d_Dec_putOn_73 : decode prog_3_method_3_code 73 = .ok (.invokestatic 42, 3) := by decide +kernel
theorem d_Dec_putOn_76 : decode prog_3_method_3_code 76 = .ok (.aload_n 0, 1) := by decide +kernel
theorem d_Dec_putOn_77 : decode prog_3_method_3_code 77 = .ok (.getfield 17, 3) := by decide +kernel
theorem d_Dec_putOn_80 : decode prog_3_method_3_code 80 = .ok (.invokevirtual 22, 3) := by decide +kernel
theorem d_Dec_putOn_83 : decode prog_3_method_3_code 83 = .ok (.aload_n 1, 1) := by decide +kernel
theorem d_Dec_putOn_84 : decode prog_3_method_3_code 84 = .ok (.bipush 46, 2) := by decide +kernel
theorem d_Dec_putOn_86 : decode prog_3_method_3_code 86 = .ok (.invokevirtual 26, 3) := by decide +kernel
theorem d_Dec_putOn_89 : decode prog_3_method_3_code 89 = .ok (.aload_n 0, 1) := by decide +kernel
theorem d_Dec_putOn_90 : decode prog_3_method_3_code 90 = .ok (.aload_n 1, 1) := by decide +kernel
theorem d_Dec_putOn_91 : decode prog_3_method_3_code 91 = .ok (.aload_n 0, 1) := by decide +kernel
theorem d_Dec_putOn_92 : decode prog_3_method_3_code 92 = .ok (.getfield 17, 3) := by decide +kernel
theorem d_Dec_putOn_95 : decode prog_3_method_3_code 95 = .ok (.aload_n 0, 1) := by decide +kernel
theorem d_Dec_putOn_96 : decode prog_3_method_3_code 96 = .ok (.getfield 13, 3) := by decide +kernel
theorem d_Dec_putOn_99 : decode prog_3_method_3_code 99 = .ok (.aload_n 0, 1) := by decide +kernel
theorem d_Dec_putOn_100 : decode prog_3_method_3_code 100 = .ok (.getfield 17, 3) := by decide +kernel
theorem d_Dec_putOn_103 : decode prog_3_method_3_code 103 = .ok (.iconst 1, 1) := by decide +kernel
theorem d_Dec_putOn_104 : decode prog_3_method_3_code 104 = .ok (.iadd, 1) := by decide +kernel
theorem d_Dec_putOn_105 : decode prog_3_method_3_code 105 = .ok (.invokestatic 32, 3) := by decide +kernel
theorem d_Dec_putOn_108 : decode prog_3_method_3_code 108 = .ok (.invokevirtual 22, 3) := by decide +kernel
theorem d_Dec_putOn_111 : decode prog_3_method_3_code 111 = .ok (.return_, 1) := by decide +kernel
def f_Dec_putOn_18 (fu : Nat) (n_v_reversed : Nat) (n_w1_letters : Nat) (v_digitCount : Int32) (v_point : Int32) (v_reversed_a : Nat → Int32)  (w1_end : Int32) (w1_letters_a : Nat → Int32) : Option (Int32 × (Nat → Int32)) :=
  (f_Dec_putDigits fu n_v_reversed n_w1_letters 0 1 v_digitCount v_reversed_a w1_end w1_letters_a).bind fun u_1 =>
  (f_Row_put n_w1_letters 46 u_1.1 u_1.2).bind fun u_2 =>
  (f_Mat_max v_digitCount 2).bind fun u_3 =>
  (f_Dec_putDigits fu n_v_reversed n_w1_letters 1 u_3 v_digitCount v_reversed_a u_2.1 u_2.2).bind fun u_4 =>
  (f_Row_put n_w1_letters 69 u_4.1 u_4.2).bind fun u_5 =>
  (f_Dec_putExponent fu n_w1_letters (v_point - 1) u_5.1 u_5.2).bind fun u_6 =>
  some (u_6.1, u_6.2)
def f_Dec_putOn (fu : Nat) (n_v_reversed : Nat) (n_w1_letters : Nat) (v_digitCount : Int32) (v_point : Int32) (v_reversed_a : Nat → Int32) (w1_end : Int32) (w1_letters_a : Nat → Int32) : Option (Int32 × (Nat → Int32)) :=
  (if v_point < (-2) then
  f_Dec_putOn_18 fu n_v_reversed n_w1_letters v_digitCount v_point v_reversed_a w1_end w1_letters_a
  else
  (if v_point ≤ 7 then
  (f_Mat_min (v_point - 1) 0).bind fun u_7 =>
  (f_Dec_putDigits fu n_v_reversed n_w1_letters u_7 v_point v_digitCount v_reversed_a w1_end w1_letters_a).bind fun u_8 =>
  (f_Row_put n_w1_letters 46 u_8.1 u_8.2).bind fun u_9 =>
  (f_Mat_max v_digitCount (v_point + 1)).bind fun u_10 =>
  (f_Dec_putDigits fu n_v_reversed n_w1_letters v_point u_10 v_digitCount v_reversed_a u_9.1 u_9.2).bind fun u_11 =>
  some (u_11.1, u_11.2)
  else
  f_Dec_putOn_18 fu n_v_reversed n_w1_letters v_digitCount v_point v_reversed_a w1_end w1_letters_a))
set_option maxHeartbeats 4000000 in
set_option maxRecDepth 100000 in
theorem c_Dec_putOn (l : Launch) (dC : Nat → ClassId) (dI : Nat → Nat → Nat) (cI cC cB cJ : ClassId) (fu : Nat) (sz : Nat) (h_v : Nat) (h_v_reversed : Nat) (h_w1 : Nat) (h_w1_letters : Nat) (n_v_reversed : Nat) (n_w1_letters : Nat) (v_digitCount : Int32) (v_point : Int32) (v_reversed_a : Nat → Int32) (w1_start : Int32) (w1_end : Int32) (w1_letters_a : Nat → Int32) (u : Int32 × (Nat → Int32)) (hf : f_Dec_putOn fu n_v_reversed n_w1_letters v_digitCount v_point v_reversed_a w1_end w1_letters_a = some u) : Met l y_Dec_putOn ws_Dec_putOn rm_Dec_putOn (zz_P zz_T (dC, dI) vwCl (zz_tys cI cC cB cJ) [.ref h_v, .ref h_w1] [(h_v, .inr (1, [.ref h_v_reversed, .int v_digitCount, .int v_point])), (h_v_reversed, .inl (cB, n_v_reversed, .inl v_reversed_a)), (h_w1, .inr (4, [.ref h_w1_letters, .int w1_start, .int w1_end])), (h_w1_letters, .inl (cC, n_w1_letters, .inl w1_letters_a))] sz) (zz_Qv (dC, dI) vwCl [(h_v, .inr (1, [.ref h_v_reversed, .int v_digitCount, .int v_point])), (h_v_reversed, .inl (cB, n_v_reversed, .inl v_reversed_a)), (h_w1, .inr (4, [.ref h_w1_letters, .int w1_start, .int u.1])), (h_w1_letters, .inl (cC, n_w1_letters, .inl u.2))] (va_A [(h_v, .inr (1, [.ref h_v_reversed, .int v_digitCount, .int v_point])), (h_v_reversed, .inl (cB, n_v_reversed, .inl v_reversed_a)), (h_w1, .inr (4, [.ref h_w1_letters, .int w1_start, .int w1_end])), (h_w1_letters, .inl (cC, n_w1_letters, .inl w1_letters_a))] sz)) 0 0 (va_A [(h_v, .inr (1, [.ref h_v_reversed, .int v_digitCount, .int v_point])), (h_v_reversed, .inl (cB, n_v_reversed, .inl v_reversed_a)), (h_w1, .inr (4, [.ref h_w1_letters, .int w1_start, .int w1_end])), (h_w1_letters, .inl (cC, n_w1_letters, .inl w1_letters_a))] sz) := by
  refine Met.ofW (cc := prog_3_method_3_code) (maxL := 2) (ret := none) (by decide +kernel) rfl ?_
  intro p e s m args below meth c s₁ B hml hv
  obtain ⟨rfl, hsz, hP, hK, hD0, hX⟩ := hv
  have hx := B.exec
  have hb := B.bytes
  have hr := B.returns
  have hts := atoms_spec (ws := ws_Dec_putOn) B.pre
  have hw : ∀ w ∈ zw, w.before [.ref h_v, .ref h_w1].toArray s = true := fun w h => hts w (List.mem_cons_of_mem _ h)
  have hown : s.vm.findClass R_Dec = some m.cls := findClass_of_methodNamed B.named
  have hlocks := B.notSynchronized
  subst hsz
  have hD := hD0.self (sz := s.heap.size)
  generalize hAe : va_A [(h_v, .inr (1, [.ref h_v_reversed, .int v_digitCount, .int v_point])), (h_v_reversed, .inl (cB, n_v_reversed, .inl v_reversed_a)), (h_w1, .inr (4, [.ref h_w1_letters, .int w1_start, .int w1_end])), (h_w1_letters, .inl (cC, n_w1_letters, .inl w1_letters_a))] s.heap.size = A at hD hX ⊢
  have hA : ∀ q : Nat, s.heap.size ≤ q → A q := fun q h => by rw [← hAe]; exact Or.inr h
  have hS : va_S A s.heap s.heap [] := va_S.rf
  have hl := lv_entry [.ref h_v, .ref h_w1] (n := 2) (Nat.le_of_ble_eq_true rfl)
  rw [lg_entry_eq]
  generalize (lg_sl [.ref h_v, .ref h_w1] ++ List.replicate (2 - (lg_sl [.ref h_v, .ref h_w1]).length) Slot.unset).toArray = ls at hl ⊢
  have hl : lv_has ls 2 [(0, .ref h_v), (1, .ref h_w1)] := hl
  refine zz_endv hx hb hr hlocks (fun Qq hend => ?_)
  have hL_18 : ∀ (w1_end : Int32) (w1_letters_a : Nat → Int32) (ls : Array Slot) (H : Heap) (locs : List Loc), lv_has ls 2 [(0, .ref h_v), (1, .ref h_w1)] → va_P (dC, dI) vwCl [(h_v, .inr (1, [.ref h_v_reversed, .int v_digitCount, .int v_point])), (h_v_reversed, .inl (cB, n_v_reversed, .inl v_reversed_a)), (h_w1, .inr (4, [.ref h_w1_letters, .int w1_start, .int w1_end])), (h_w1_letters, .inl (cC, n_w1_letters, .inl w1_letters_a))] H → va_D A [(h_v, .inr (1, [.ref h_v_reversed, .int v_digitCount, .int v_point])), (h_v_reversed, .inl (cB, n_v_reversed, .inl v_reversed_a)), (h_w1, .inr (4, [.ref h_w1_letters, .int w1_start, .int w1_end])), (h_w1_letters, .inl (cC, n_w1_letters, .inl w1_letters_a))] → va_S A s.heap H locs → f_Dec_putOn_18 fu n_v_reversed n_w1_letters v_digitCount v_point v_reversed_a w1_end w1_letters_a = some u → W p l e (headSpec ws_Dec_putOn rm_Dec_putOn).room s m [.ref h_v, .ref h_w1].toArray below meth c H locs 0 0 Qq (F0 m 18 ls []) := by
    intro w1_end w1_letters_a ls H locs hl hP hD hS hf
    unfold f_Dec_putOn_18 at hf
    refine lv_aload_n hx hb d_Dec_putOn_18 rfl (lv_at hl 0 rfl) ?_
    refine lv_aload_n hx hb d_Dec_putOn_19 rfl (lv_at hl 1 rfl) ?_
    refine lv_iconst (v := 0) hx hb d_Dec_putOn_20 (by decide) ?_
    refine lv_iconst (v := 1) hx hb d_Dec_putOn_21 (by decide) ?_
    obtain ⟨u_1, hu_1, hf⟩ := zz_bd hf
    refine zz_cv (ws' := [(h_v, .inr (1, [.ref h_v_reversed, .int v_digitCount, .int v_point])), (h_v_reversed, .inl (cB, n_v_reversed, .inl v_reversed_a)), (h_w1, .inr (4, [.ref h_w1_letters, .int w1_start, .int u_1.1])), (h_w1_letters, .inl (cC, n_w1_letters, .inl u_1.2))]) (wc := [(h_v, .inr (1, [.ref h_v_reversed, .int v_digitCount, .int v_point])), (h_v_reversed, .inl (cB, n_v_reversed, .inl v_reversed_a)), (h_w1, .inr (4, [.ref h_w1_letters, .int w1_start, .int w1_end])), (h_w1_letters, .inl (cC, n_w1_letters, .inl w1_letters_a))]) (w' := [(h_v, .inr (1, [.ref h_v_reversed, .int v_digitCount, .int v_point])), (h_v_reversed, .inl (cB, n_v_reversed, .inl v_reversed_a)), (h_w1, .inr (4, [.ref h_w1_letters, .int w1_start, .int u_1.1])), (h_w1_letters, .inl (cC, n_w1_letters, .inl u_1.2))]) hP hD hS hA [0, 1, 2, 3] [] [0, 1, 2, 3] rfl rfl (by decide) (by decide) rfl (by decide) (va_runV (As := [.ref h_w1, .int 0, .int 1]) (rest := []) ⟨hx, hb, hml, hown, hw⟩ (c_Dec_putDigits l dC dI cI cC cB cJ fu _ h_v h_v_reversed h_w1 h_w1_letters n_v_reversed n_w1_letters 0 1 v_digitCount v_point v_reversed_a w1_start w1_end w1_letters_a u_1 hu_1) (cwV 3 hw (zg_V wd_422 wd_424 we_0_12 wd_7 wd_425) rfl rfl rfl hd_Dec_putDigits ⟨Nat.le_of_ble_eq_true rfl, Nat.le_of_ble_eq_true rfl⟩) (zz_preV zz_TE (va_recv (q0 := 0) (ci := 1) hK hP rfl rfl) hP hD hK hS hA trivial [0, 1, 2, 3] rfl (by decide)) rfl rfl hl.1 rfl (lv_room (Nat.le_of_ble_eq_true rfl)) d_Dec_putOn_22 ⟨Nat.zero_le _, Nat.zero_le _⟩) (fun H locs hP hD hS => ?_)
    refine lv_aload_n hx hb d_Dec_putOn_25 rfl (lv_at hl 1 rfl) ?_
    refine lv_bipush (v := 46) hx hb d_Dec_putOn_26 (by decide) ?_
    obtain ⟨u_2, hu_2, hf⟩ := zz_bd hf
    refine zz_cv (ws' := [(h_v, .inr (1, [.ref h_v_reversed, .int v_digitCount, .int v_point])), (h_v_reversed, .inl (cB, n_v_reversed, .inl v_reversed_a)), (h_w1, .inr (4, [.ref h_w1_letters, .int w1_start, .int u_2.1])), (h_w1_letters, .inl (cC, n_w1_letters, .inl u_2.2))]) (wc := [(h_w1, .inr (4, [.ref h_w1_letters, .int w1_start, .int u_1.1])), (h_w1_letters, .inl (cC, n_w1_letters, .inl u_1.2))]) (w' := [(h_w1, .inr (4, [.ref h_w1_letters, .int w1_start, .int u_2.1])), (h_w1_letters, .inl (cC, n_w1_letters, .inl u_2.2))]) hP hD hS hA [2, 3] [0, 1] [0, 1, 2, 3] rfl rfl (by decide) (by decide) rfl (by decide) (va_runV (As := [.int 46]) (rest := []) ⟨hx, hb, hml, hown, hw⟩ (c_Row_put l dC dI cI cC cB cJ _ h_w1 h_w1_letters n_w1_letters 46 w1_start u_1.1 u_1.2 u_2 hu_2) (cwV 1 hw (zg_V wd_430 wd_280 wd_281 wd_2 wd_282) rfl rfl rfl hd_Row_put ⟨Nat.le_of_ble_eq_true rfl, Nat.le_of_ble_eq_true rfl⟩) (zz_preV zz_TE (va_recv (q0 := 2) (ci := 4) hK hP rfl rfl) hP hD hK hS hA trivial [2, 3] rfl (by decide)) rfl rfl hl.1 rfl (lv_room (Nat.le_of_ble_eq_true rfl)) d_Dec_putOn_28 ⟨Nat.zero_le _, Nat.zero_le _⟩) (fun H locs hP hD hS => ?_)
    refine lv_aload_n hx hb d_Dec_putOn_31 rfl (lv_at hl 0 rfl) ?_
    refine lv_aload_n hx hb d_Dec_putOn_32 rfl (lv_at hl 1 rfl) ?_
    refine lv_iconst (v := 1) hx hb d_Dec_putOn_33 (by decide) ?_
    refine lv_aload_n hx hb d_Dec_putOn_34 rfl (lv_at hl 0 rfl) ?_
    refine va_get (D := (dC, dI)) (ci := 1) (v := .int v_digitCount) (C := R_Dec) (T := T_Dec) (N := 3) hx hb hw in_Dec hown hK hP 0 rfl rfl 1 (by decide) (hw _ wd_159) (fun _ h9 => h9) rfl d_Dec_putOn_35 ?_
    refine lv_iconst (v := 2) hx hb d_Dec_putOn_38 (by decide) ?_
    obtain ⟨u_3, hu_3, hf⟩ := zz_bd hf
    refine zz_ci (ws' := [(h_v, .inr (1, [.ref h_v_reversed, .int v_digitCount, .int v_point])), (h_v_reversed, .inl (cB, n_v_reversed, .inl v_reversed_a)), (h_w1, .inr (4, [.ref h_w1_letters, .int w1_start, .int u_2.1])), (h_w1_letters, .inl (cC, n_w1_letters, .inl u_2.2))]) (wc := []) (w' := []) hP hD hS hA [] [0, 1, 2, 3] [0, 1, 2, 3] rfl rfl (by decide) (by decide) rfl (by decide) (va_runS (As := [.int v_digitCount, .int 2]) (rest := [.int 1, .ref h_w1, .ref h_v]) ⟨hx, hb, hml, hown, hw⟩ (c_Mat_max l dC dI cI cC cB cJ _ v_digitCount 2 u_3 hu_3) (va_cwS 2 hw (zg_S wd_431 wd_316 wd_16 wd_317) rfl rfl rfl hd_Mat_max ⟨Nat.le_of_ble_eq_true rfl, Nat.le_of_ble_eq_true rfl⟩) (zz_preS zz_TE hP hD hK hS hA trivial [] rfl (by decide)) rfl rfl hl.1 rfl (lv_room (Nat.le_of_ble_eq_true rfl)) d_Dec_putOn_39 ⟨Nat.zero_le _, Nat.zero_le _⟩) (fun H locs hP hD hS => ?_)
    obtain ⟨u_4, hu_4, hf⟩ := zz_bd hf
    refine zz_cv (ws' := [(h_v, .inr (1, [.ref h_v_reversed, .int v_digitCount, .int v_point])), (h_v_reversed, .inl (cB, n_v_reversed, .inl v_reversed_a)), (h_w1, .inr (4, [.ref h_w1_letters, .int w1_start, .int u_4.1])), (h_w1_letters, .inl (cC, n_w1_letters, .inl u_4.2))]) (wc := [(h_v, .inr (1, [.ref h_v_reversed, .int v_digitCount, .int v_point])), (h_v_reversed, .inl (cB, n_v_reversed, .inl v_reversed_a)), (h_w1, .inr (4, [.ref h_w1_letters, .int w1_start, .int u_2.1])), (h_w1_letters, .inl (cC, n_w1_letters, .inl u_2.2))]) (w' := [(h_v, .inr (1, [.ref h_v_reversed, .int v_digitCount, .int v_point])), (h_v_reversed, .inl (cB, n_v_reversed, .inl v_reversed_a)), (h_w1, .inr (4, [.ref h_w1_letters, .int w1_start, .int u_4.1])), (h_w1_letters, .inl (cC, n_w1_letters, .inl u_4.2))]) hP hD hS hA [0, 1, 2, 3] [] [0, 1, 2, 3] rfl rfl (by decide) (by decide) rfl (by decide) (va_runV (As := [.ref h_w1, .int 1, .int u_3]) (rest := []) ⟨hx, hb, hml, hown, hw⟩ (c_Dec_putDigits l dC dI cI cC cB cJ fu _ h_v h_v_reversed h_w1 h_w1_letters n_v_reversed n_w1_letters 1 u_3 v_digitCount v_point v_reversed_a w1_start u_2.1 u_2.2 u_4 hu_4) (cwV 3 hw (zg_V wd_422 wd_424 we_0_12 wd_7 wd_425) rfl rfl rfl hd_Dec_putDigits ⟨Nat.le_of_ble_eq_true rfl, Nat.le_of_ble_eq_true rfl⟩) (zz_preV zz_TE (va_recv (q0 := 0) (ci := 1) hK hP rfl rfl) hP hD hK hS hA trivial [0, 1, 2, 3] rfl (by decide)) rfl rfl hl.1 rfl (lv_room (Nat.le_of_ble_eq_true rfl)) d_Dec_putOn_42 ⟨Nat.zero_le _, Nat.zero_le _⟩) (fun H locs hP hD hS => ?_)
    refine lv_aload_n hx hb d_Dec_putOn_45 rfl (lv_at hl 1 rfl) ?_
    refine lv_bipush (v := 69) hx hb d_Dec_putOn_46 (by decide) ?_
    obtain ⟨u_5, hu_5, hf⟩ := zz_bd hf
    refine zz_cv (ws' := [(h_v, .inr (1, [.ref h_v_reversed, .int v_digitCount, .int v_point])), (h_v_reversed, .inl (cB, n_v_reversed, .inl v_reversed_a)), (h_w1, .inr (4, [.ref h_w1_letters, .int w1_start, .int u_5.1])), (h_w1_letters, .inl (cC, n_w1_letters, .inl u_5.2))]) (wc := [(h_w1, .inr (4, [.ref h_w1_letters, .int w1_start, .int u_4.1])), (h_w1_letters, .inl (cC, n_w1_letters, .inl u_4.2))]) (w' := [(h_w1, .inr (4, [.ref h_w1_letters, .int w1_start, .int u_5.1])), (h_w1_letters, .inl (cC, n_w1_letters, .inl u_5.2))]) hP hD hS hA [2, 3] [0, 1] [0, 1, 2, 3] rfl rfl (by decide) (by decide) rfl (by decide) (va_runV (As := [.int 69]) (rest := []) ⟨hx, hb, hml, hown, hw⟩ (c_Row_put l dC dI cI cC cB cJ _ h_w1 h_w1_letters n_w1_letters 69 w1_start u_4.1 u_4.2 u_5 hu_5) (cwV 1 hw (zg_V wd_430 wd_280 wd_281 wd_2 wd_282) rfl rfl rfl hd_Row_put ⟨Nat.le_of_ble_eq_true rfl, Nat.le_of_ble_eq_true rfl⟩) (zz_preV zz_TE (va_recv (q0 := 2) (ci := 4) hK hP rfl rfl) hP hD hK hS hA trivial [2, 3] rfl (by decide)) rfl rfl hl.1 rfl (lv_room (Nat.le_of_ble_eq_true rfl)) d_Dec_putOn_48 ⟨Nat.zero_le _, Nat.zero_le _⟩) (fun H locs hP hD hS => ?_)
    refine lv_aload_n hx hb d_Dec_putOn_51 rfl (lv_at hl 1 rfl) ?_
    refine lv_aload_n hx hb d_Dec_putOn_52 rfl (lv_at hl 0 rfl) ?_
    refine va_get (D := (dC, dI)) (ci := 1) (v := .int v_point) (C := R_Dec) (T := T_Dec) (N := 3) hx hb hw in_Dec hown hK hP 0 rfl rfl 2 (by decide) (hw _ wd_160) (fun _ h9 => h9) rfl d_Dec_putOn_53 ?_
    refine lv_iconst (v := 1) hx hb d_Dec_putOn_56 (by decide) ?_
    refine lv_isub hx hb d_Dec_putOn_57 ?_
    obtain ⟨u_6, hu_6, hf⟩ := zz_bd hf
    refine zz_cv (ws' := [(h_v, .inr (1, [.ref h_v_reversed, .int v_digitCount, .int v_point])), (h_v_reversed, .inl (cB, n_v_reversed, .inl v_reversed_a)), (h_w1, .inr (4, [.ref h_w1_letters, .int w1_start, .int u_6.1])), (h_w1_letters, .inl (cC, n_w1_letters, .inl u_6.2))]) (wc := [(h_w1, .inr (4, [.ref h_w1_letters, .int w1_start, .int u_5.1])), (h_w1_letters, .inl (cC, n_w1_letters, .inl u_5.2))]) (w' := [(h_w1, .inr (4, [.ref h_w1_letters, .int w1_start, .int u_6.1])), (h_w1_letters, .inl (cC, n_w1_letters, .inl u_6.2))]) hP hD hS hA [2, 3] [0, 1] [0, 1, 2, 3] rfl rfl (by decide) (by decide) rfl (by decide) (va_runS (As := [.ref h_w1, .int (v_point - 1)]) (rest := []) ⟨hx, hb, hml, hown, hw⟩ (c_Dec_putExponent l dC dI cI cC cB cJ fu _ h_w1 h_w1_letters n_w1_letters (v_point - 1) w1_start u_5.1 u_5.2 u_6 hu_6) (va_cwS 2 hw (zg_S wd_432 wd_433 wd_7 wd_434) rfl rfl rfl hd_Dec_putExponent ⟨Nat.le_of_ble_eq_true rfl, Nat.le_of_ble_eq_true rfl⟩) (zz_preS zz_TE hP hD hK hS hA trivial [2, 3] rfl (by decide)) rfl rfl hl.1 rfl (lv_room (Nat.le_of_ble_eq_true rfl)) d_Dec_putOn_58 ⟨Nat.zero_le _, Nat.zero_le _⟩) (fun H locs hP hD hS => ?_)
    refine lv_goto (tgt := 111) hx hb d_Dec_putOn_61 (by decide) ?_
    cases hf
    exact hend 111 ls _ _ d_Dec_putOn_111 hP hD hS
  unfold f_Dec_putOn at hf
  refine lv_aload_n hx hb d_Dec_putOn_0 rfl (lv_at hl 0 rfl) ?_
  refine va_get (D := (dC, dI)) (ci := 1) (v := .int v_point) (C := R_Dec) (T := T_Dec) (N := 3) hx hb hw in_Dec hown hK hP 0 rfl rfl 2 (by decide) (hw _ wd_160) (fun _ h9 => h9) rfl d_Dec_putOn_1 ?_
  refine lv_bipush (v := (-2)) hx hb d_Dec_putOn_4 (by decide) ?_
  refine lv_icmp_lt (tgt := 18) hx hb d_Dec_putOn_6 (by decide) (fun hc => ?_) (fun hc => ?_)
  · have hf := zz_ifp hc hf
    exact hL_18 w1_end w1_letters_a ls _ _ (lv_sub hl [0, 1] rfl) hP hD hS hf
  · have hf := zz_ifn hc hf
    refine lv_aload_n hx hb d_Dec_putOn_9 rfl (lv_at hl 0 rfl) ?_
    refine va_get (D := (dC, dI)) (ci := 1) (v := .int v_point) (C := R_Dec) (T := T_Dec) (N := 3) hx hb hw in_Dec hown hK hP 0 rfl rfl 2 (by decide) (hw _ wd_160) (fun _ h9 => h9) rfl d_Dec_putOn_10 ?_
    refine lv_bipush (v := 7) hx hb d_Dec_putOn_13 (by decide) ?_
    refine lv_icmp_le (tgt := 64) hx hb d_Dec_putOn_15 (by decide) (fun hc => ?_) (fun hc => ?_)
    · have hf := zz_ifp hc hf
      refine lv_aload_n hx hb d_Dec_putOn_64 rfl (lv_at hl 0 rfl) ?_
      refine lv_aload_n hx hb d_Dec_putOn_65 rfl (lv_at hl 1 rfl) ?_
      refine lv_aload_n hx hb d_Dec_putOn_66 rfl (lv_at hl 0 rfl) ?_
      refine va_get (D := (dC, dI)) (ci := 1) (v := .int v_point) (C := R_Dec) (T := T_Dec) (N := 3) hx hb hw in_Dec hown hK hP 0 rfl rfl 2 (by decide) (hw _ wd_160) (fun _ h9 => h9) rfl d_Dec_putOn_67 ?_
      refine lv_iconst (v := 1) hx hb d_Dec_putOn_70 (by decide) ?_
      refine lv_isub hx hb d_Dec_putOn_71 ?_
      refine lv_iconst (v := 0) hx hb d_Dec_putOn_72 (by decide) ?_
      obtain ⟨u_7, hu_7, hf⟩ := zz_bd hf
      refine zz_ci (ws' := [(h_v, .inr (1, [.ref h_v_reversed, .int v_digitCount, .int v_point])), (h_v_reversed, .inl (cB, n_v_reversed, .inl v_reversed_a)), (h_w1, .inr (4, [.ref h_w1_letters, .int w1_start, .int w1_end])), (h_w1_letters, .inl (cC, n_w1_letters, .inl w1_letters_a))]) (wc := []) (w' := []) hP hD hS hA [] [0, 1, 2, 3] [0, 1, 2, 3] rfl rfl (by decide) (by decide) rfl (by decide) (va_runS (As := [.int (v_point - 1), .int 0]) (rest := [.ref h_w1, .ref h_v]) ⟨hx, hb, hml, hown, hw⟩ (c_Mat_min l dC dI cI cC cB cJ _ (v_point - 1) 0 u_7 hu_7) (va_cwS 2 hw (zg_S wd_438 wd_364 wd_16 wd_365) rfl rfl rfl hd_Mat_min ⟨Nat.le_of_ble_eq_true rfl, Nat.le_of_ble_eq_true rfl⟩) (zz_preS zz_TE hP hD hK hS hA trivial [] rfl (by decide)) rfl rfl hl.1 rfl (lv_room (Nat.le_of_ble_eq_true rfl)) d_Dec_putOn_73 ⟨Nat.zero_le _, Nat.zero_le _⟩) (fun H locs hP hD hS => ?_)
      refine lv_aload_n hx hb d_Dec_putOn_76 rfl (lv_at hl 0 rfl) ?_
      refine va_get (D := (dC, dI)) (ci := 1) (v := .int v_point) (C := R_Dec) (T := T_Dec) (N := 3) hx hb hw in_Dec hown hK hP 0 rfl rfl 2 (by decide) (hw _ wd_160) (fun _ h9 => h9) rfl d_Dec_putOn_77 ?_
      obtain ⟨u_8, hu_8, hf⟩ := zz_bd hf
      refine zz_cv (ws' := [(h_v, .inr (1, [.ref h_v_reversed, .int v_digitCount, .int v_point])), (h_v_reversed, .inl (cB, n_v_reversed, .inl v_reversed_a)), (h_w1, .inr (4, [.ref h_w1_letters, .int w1_start, .int u_8.1])), (h_w1_letters, .inl (cC, n_w1_letters, .inl u_8.2))]) (wc := [(h_v, .inr (1, [.ref h_v_reversed, .int v_digitCount, .int v_point])), (h_v_reversed, .inl (cB, n_v_reversed, .inl v_reversed_a)), (h_w1, .inr (4, [.ref h_w1_letters, .int w1_start, .int w1_end])), (h_w1_letters, .inl (cC, n_w1_letters, .inl w1_letters_a))]) (w' := [(h_v, .inr (1, [.ref h_v_reversed, .int v_digitCount, .int v_point])), (h_v_reversed, .inl (cB, n_v_reversed, .inl v_reversed_a)), (h_w1, .inr (4, [.ref h_w1_letters, .int w1_start, .int u_8.1])), (h_w1_letters, .inl (cC, n_w1_letters, .inl u_8.2))]) hP hD hS hA [0, 1, 2, 3] [] [0, 1, 2, 3] rfl rfl (by decide) (by decide) rfl (by decide) (va_runV (As := [.ref h_w1, .int u_7, .int v_point]) (rest := []) ⟨hx, hb, hml, hown, hw⟩ (c_Dec_putDigits l dC dI cI cC cB cJ fu _ h_v h_v_reversed h_w1 h_w1_letters n_v_reversed n_w1_letters u_7 v_point v_digitCount v_point v_reversed_a w1_start w1_end w1_letters_a u_8 hu_8) (cwV 3 hw (zg_V wd_422 wd_424 we_0_12 wd_7 wd_425) rfl rfl rfl hd_Dec_putDigits ⟨Nat.le_of_ble_eq_true rfl, Nat.le_of_ble_eq_true rfl⟩) (zz_preV zz_TE (va_recv (q0 := 0) (ci := 1) hK hP rfl rfl) hP hD hK hS hA trivial [0, 1, 2, 3] rfl (by decide)) rfl rfl hl.1 rfl (lv_room (Nat.le_of_ble_eq_true rfl)) d_Dec_putOn_80 ⟨Nat.zero_le _, Nat.zero_le _⟩) (fun H locs hP hD hS => ?_)
      refine lv_aload_n hx hb d_Dec_putOn_83 rfl (lv_at hl 1 rfl) ?_
      refine lv_bipush (v := 46) hx hb d_Dec_putOn_84 (by decide) ?_
      obtain ⟨u_9, hu_9, hf⟩ := zz_bd hf
      refine zz_cv (ws' := [(h_v, .inr (1, [.ref h_v_reversed, .int v_digitCount, .int v_point])), (h_v_reversed, .inl (cB, n_v_reversed, .inl v_reversed_a)), (h_w1, .inr (4, [.ref h_w1_letters, .int w1_start, .int u_9.1])), (h_w1_letters, .inl (cC, n_w1_letters, .inl u_9.2))]) (wc := [(h_w1, .inr (4, [.ref h_w1_letters, .int w1_start, .int u_8.1])), (h_w1_letters, .inl (cC, n_w1_letters, .inl u_8.2))]) (w' := [(h_w1, .inr (4, [.ref h_w1_letters, .int w1_start, .int u_9.1])), (h_w1_letters, .inl (cC, n_w1_letters, .inl u_9.2))]) hP hD hS hA [2, 3] [0, 1] [0, 1, 2, 3] rfl rfl (by decide) (by decide) rfl (by decide) (va_runV (As := [.int 46]) (rest := []) ⟨hx, hb, hml, hown, hw⟩ (c_Row_put l dC dI cI cC cB cJ _ h_w1 h_w1_letters n_w1_letters 46 w1_start u_8.1 u_8.2 u_9 hu_9) (cwV 1 hw (zg_V wd_430 wd_280 wd_281 wd_2 wd_282) rfl rfl rfl hd_Row_put ⟨Nat.le_of_ble_eq_true rfl, Nat.le_of_ble_eq_true rfl⟩) (zz_preV zz_TE (va_recv (q0 := 2) (ci := 4) hK hP rfl rfl) hP hD hK hS hA trivial [2, 3] rfl (by decide)) rfl rfl hl.1 rfl (lv_room (Nat.le_of_ble_eq_true rfl)) d_Dec_putOn_86 ⟨Nat.zero_le _, Nat.zero_le _⟩) (fun H locs hP hD hS => ?_)
      refine lv_aload_n hx hb d_Dec_putOn_89 rfl (lv_at hl 0 rfl) ?_
      refine lv_aload_n hx hb d_Dec_putOn_90 rfl (lv_at hl 1 rfl) ?_
      refine lv_aload_n hx hb d_Dec_putOn_91 rfl (lv_at hl 0 rfl) ?_
      refine va_get (D := (dC, dI)) (ci := 1) (v := .int v_point) (C := R_Dec) (T := T_Dec) (N := 3) hx hb hw in_Dec hown hK hP 0 rfl rfl 2 (by decide) (hw _ wd_160) (fun _ h9 => h9) rfl d_Dec_putOn_92 ?_
      refine lv_aload_n hx hb d_Dec_putOn_95 rfl (lv_at hl 0 rfl) ?_
      refine va_get (D := (dC, dI)) (ci := 1) (v := .int v_digitCount) (C := R_Dec) (T := T_Dec) (N := 3) hx hb hw in_Dec hown hK hP 0 rfl rfl 1 (by decide) (hw _ wd_159) (fun _ h9 => h9) rfl d_Dec_putOn_96 ?_
      refine lv_aload_n hx hb d_Dec_putOn_99 rfl (lv_at hl 0 rfl) ?_
      refine va_get (D := (dC, dI)) (ci := 1) (v := .int v_point) (C := R_Dec) (T := T_Dec) (N := 3) hx hb hw in_Dec hown hK hP 0 rfl rfl 2 (by decide) (hw _ wd_160) (fun _ h9 => h9) rfl d_Dec_putOn_100 ?_
      refine lv_iconst (v := 1) hx hb d_Dec_putOn_103 (by decide) ?_
      refine lv_iadd hx hb d_Dec_putOn_104 ?_
      obtain ⟨u_10, hu_10, hf⟩ := zz_bd hf
      refine zz_ci (ws' := [(h_v, .inr (1, [.ref h_v_reversed, .int v_digitCount, .int v_point])), (h_v_reversed, .inl (cB, n_v_reversed, .inl v_reversed_a)), (h_w1, .inr (4, [.ref h_w1_letters, .int w1_start, .int u_9.1])), (h_w1_letters, .inl (cC, n_w1_letters, .inl u_9.2))]) (wc := []) (w' := []) hP hD hS hA [] [0, 1, 2, 3] [0, 1, 2, 3] rfl rfl (by decide) (by decide) rfl (by decide) (va_runS (As := [.int v_digitCount, .int (v_point + 1)]) (rest := [.int v_point, .ref h_w1, .ref h_v]) ⟨hx, hb, hml, hown, hw⟩ (c_Mat_max l dC dI cI cC cB cJ _ v_digitCount (v_point + 1) u_10 hu_10) (va_cwS 2 hw (zg_S wd_431 wd_316 wd_16 wd_317) rfl rfl rfl hd_Mat_max ⟨Nat.le_of_ble_eq_true rfl, Nat.le_of_ble_eq_true rfl⟩) (zz_preS zz_TE hP hD hK hS hA trivial [] rfl (by decide)) rfl rfl hl.1 rfl (lv_room (Nat.le_of_ble_eq_true rfl)) d_Dec_putOn_105 ⟨Nat.zero_le _, Nat.zero_le _⟩) (fun H locs hP hD hS => ?_)
      obtain ⟨u_11, hu_11, hf⟩ := zz_bd hf
      refine zz_cv (ws' := [(h_v, .inr (1, [.ref h_v_reversed, .int v_digitCount, .int v_point])), (h_v_reversed, .inl (cB, n_v_reversed, .inl v_reversed_a)), (h_w1, .inr (4, [.ref h_w1_letters, .int w1_start, .int u_11.1])), (h_w1_letters, .inl (cC, n_w1_letters, .inl u_11.2))]) (wc := [(h_v, .inr (1, [.ref h_v_reversed, .int v_digitCount, .int v_point])), (h_v_reversed, .inl (cB, n_v_reversed, .inl v_reversed_a)), (h_w1, .inr (4, [.ref h_w1_letters, .int w1_start, .int u_9.1])), (h_w1_letters, .inl (cC, n_w1_letters, .inl u_9.2))]) (w' := [(h_v, .inr (1, [.ref h_v_reversed, .int v_digitCount, .int v_point])), (h_v_reversed, .inl (cB, n_v_reversed, .inl v_reversed_a)), (h_w1, .inr (4, [.ref h_w1_letters, .int w1_start, .int u_11.1])), (h_w1_letters, .inl (cC, n_w1_letters, .inl u_11.2))]) hP hD hS hA [0, 1, 2, 3] [] [0, 1, 2, 3] rfl rfl (by decide) (by decide) rfl (by decide) (va_runV (As := [.ref h_w1, .int v_point, .int u_10]) (rest := []) ⟨hx, hb, hml, hown, hw⟩ (c_Dec_putDigits l dC dI cI cC cB cJ fu _ h_v h_v_reversed h_w1 h_w1_letters n_v_reversed n_w1_letters v_point u_10 v_digitCount v_point v_reversed_a w1_start u_9.1 u_9.2 u_11 hu_11) (cwV 3 hw (zg_V wd_422 wd_424 we_0_12 wd_7 wd_425) rfl rfl rfl hd_Dec_putDigits ⟨Nat.le_of_ble_eq_true rfl, Nat.le_of_ble_eq_true rfl⟩) (zz_preV zz_TE (va_recv (q0 := 0) (ci := 1) hK hP rfl rfl) hP hD hK hS hA trivial [0, 1, 2, 3] rfl (by decide)) rfl rfl hl.1 rfl (lv_room (Nat.le_of_ble_eq_true rfl)) d_Dec_putOn_108 ⟨Nat.zero_le _, Nat.zero_le _⟩) (fun H locs hP hD hS => ?_)
      cases hf
      exact hend 111 ls _ _ d_Dec_putOn_111 hP hD hS
    · have hf := zz_ifn hc hf
      exact hL_18 w1_end w1_letters_a ls _ _ (lv_sub hl [0, 1] rfl) hP hD hS hf
