abbrev ws_Mod_thrown : List Cond := .code y_Mod_thrown prog_10_method_2_code 1 (some .int) :: zw
abbrev rm_Mod_thrown : Room := { frames := 0, cells := 0, slots := 0, locals := 0 }
theorem hd_Mod_thrown : y_Mod_thrown.cls = "RealTextModel" ∧ y_Mod_thrown.cls ≠ "java/lang/invoke/MethodHandle" ∧ y_Mod_thrown.cls ≠ "java/lang/invoke/VarHandle" ∧ (parseMethodDescriptor y_Mod_thrown.desc).map (fun d => d.parameters.length) = some 0 := by decide +kernel
theorem d_Mod_thrown_0 : decode prog_10_method_2_code 0 = .ok (.aload_n 0, 1) := by decide +kernel
theorem d_Mod_thrown_1 : decode prog_10_method_2_code 1 = .ok (.getfield 34, 3) := by decide +kernel
theorem d_Mod_thrown_4 : decode prog_10_method_2_code 4 = .ok (.ireturn, 1) := by decide +kernel
def f_Mod_thrown (v_thrown : Int32) : Option (Int32) :=
  some (v_thrown)
set_option maxHeartbeats 4000000 in
set_option maxRecDepth 100000 in
theorem c_Mod_thrown (l : Launch) (dC : Nat → ClassId) (dI : Nat → Nat → Nat) (cI cC cB cJ : ClassId) (sz : Nat) (h_v : Nat) (h_v_text : Nat) (h_v_written : Nat) (h_v_a : Nat) (h_v_b : Nat) (h_v_five : Nat) (h_v_left : Nat) (h_v_right : Nat) (h_v_part : Nat) (v_length : Int32) (v_laid : Int32) (v_gone : Int32) (v_thrown : Int32) (v_were : Int32) (v_none : Int32) (v_beyond : Int32) (v_aMany : Int32) (v_bMany : Int32) (v_fiveMany : Int32) (v_leftMany : Int32) (v_rightMany : Int32) (v_partMany : Int32) (v_twos : Int32) (v_at : Int32) (v_digits : Int32) (v_power : Int32) (v_good : Int32) (u : Int32) (hf : f_Mod_thrown v_thrown = some u) : Met l y_Mod_thrown ws_Mod_thrown rm_Mod_thrown (zz_P zz_T (dC, dI) vwCl (zz_tys cI cC cB cJ) [.ref h_v] [(h_v, .inr (7, [.ref h_v_text, .ref h_v_written, .int v_length, .int v_laid, .int v_gone, .int v_thrown, .int v_were, .int v_none, .int v_beyond, .ref h_v_a, .ref h_v_b, .ref h_v_five, .ref h_v_left, .ref h_v_right, .ref h_v_part, .int v_aMany, .int v_bMany, .int v_fiveMany, .int v_leftMany, .int v_rightMany, .int v_partMany, .int v_twos, .int v_at, .int v_digits, .int v_power, .int v_good]))] sz) (zz_Qi (dC, dI) vwCl u [(h_v, .inr (7, [.ref h_v_text, .ref h_v_written, .int v_length, .int v_laid, .int v_gone, .int v_thrown, .int v_were, .int v_none, .int v_beyond, .ref h_v_a, .ref h_v_b, .ref h_v_five, .ref h_v_left, .ref h_v_right, .ref h_v_part, .int v_aMany, .int v_bMany, .int v_fiveMany, .int v_leftMany, .int v_rightMany, .int v_partMany, .int v_twos, .int v_at, .int v_digits, .int v_power, .int v_good]))] (va_A [(h_v, .inr (7, [.ref h_v_text, .ref h_v_written, .int v_length, .int v_laid, .int v_gone, .int v_thrown, .int v_were, .int v_none, .int v_beyond, .ref h_v_a, .ref h_v_b, .ref h_v_five, .ref h_v_left, .ref h_v_right, .ref h_v_part, .int v_aMany, .int v_bMany, .int v_fiveMany, .int v_leftMany, .int v_rightMany, .int v_partMany, .int v_twos, .int v_at, .int v_digits, .int v_power, .int v_good]))] sz)) 0 0 (va_A [(h_v, .inr (7, [.ref h_v_text, .ref h_v_written, .int v_length, .int v_laid, .int v_gone, .int v_thrown, .int v_were, .int v_none, .int v_beyond, .ref h_v_a, .ref h_v_b, .ref h_v_five, .ref h_v_left, .ref h_v_right, .ref h_v_part, .int v_aMany, .int v_bMany, .int v_fiveMany, .int v_leftMany, .int v_rightMany, .int v_partMany, .int v_twos, .int v_at, .int v_digits, .int v_power, .int v_good]))] sz) := by
  refine Met.ofW (cc := prog_10_method_2_code) (maxL := 1) (ret := (some .int)) (by decide +kernel) rfl ?_
  intro p e s m args below meth c s₁ B hml hv
  obtain ⟨rfl, hsz, hP, hK, hD0, hX⟩ := hv
  have hx := B.exec
  have hb := B.bytes
  have hr := B.returns
  have hts := atoms_spec (ws := ws_Mod_thrown) B.pre
  have hw : ∀ w ∈ zw, w.before [.ref h_v].toArray s = true := fun w h => hts w (List.mem_cons_of_mem _ h)
  have hown : s.vm.findClass R_Mod = some m.cls := findClass_of_methodNamed B.named
  have hlocks := B.notSynchronized
  subst hsz
  have hD := hD0.self (sz := s.heap.size)
  generalize hAe : va_A [(h_v, .inr (7, [.ref h_v_text, .ref h_v_written, .int v_length, .int v_laid, .int v_gone, .int v_thrown, .int v_were, .int v_none, .int v_beyond, .ref h_v_a, .ref h_v_b, .ref h_v_five, .ref h_v_left, .ref h_v_right, .ref h_v_part, .int v_aMany, .int v_bMany, .int v_fiveMany, .int v_leftMany, .int v_rightMany, .int v_partMany, .int v_twos, .int v_at, .int v_digits, .int v_power, .int v_good]))] s.heap.size = A at hD hX ⊢
  have hA : ∀ q : Nat, s.heap.size ≤ q → A q := fun q h => by rw [← hAe]; exact Or.inr h
  have hS : va_S A s.heap s.heap [] := va_S.rf
  have hl := lv_entry [.ref h_v] (n := 1) (Nat.le_of_ble_eq_true rfl)
  rw [lg_entry_eq]
  generalize (lg_sl [.ref h_v] ++ List.replicate (1 - (lg_sl [.ref h_v]).length) Slot.unset).toArray = ls at hl ⊢
  have hl : lv_has ls 1 [(0, .ref h_v)] := hl
  refine zz_endi hx hb hr hlocks (fun Qq hend => ?_)
  unfold f_Mod_thrown at hf
  refine lv_aload_n hx hb d_Mod_thrown_0 rfl (lv_at hl 0 rfl) ?_
  refine va_get (D := (dC, dI)) (ci := 7) (v := .int v_thrown) (C := R_Mod) (T := T_Mod) (N := 26) hx hb hw in_Mod hown hK hP 0 rfl rfl 5 (by decide) (hw _ wd_679) (fun _ h9 => h9) rfl d_Mod_thrown_1 ?_
  cases hf
  exact hend 4 ls _ _ d_Mod_thrown_4 hP hD hS
abbrev ws_Mod_in : List Cond := .code y_Mod_in prog_10_method_3_code 3 (some .boolean) :: zw
abbrev rm_Mod_in : Room := { frames := 0, cells := 0, slots := 0, locals := 0 }
theorem hd_Mod_in : y_Mod_in.cls ≠ "java/lang/invoke/MethodHandle" ∧ y_Mod_in.cls ≠ "java/lang/invoke/VarHandle" ∧ (parseMethodDescriptor y_Mod_in.desc).map (fun d => d.parameters.length) = some 3 := by decide +kernel
theorem d_Mod_in_0 : decode prog_10_method_3_code 0 = .ok (.iload_n 0, 1) := by decide +kernel
theorem d_Mod_in_1 : decode prog_10_method_3_code 1 = .ok (.iload_n 1, 1) := by decide +kernel
theorem d_Mod_in_2 : decode prog_10_method_3_code 2 = .ok (.if_icmp .lt 12, 3) := by decide +kernel
theorem d_Mod_in_5 : decode prog_10_method_3_code 5 = .ok (.iload_n 0, 1) := by decide +kernel
theorem d_Mod_in_6 : decode prog_10_method_3_code 6 = .ok (.iload_n 2, 1) := by decide +kernel
theorem d_Mod_in_7 : decode prog_10_method_3_code 7 = .ok (.if_icmp .gt 7, 3) := by decide +kernel
theorem d_Mod_in_10 : decode prog_10_method_3_code 10 = .ok (.iconst 1, 1) := by decide +kernel
theorem d_Mod_in_11 : decode prog_10_method_3_code 11 = .ok (.goto 4, 3) := by decide +kernel
theorem d_Mod_in_14 : decode prog_10_method_3_code 14 = .ok (.iconst 0, 1) := by decide +kernel
theorem d_Mod_in_15 : decode prog_10_method_3_code 15 = .ok (.ireturn, 1) := by decide +kernel
def f_Mod_in (x0 : Int32) (x1 : Int32) (x2 : Int32) : Option (Int32) :=
  (if x0 < x1 then
  some (0)
  else
  (if x2 < x0 then
  some (0)
  else
  some (1)))
set_option maxHeartbeats 4000000 in
set_option maxRecDepth 100000 in
theorem c_Mod_in (l : Launch) (dC : Nat → ClassId) (dI : Nat → Nat → Nat) (cI cC cB cJ : ClassId) (sz : Nat) (x0 : Int32) (x1 : Int32) (x2 : Int32) (u : Int32) (hf : f_Mod_in x0 x1 x2 = some u) : Met l y_Mod_in ws_Mod_in rm_Mod_in (zz_P zz_T (dC, dI) vwCl (zz_tys cI cC cB cJ) [.int x0, .int x1, .int x2] [] sz) (zz_Qi (dC, dI) vwCl u [] (va_A [] sz)) 0 0 (va_A [] sz) := by
  refine Met.ofW (cc := prog_10_method_3_code) (maxL := 3) (ret := (some .boolean)) (by decide +kernel) rfl ?_
  intro p e s m args below meth c s₁ B hml hv
  obtain ⟨rfl, hsz, hP, hK, hD0, hX⟩ := hv
  have hx := B.exec
  have hb := B.bytes
  have hr := B.returns
  have hts := atoms_spec (ws := ws_Mod_in) B.pre
  have hw : ∀ w ∈ zw, w.before [.int x0, .int x1, .int x2].toArray s = true := fun w h => hts w (List.mem_cons_of_mem _ h)
  have hown : s.vm.findClass R_Mod = some m.cls := findClass_of_methodNamed B.named
  have hlocks := B.notSynchronized
  subst hsz
  have hD := hD0.self (sz := s.heap.size)
  generalize hAe : va_A [] s.heap.size = A at hD hX ⊢
  have hA : ∀ q : Nat, s.heap.size ≤ q → A q := fun q h => by rw [← hAe]; exact Or.inr h
  have hS : va_S A s.heap s.heap [] := va_S.rf
  have hl := lv_entry [.int x0, .int x1, .int x2] (n := 3) (Nat.le_of_ble_eq_true rfl)
  rw [lg_entry_eq]
  generalize (lg_sl [.int x0, .int x1, .int x2] ++ List.replicate (3 - (lg_sl [.int x0, .int x1, .int x2]).length) Slot.unset).toArray = ls at hl ⊢
  have hl : lv_has ls 3 [(0, .int x0), (1, .int x1), (2, .int x2)] := hl
  refine zz_endz hx hb hr hlocks (fun Qq hend => ?_)
  unfold f_Mod_in at hf
  refine lv_iload_n hx hb d_Mod_in_0 rfl (lv_at hl 0 rfl) ?_
  refine lv_iload_n hx hb d_Mod_in_1 rfl (lv_at hl 1 rfl) ?_
  refine lv_icmp_lt (tgt := 14) hx hb d_Mod_in_2 (by decide) (fun hc => ?_) (fun hc => ?_)
  · have hf := zz_ifp hc hf
    refine lv_iconst (v := 0) hx hb d_Mod_in_14 (by decide) ?_
    cases hf
    exact hend 15 ls _ _ narrow_b0 d_Mod_in_15 hP hD hS
  · have hf := zz_ifn hc hf
    refine lv_iload_n hx hb d_Mod_in_5 rfl (lv_at hl 0 rfl) ?_
    refine lv_iload_n hx hb d_Mod_in_6 rfl (lv_at hl 2 rfl) ?_
    refine lv_icmp_gt (tgt := 14) hx hb d_Mod_in_7 (by decide) (fun hc => ?_) (fun hc => ?_)
    · have hf := zz_ifp hc hf
      refine lv_iconst (v := 0) hx hb d_Mod_in_14 (by decide) ?_
      cases hf
      exact hend 15 ls _ _ narrow_b0 d_Mod_in_15 hP hD hS
    · have hf := zz_ifn hc hf
      refine lv_iconst (v := 1) hx hb d_Mod_in_10 (by decide) ?_
      refine lv_goto (tgt := 15) hx hb d_Mod_in_11 (by decide) ?_
      cases hf
      exact hend 15 ls _ _ narrow_b1 d_Mod_in_15 hP hD hS
abbrev ws_Mod_fail : List Cond := .code y_Mod_fail prog_10_method_4_code 2 (some .int) :: zw
abbrev rm_Mod_fail : Room := { frames := 0, cells := 0, slots := 0, locals := 0 }
theorem hd_Mod_fail : y_Mod_fail.cls = "RealTextModel" ∧ y_Mod_fail.cls ≠ "java/lang/invoke/MethodHandle" ∧ y_Mod_fail.cls ≠ "java/lang/invoke/VarHandle" ∧ (parseMethodDescriptor y_Mod_fail.desc).map (fun d => d.parameters.length) = some 1 := by decide +kernel
theorem d_Mod_fail_0 : decode prog_10_method_4_code 0 = .ok (.aload_n 0, 1) := by decide +kernel
theorem d_Mod_fail_1 : decode prog_10_method_4_code 1 = .ok (.iload_n 1, 1) := by decide +kernel
theorem d_Mod_fail_2 : decode prog_10_method_4_code 2 = .ok (.putfield 34, 3) := by decide +kernel
theorem d_Mod_fail_5 : decode prog_10_method_4_code 5 = .ok (.iconst 0, 1) := by decide +kernel
theorem d_Mod_fail_6 : decode prog_10_method_4_code 6 = .ok (.ireturn, 1) := by decide +kernel
def f_Mod_fail (x1 : Int32) (v_thrown : Int32) : Option (Int32 × Int32) :=
  some (0, x1)
set_option maxHeartbeats 4000000 in
set_option maxRecDepth 100000 in
theorem c_Mod_fail (l : Launch) (dC : Nat → ClassId) (dI : Nat → Nat → Nat) (cI cC cB cJ : ClassId) (sz : Nat) (h_v : Nat) (h_v_text : Nat) (h_v_written : Nat) (h_v_a : Nat) (h_v_b : Nat) (h_v_five : Nat) (h_v_left : Nat) (h_v_right : Nat) (h_v_part : Nat) (x1 : Int32) (v_length : Int32) (v_laid : Int32) (v_gone : Int32) (v_thrown : Int32) (v_were : Int32) (v_none : Int32) (v_beyond : Int32) (v_aMany : Int32) (v_bMany : Int32) (v_fiveMany : Int32) (v_leftMany : Int32) (v_rightMany : Int32) (v_partMany : Int32) (v_twos : Int32) (v_at : Int32) (v_digits : Int32) (v_power : Int32) (v_good : Int32) (u : Int32 × Int32) (hf : f_Mod_fail x1 v_thrown = some u) : Met l y_Mod_fail ws_Mod_fail rm_Mod_fail (zz_P zz_T (dC, dI) vwCl (zz_tys cI cC cB cJ) [.ref h_v, .int x1] [(h_v, .inr (7, [.ref h_v_text, .ref h_v_written, .int v_length, .int v_laid, .int v_gone, .int v_thrown, .int v_were, .int v_none, .int v_beyond, .ref h_v_a, .ref h_v_b, .ref h_v_five, .ref h_v_left, .ref h_v_right, .ref h_v_part, .int v_aMany, .int v_bMany, .int v_fiveMany, .int v_leftMany, .int v_rightMany, .int v_partMany, .int v_twos, .int v_at, .int v_digits, .int v_power, .int v_good]))] sz) (zz_Qi (dC, dI) vwCl u.1 [(h_v, .inr (7, [.ref h_v_text, .ref h_v_written, .int v_length, .int v_laid, .int v_gone, .int u.2, .int v_were, .int v_none, .int v_beyond, .ref h_v_a, .ref h_v_b, .ref h_v_five, .ref h_v_left, .ref h_v_right, .ref h_v_part, .int v_aMany, .int v_bMany, .int v_fiveMany, .int v_leftMany, .int v_rightMany, .int v_partMany, .int v_twos, .int v_at, .int v_digits, .int v_power, .int v_good]))] (va_A [(h_v, .inr (7, [.ref h_v_text, .ref h_v_written, .int v_length, .int v_laid, .int v_gone, .int v_thrown, .int v_were, .int v_none, .int v_beyond, .ref h_v_a, .ref h_v_b, .ref h_v_five, .ref h_v_left, .ref h_v_right, .ref h_v_part, .int v_aMany, .int v_bMany, .int v_fiveMany, .int v_leftMany, .int v_rightMany, .int v_partMany, .int v_twos, .int v_at, .int v_digits, .int v_power, .int v_good]))] sz)) 0 0 (va_A [(h_v, .inr (7, [.ref h_v_text, .ref h_v_written, .int v_length, .int v_laid, .int v_gone, .int v_thrown, .int v_were, .int v_none, .int v_beyond, .ref h_v_a, .ref h_v_b, .ref h_v_five, .ref h_v_left, .ref h_v_right, .ref h_v_part, .int v_aMany, .int v_bMany, .int v_fiveMany, .int v_leftMany, .int v_rightMany, .int v_partMany, .int v_twos, .int v_at, .int v_digits, .int v_power, .int v_good]))] sz) := by
  refine Met.ofW (cc := prog_10_method_4_code) (maxL := 2) (ret := (some .int)) (by decide +kernel) rfl ?_
  intro p e s m args below meth c s₁ B hml hv
  obtain ⟨rfl, hsz, hP, hK, hD0, hX⟩ := hv
  have hx := B.exec
  have hb := B.bytes
  have hr := B.returns
  have hts := atoms_spec (ws := ws_Mod_fail) B.pre
  have hw : ∀ w ∈ zw, w.before [.ref h_v, .int x1].toArray s = true := fun w h => hts w (List.mem_cons_of_mem _ h)
  have hown : s.vm.findClass R_Mod = some m.cls := findClass_of_methodNamed B.named
  have hlocks := B.notSynchronized
  subst hsz
  have hD := hD0.self (sz := s.heap.size)
  generalize hAe : va_A [(h_v, .inr (7, [.ref h_v_text, .ref h_v_written, .int v_length, .int v_laid, .int v_gone, .int v_thrown, .int v_were, .int v_none, .int v_beyond, .ref h_v_a, .ref h_v_b, .ref h_v_five, .ref h_v_left, .ref h_v_right, .ref h_v_part, .int v_aMany, .int v_bMany, .int v_fiveMany, .int v_leftMany, .int v_rightMany, .int v_partMany, .int v_twos, .int v_at, .int v_digits, .int v_power, .int v_good]))] s.heap.size = A at hD hX ⊢
  have hA : ∀ q : Nat, s.heap.size ≤ q → A q := fun q h => by rw [← hAe]; exact Or.inr h
  have hS : va_S A s.heap s.heap [] := va_S.rf
  have hl := lv_entry [.ref h_v, .int x1] (n := 2) (Nat.le_of_ble_eq_true rfl)
  rw [lg_entry_eq]
  generalize (lg_sl [.ref h_v, .int x1] ++ List.replicate (2 - (lg_sl [.ref h_v, .int x1]).length) Slot.unset).toArray = ls at hl ⊢
  have hl : lv_has ls 2 [(0, .ref h_v), (1, .int x1)] := hl
  refine zz_endi hx hb hr hlocks (fun Qq hend => ?_)
  unfold f_Mod_fail at hf
  refine lv_aload_n hx hb d_Mod_fail_0 rfl (lv_at hl 0 rfl) ?_
  refine lv_iload_n hx hb d_Mod_fail_1 rfl (lv_at hl 1 rfl) ?_
  refine va_put (D := (dC, dI)) (ci := 7) (v := .int x1) (ty := .int) (C := R_Mod) (T := T_Mod) (N := 26) hx hb hw in_Mod ty_Mod tyok_Mod nm_Mod hown hK hP hD hS 0 rfl rfl 5 (by decide) (hw _ wd_679) (fun _ h9 => h9) rfl (tyok_Mod 5 (by decide)) rfl rfl (Nat.le_of_ble_eq_true rfl) d_Mod_fail_2 (fun H locs hP hD hS => ?_)
  have hP : va_P (dC, dI) vwCl [(h_v, .inr (7, [.ref h_v_text, .ref h_v_written, .int v_length, .int v_laid, .int v_gone, .int x1, .int v_were, .int v_none, .int v_beyond, .ref h_v_a, .ref h_v_b, .ref h_v_five, .ref h_v_left, .ref h_v_right, .ref h_v_part, .int v_aMany, .int v_bMany, .int v_fiveMany, .int v_leftMany, .int v_rightMany, .int v_partMany, .int v_twos, .int v_at, .int v_digits, .int v_power, .int v_good]))] H := hP
  have hD : va_D A [(h_v, .inr (7, [.ref h_v_text, .ref h_v_written, .int v_length, .int v_laid, .int v_gone, .int x1, .int v_were, .int v_none, .int v_beyond, .ref h_v_a, .ref h_v_b, .ref h_v_five, .ref h_v_left, .ref h_v_right, .ref h_v_part, .int v_aMany, .int v_bMany, .int v_fiveMany, .int v_leftMany, .int v_rightMany, .int v_partMany, .int v_twos, .int v_at, .int v_digits, .int v_power, .int v_good]))] := hD
  refine lv_iconst (v := 0) hx hb d_Mod_fail_5 (by decide) ?_
  cases hf
  exact hend 6 ls _ _ d_Mod_fail_6 hP hD hS
abbrev ws_Mod_text : List Cond := .code y_Mod_text prog_10_method_5_code 6 (some .int) :: zw
abbrev rm_Mod_text : Room := { frames := 1, cells := 0, slots := 0, locals := 22 }
theorem hd_Mod_text : y_Mod_text.cls = "RealTextModel" ∧ y_Mod_text.cls ≠ "java/lang/invoke/MethodHandle" ∧ y_Mod_text.cls ≠ "java/lang/invoke/VarHandle" ∧ (parseMethodDescriptor y_Mod_text.desc).map (fun d => d.parameters.length) = some 1 := by decide +kernel
theorem d_Mod_text_0 : decode prog_10_method_5_code 0 = .ok (.iconst 0, 1) := by decide +kernel
theorem d_Mod_text_1 : decode prog_10_method_5_code 1 = .ok (.istore_n 3, 1) := by decide +kernel
theorem d_Mod_text_2 : decode prog_10_method_5_code 2 = .ok (.bipush 56, 2) := by decide +kernel
theorem d_Mod_text_4 : decode prog_10_method_5_code 4 = .ok (.istore 4, 2) := by decide +kernel
theorem d_Mod_text_6 : decode prog_10_method_5_code 6 = .ok (.iload 4, 2) := by decide +kernel
theorem d_Mod_text_8 : decode prog_10_method_5_code 8 = .ok (.ifCond .lt 51, 3) := by decide +kernel
theorem d_Mod_text_11 : decode prog_10_method_5_code 11 = .ok (.lload_n 1, 1) := by decide +kernel
theorem d_Mod_text_12 : decode prog_10_method_5_code 12 = .ok (.iload 4, 2) := by decide +kernel
theorem d_Mod_text_14 : decode prog_10_method_5_code 14 = .ok (.lshr, 1) := by decide +kernel
theorem d_Mod_text_15 : decode prog_10_method_5_code 15 = .ok (.l2i, 1) := by decide +kernel
theorem d_Mod_text_16 : decode prog_10_method_5_code 16 = .ok (.sipush 255, 3) := by decide +kernel
theorem d_Mod_text_19 : decode prog_10_method_5_code 19 = .ok (.iand, 1) := by decide +kernel
theorem d_Mod_text_20 : decode prog_10_method_5_code 20 = .ok (.istore 5, 2) := by decide +kernel
theorem d_Mod_text_22 : decode prog_10_method_5_code 22 = .ok (.iload 5, 2) := by decide +kernel
theorem d_Mod_text_24 : decode prog_10_method_5_code 24 = .ok (.ifCond .eq 21, 3) := by decide +kernel
theorem d_Mod_text_27 : decode prog_10_method_5_code 27 = .ok (.iload 5, 2) := by decide +kernel
theorem d_Mod_text_29 : decode prog_10_method_5_code 29 = .ok (.bipush 32, 2) := by decide +kernel
theorem d_Mod_text_31 : decode prog_10_method_5_code 31 = .ok (.bipush 126, 2) := by decide +kernel
theorem d_Mod_text_33 : decode prog_10_method_5_code 33 = .ok (.invokestatic 38, 3) := by decide +kernel
theorem d_Mod_text_36 : decode prog_10_method_5_code 36 = .ok (.ifCond .ne 9, 3) := by decide +kernel
theorem d_Mod_text_39 : decode prog_10_method_5_code 39 = .ok (.aload_n 0, 1) := by decide +kernel
theorem d_Mod_text_40 : decode prog_10_method_5_code 40 = .ok (.iconst 1, 1) := by decide +kernel
theorem d_Mod_text_41 : decode prog_10_method_5_code 41 = .ok (.invokevirtual 42, 3) := by decide +kernel
theorem d_Mod_text_44 : decode prog_10_method_5_code 44 = .ok (.ireturn, 1) := by decide +kernel
theorem d_Mod_text_45 : decode prog_10_method_5_code 45 = .ok (.iload 5, 2) := by decide +kernel
theorem d_Mod_text_47 : decode prog_10_method_5_code 47 = .ok (.ifCond .eq 6, 3) := by decide +kernel
theorem d_Mod_text_50 : decode prog_10_method_5_code 50 = .ok (.iinc 3 1, 3) := by decide +kernel
theorem d_Mod_text_53 : decode prog_10_method_5_code 53 = .ok (.iinc 4 (-8), 3) := by decide +kernel
theorem d_Mod_text_56 : decode prog_10_method_5_code 56 = .ok (.goto (-50), 3) := by decide +kernel
theorem d_Mod_text_59 : decode prog_10_method_5_code 59 = .ok (.aload_n 0, 1) := by decide +kernel
theorem d_Mod_text_60 : decode prog_10_method_5_code 60 = .ok (.getfield 46, 3) := by decide +kernel
theorem d_Mod_text_63 : decode prog_10_method_5_code 63 = .ok (.iload_n 3, 1) := by decide +kernel
theorem d_Mod_text_64 : decode prog_10_method_5_code 64 = .ok (.iadd, 1) := by decide +kernel
theorem d_Mod_text_65 : decode prog_10_method_5_code 65 = .ok (.sipush 1200, 3) := by decide +kernel
theorem d_Mod_text_68 : decode prog_10_method_5_code 68 = .ok (.if_icmp .le 9, 3) := by decide +kernel
theorem d_Mod_text_71 : decode prog_10_method_5_code 71 = .ok (.aload_n 0, 1) := by decide +kernel
theorem d_Mod_text_72 : decode prog_10_method_5_code 72 = .ok (.iconst 2, 1) := by decide +kernel
theorem d_Mod_text_73 : decode prog_10_method_5_code 73 = .ok (.invokevirtual 42, 3) := by decide +kernel
theorem d_Mod_text_76 : decode prog_10_method_5_code 76 = .ok (.ireturn, 1) := by decide +kernel
theorem d_Mod_text_77 : decode prog_10_method_5_code 77 = .ok (.aload_n 0, 1) := by decide +kernel
theorem d_Mod_text_78 : decode prog_10_method_5_code 78 = .ok (.iconst 0, 1) := by decide +kernel
theorem d_Mod_text_79 : decode prog_10_method_5_code 79 = .ok (.putfield 34, 3) := by decide +kernel
theorem d_Mod_text_82 : decode prog_10_method_5_code 82 = .ok (.bipush 56, 2) := by decide +kernel
theorem d_Mod_text_84 : decode prog_10_method_5_code 84 = .ok (.istore 4, 2) := by decide +kernel
theorem d_Mod_text_86 : decode prog_10_method_5_code 86 = .ok (.iload 4, 2) := by decide +kernel
theorem d_Mod_text_88 : decode prog_10_method_5_code 88 = .ok (.ifCond .lt 46, 3) := by decide +kernel
theorem d_Mod_text_91 : decode prog_10_method_5_code 91 = .ok (.lload_n 1, 1) := by decide +kernel
theorem d_Mod_text_92 : decode prog_10_method_5_code 92 = .ok (.iload 4, 2) := by decide +kernel
theorem d_Mod_text_94 : decode prog_10_method_5_code 94 = .ok (.lshr, 1) := by decide +kernel
theorem d_Mod_text_95 : decode prog_10_method_5_code 95 = .ok (.l2i, 1) := by decide +kernel
theorem d_Mod_text_96 : decode prog_10_method_5_code 96 = .ok (.sipush 255, 3) := by decide +kernel
theorem d_Mod_text_99 : decode prog_10_method_5_code 99 = .ok (.iand, 1) := by decide +kernel
theorem d_Mod_text_100 : decode prog_10_method_5_code 100 = .ok (.istore 5, 2) := by decide +kernel
theorem d_Mod_text_102 : decode prog_10_method_5_code 102 = .ok (.iload 5, 2) := by decide +kernel
theorem d_Mod_text_104 : decode prog_10_method_5_code 104 = .ok (.ifCond .eq 24, 3) := by decide +kernel
theorem d_Mod_text_107 : decode prog_10_method_5_code 107 = .ok (.aload_n 0, 1) := by decide +kernel
theorem d_Mod_text_108 : decode prog_10_method_5_code 108 = .ok (.getfield 7, 3) := by decide +kernel
theorem d_Mod_text_111 : decode prog_10_method_5_code 111 = .ok (.aload_n 0, 1) := by decide +kernel
theorem d_Mod_text_112 : decode prog_10_method_5_code 112 = .ok (.getfield 46, 3) := by decide +kernel
theorem d_Mod_text_115 : decode prog_10_method_5_code 115 = .ok (.iload 5, 2) := by decide +kernel
theorem d_Mod_text_117 : decode prog_10_method_5_code 117 = .ok (.iastore, 1) := by decide +kernel
theorem d_Mod_text_118 : decode prog_10_method_5_code 118 = .ok (.aload_n 0, 1) := by decide +kernel
theorem d_Mod_text_119 : decode prog_10_method_5_code 119 = .ok (.dup, 1) := by decide +kernel
theorem d_Mod_text_120 : decode prog_10_method_5_code 120 = .ok (.getfield 46, 3) := by decide +kernel
theorem d_Mod_text_123 : decode prog_10_method_5_code 123 = .ok (.iconst 1, 1) := by decide +kernel
theorem d_Mod_text_124 : decode prog_10_method_5_code 124 = .ok (.iadd, 1) := by decide +kernel
theorem d_Mod_text_125 : decode prog_10_method_5_code 125 = .ok (.putfield 46, 3) := by decide +kernel
theorem d_Mod_text_128 : decode prog_10_method_5_code 128 = .ok (.iinc 4 (-8), 3) := by decide +kernel
theorem d_Mod_text_131 : decode prog_10_method_5_code 131 = .ok (.goto (-45), 3) := by decide +kernel
theorem d_Mod_text_134 : decode prog_10_method_5_code 134 = .ok (.aload_n 0, 1) := by decide +kernel
theorem d_Mod_text_135 : decode prog_10_method_5_code 135 = .ok (.getfield 46, 3) := by decide +kernel
theorem d_Mod_text_138 : decode prog_10_method_5_code 138 = .ok (.ireturn, 1) := by decide +kernel
def f_Mod_text_86 (fu : Nat) (n_v_text : Nat) (x1 : Int64)  : Nat → Int32 → Int32 → Int32 → (Nat → Int32) → Option (Int32 × Int32 × Int32 × (Nat → Int32))
  | 0, _, _, _, _ => none
  | n + 1, y4, v_length, v_thrown, v_text_a =>
  (if y4 < 0 then
  some (v_length, v_length, v_thrown, v_text_a)
  else
  zz_lt (((x1 >>> (y4.toInt64 &&& 63)).toInt32) &&& 255) fun x5_1 =>
  (if x5_1 = 0 then
  f_Mod_text_86 fu n_v_text x1 n (y4 + (-8)) v_length v_thrown v_text_a
  else
  if zz_in v_length n_v_text = true then
  f_Mod_text_86 fu n_v_text x1 n (y4 + (-8)) (v_length + 1) v_thrown (upd v_text_a v_length.toNatClampNeg x5_1)
  else none))
theorem f_Mod_text_86_s (fu : Nat) (n_v_text : Nat) (x1 : Int64)  (n : Nat) (y4 : Int32) (v_length : Int32) (v_thrown : Int32) (v_text_a : Nat → Int32) : f_Mod_text_86 fu n_v_text x1 (n + 1) y4 v_length v_thrown v_text_a =
  (if y4 < 0 then
  some (v_length, v_length, v_thrown, v_text_a)
  else
  zz_lt (((x1 >>> (y4.toInt64 &&& 63)).toInt32) &&& 255) fun x5_1 =>
  (if x5_1 = 0 then
  f_Mod_text_86 fu n_v_text x1 n (y4 + (-8)) v_length v_thrown v_text_a
  else
  if zz_in v_length n_v_text = true then
  f_Mod_text_86 fu n_v_text x1 n (y4 + (-8)) (v_length + 1) v_thrown (upd v_text_a v_length.toNatClampNeg x5_1)
  else none)) := rfl
def f_Mod_text_45 (fu : Nat) (n_v_text : Nat) (x1 : Int64) (self6 : Int32 → Int32 → Int32 → Int32 → (Nat → Int32) → Option (Int32 × Int32 × Int32 × (Nat → Int32))) (y3 : Int32) (y4 : Int32) (y5 : Int32) (v_length : Int32) (v_thrown : Int32) (v_text_a : Nat → Int32) : Option (Int32 × Int32 × Int32 × (Nat → Int32)) :=
  (if y5 = 0 then
  self6 y3 (y4 + (-8)) v_length v_thrown v_text_a
  else
  self6 (y3 + 1) (y4 + (-8)) v_length v_thrown v_text_a)
def f_Mod_text_6 (fu : Nat) (n_v_text : Nat) (x1 : Int64)  : Nat → Int32 → Int32 → Int32 → Int32 → (Nat → Int32) → Option (Int32 × Int32 × Int32 × (Nat → Int32))
  | 0, _, _, _, _, _ => none
  | n + 1, y3, y4, v_length, v_thrown, v_text_a =>
  (if y4 < 0 then
  (if (v_length + y3) ≤ 1200 then
  f_Mod_text_86 fu n_v_text x1 fu 56 v_length 0 v_text_a
  else
  (f_Mod_fail 2 v_thrown).bind fun u_3 =>
  some (u_3.1, v_length, u_3.2, v_text_a))
  else
  zz_lt (((x1 >>> (y4.toInt64 &&& 63)).toInt32) &&& 255) fun x5_4 =>
  (if x5_4 = 0 then
  f_Mod_text_45 fu n_v_text x1 (f_Mod_text_6 fu n_v_text x1 n) y3 y4 x5_4 v_length v_thrown v_text_a
  else
  (f_Mod_in x5_4 32 126).bind fun u_5 =>
  (if u_5 = 0 then
  (f_Mod_fail 1 v_thrown).bind fun u_6 =>
  some (u_6.1, v_length, u_6.2, v_text_a)
  else
  f_Mod_text_45 fu n_v_text x1 (f_Mod_text_6 fu n_v_text x1 n) y3 y4 x5_4 v_length v_thrown v_text_a)))
theorem f_Mod_text_6_s (fu : Nat) (n_v_text : Nat) (x1 : Int64)  (n : Nat) (y3 : Int32) (y4 : Int32) (v_length : Int32) (v_thrown : Int32) (v_text_a : Nat → Int32) : f_Mod_text_6 fu n_v_text x1 (n + 1) y3 y4 v_length v_thrown v_text_a =
  (if y4 < 0 then
  (if (v_length + y3) ≤ 1200 then
  f_Mod_text_86 fu n_v_text x1 fu 56 v_length 0 v_text_a
  else
  (f_Mod_fail 2 v_thrown).bind fun u_3 =>
  some (u_3.1, v_length, u_3.2, v_text_a))
  else
  zz_lt (((x1 >>> (y4.toInt64 &&& 63)).toInt32) &&& 255) fun x5_4 =>
  (if x5_4 = 0 then
  f_Mod_text_45 fu n_v_text x1 (f_Mod_text_6 fu n_v_text x1 n) y3 y4 x5_4 v_length v_thrown v_text_a
  else
  (f_Mod_in x5_4 32 126).bind fun u_5 =>
  (if u_5 = 0 then
  (f_Mod_fail 1 v_thrown).bind fun u_6 =>
  some (u_6.1, v_length, u_6.2, v_text_a)
  else
  f_Mod_text_45 fu n_v_text x1 (f_Mod_text_6 fu n_v_text x1 n) y3 y4 x5_4 v_length v_thrown v_text_a))) := rfl
def f_Mod_text (fu : Nat) (n_v_text : Nat) (x1 : Int64) (v_length : Int32) (v_thrown : Int32) (v_text_a : Nat → Int32) : Option (Int32 × Int32 × Int32 × (Nat → Int32)) :=
  f_Mod_text_6 fu n_v_text x1 fu 0 56 v_length v_thrown v_text_a
set_option maxHeartbeats 4000000 in
set_option maxRecDepth 100000 in
theorem c_Mod_text (l : Launch) (dC : Nat → ClassId) (dI : Nat → Nat → Nat) (cI cC cB cJ : ClassId) (fu : Nat) (sz : Nat) (h_v : Nat) (h_v_text : Nat) (h_v_written : Nat) (h_v_a : Nat) (h_v_b : Nat) (h_v_five : Nat) (h_v_left : Nat) (h_v_right : Nat) (h_v_part : Nat) (n_v_text : Nat) (x1 : Int64) (v_length : Int32) (v_laid : Int32) (v_gone : Int32) (v_thrown : Int32) (v_were : Int32) (v_none : Int32) (v_beyond : Int32) (v_aMany : Int32) (v_bMany : Int32) (v_fiveMany : Int32) (v_leftMany : Int32) (v_rightMany : Int32) (v_partMany : Int32) (v_twos : Int32) (v_at : Int32) (v_digits : Int32) (v_power : Int32) (v_good : Int32) (v_text_a : Nat → Int32) (u : Int32 × Int32 × Int32 × (Nat → Int32)) (hf : f_Mod_text fu n_v_text x1 v_length v_thrown v_text_a = some u) : Met l y_Mod_text ws_Mod_text rm_Mod_text (zz_P zz_T (dC, dI) vwCl (zz_tys cI cC cB cJ) [.ref h_v, .long x1] [(h_v, .inr (7, [.ref h_v_text, .ref h_v_written, .int v_length, .int v_laid, .int v_gone, .int v_thrown, .int v_were, .int v_none, .int v_beyond, .ref h_v_a, .ref h_v_b, .ref h_v_five, .ref h_v_left, .ref h_v_right, .ref h_v_part, .int v_aMany, .int v_bMany, .int v_fiveMany, .int v_leftMany, .int v_rightMany, .int v_partMany, .int v_twos, .int v_at, .int v_digits, .int v_power, .int v_good])), (h_v_text, .inl (cI, n_v_text, .inl v_text_a))] sz) (zz_Qi (dC, dI) vwCl u.1 [(h_v, .inr (7, [.ref h_v_text, .ref h_v_written, .int u.2.1, .int v_laid, .int v_gone, .int u.2.2.1, .int v_were, .int v_none, .int v_beyond, .ref h_v_a, .ref h_v_b, .ref h_v_five, .ref h_v_left, .ref h_v_right, .ref h_v_part, .int v_aMany, .int v_bMany, .int v_fiveMany, .int v_leftMany, .int v_rightMany, .int v_partMany, .int v_twos, .int v_at, .int v_digits, .int v_power, .int v_good])), (h_v_text, .inl (cI, n_v_text, .inl u.2.2.2))] (va_A [(h_v, .inr (7, [.ref h_v_text, .ref h_v_written, .int v_length, .int v_laid, .int v_gone, .int v_thrown, .int v_were, .int v_none, .int v_beyond, .ref h_v_a, .ref h_v_b, .ref h_v_five, .ref h_v_left, .ref h_v_right, .ref h_v_part, .int v_aMany, .int v_bMany, .int v_fiveMany, .int v_leftMany, .int v_rightMany, .int v_partMany, .int v_twos, .int v_at, .int v_digits, .int v_power, .int v_good])), (h_v_text, .inl (cI, n_v_text, .inl v_text_a))] sz)) 0 0 (va_A [(h_v, .inr (7, [.ref h_v_text, .ref h_v_written, .int v_length, .int v_laid, .int v_gone, .int v_thrown, .int v_were, .int v_none, .int v_beyond, .ref h_v_a, .ref h_v_b, .ref h_v_five, .ref h_v_left, .ref h_v_right, .ref h_v_part, .int v_aMany, .int v_bMany, .int v_fiveMany, .int v_leftMany, .int v_rightMany, .int v_partMany, .int v_twos, .int v_at, .int v_digits, .int v_power, .int v_good])), (h_v_text, .inl (cI, n_v_text, .inl v_text_a))] sz) := by
  refine Met.ofW (cc := prog_10_method_5_code) (maxL := 6) (ret := (some .int)) (by decide +kernel) rfl ?_
  intro p e s m args below meth c s₁ B hml hv
  obtain ⟨rfl, hsz, hP, hK, hD0, hX⟩ := hv
  have hx := B.exec
  have hb := B.bytes
  have hr := B.returns
  have hts := atoms_spec (ws := ws_Mod_text) B.pre
  have hw : ∀ w ∈ zw, w.before [.ref h_v, .long x1].toArray s = true := fun w h => hts w (List.mem_cons_of_mem _ h)
  have hown : s.vm.findClass R_Mod = some m.cls := findClass_of_methodNamed B.named
  have hlocks := B.notSynchronized
  subst hsz
  have hD := hD0.self (sz := s.heap.size)
  generalize hAe : va_A [(h_v, .inr (7, [.ref h_v_text, .ref h_v_written, .int v_length, .int v_laid, .int v_gone, .int v_thrown, .int v_were, .int v_none, .int v_beyond, .ref h_v_a, .ref h_v_b, .ref h_v_five, .ref h_v_left, .ref h_v_right, .ref h_v_part, .int v_aMany, .int v_bMany, .int v_fiveMany, .int v_leftMany, .int v_rightMany, .int v_partMany, .int v_twos, .int v_at, .int v_digits, .int v_power, .int v_good])), (h_v_text, .inl (cI, n_v_text, .inl v_text_a))] s.heap.size = A at hD hX ⊢
  have hA : ∀ q : Nat, s.heap.size ≤ q → A q := fun q h => by rw [← hAe]; exact Or.inr h
  have hS : va_S A s.heap s.heap [] := va_S.rf
  have hl := lv_entry [.ref h_v, .long x1] (n := 6) (Nat.le_of_ble_eq_true rfl)
  rw [lg_entry_eq]
  generalize (lg_sl [.ref h_v, .long x1] ++ List.replicate (6 - (lg_sl [.ref h_v, .long x1]).length) Slot.unset).toArray = ls at hl ⊢
  have hl : lv_has ls 6 [(0, .ref h_v), (1, .long x1)] := hl
  refine zz_endi hx hb hr hlocks (fun Qq hend => ?_)
  have hL_86 : ∀ (n : Nat), ∀ (y4 : Int32) (v_length : Int32) (v_thrown : Int32) (v_text_a : Nat → Int32) (ls : Array Slot) (H : Heap) (locs : List Loc), lv_has ls 6 [(0, .ref h_v), (1, .long x1), (4, .int y4)] → va_P (dC, dI) vwCl [(h_v, .inr (7, [.ref h_v_text, .ref h_v_written, .int v_length, .int v_laid, .int v_gone, .int v_thrown, .int v_were, .int v_none, .int v_beyond, .ref h_v_a, .ref h_v_b, .ref h_v_five, .ref h_v_left, .ref h_v_right, .ref h_v_part, .int v_aMany, .int v_bMany, .int v_fiveMany, .int v_leftMany, .int v_rightMany, .int v_partMany, .int v_twos, .int v_at, .int v_digits, .int v_power, .int v_good])), (h_v_text, .inl (cI, n_v_text, .inl v_text_a))] H → va_D A [(h_v, .inr (7, [.ref h_v_text, .ref h_v_written, .int v_length, .int v_laid, .int v_gone, .int v_thrown, .int v_were, .int v_none, .int v_beyond, .ref h_v_a, .ref h_v_b, .ref h_v_five, .ref h_v_left, .ref h_v_right, .ref h_v_part, .int v_aMany, .int v_bMany, .int v_fiveMany, .int v_leftMany, .int v_rightMany, .int v_partMany, .int v_twos, .int v_at, .int v_digits, .int v_power, .int v_good])), (h_v_text, .inl (cI, n_v_text, .inl v_text_a))] → va_S A s.heap H locs → f_Mod_text_86 fu n_v_text x1 n y4 v_length v_thrown v_text_a = some u → W p l e (headSpec ws_Mod_text rm_Mod_text).room s m [.ref h_v, .long x1].toArray below meth c H locs 0 0 Qq (F0 m 86 ls []) := by
    intro n
    induction n with
    | zero =>
      intro y4 v_length v_thrown v_text_a ls H locs hl hP hD hS hf
      exact zz_no hf
    | succ n ih =>
      intro y4 v_length v_thrown v_text_a ls H locs hl hP hD hS hf
      rw [f_Mod_text_86_s] at hf
      refine lv_iload hx hb d_Mod_text_86 (lv_at hl 2 rfl) ?_
      refine lv_if_lt (tgt := 134) hx hb d_Mod_text_88 (by decide) (fun hc => ?_) (fun hc => ?_)
      · have hf := zz_ifp hc hf
        refine lv_aload_n hx hb d_Mod_text_134 rfl (lv_at hl 0 rfl) ?_
        refine va_get (D := (dC, dI)) (ci := 7) (v := .int v_length) (C := R_Mod) (T := T_Mod) (N := 26) hx hb hw in_Mod hown hK hP 0 rfl rfl 2 (by decide) (hw _ wd_676) (fun _ h9 => h9) rfl d_Mod_text_135 ?_
        cases hf
        exact hend 138 ls _ _ d_Mod_text_138 hP hD hS
      · have hf := zz_ifn hc hf
        refine lv_lload_n hx hb d_Mod_text_91 rfl (lv_at hl 1 rfl) ?_
        refine lv_iload hx hb d_Mod_text_92 (lv_at hl 2 rfl) ?_
        refine lv_lshr hx hb d_Mod_text_94 rfl ?_
        refine lv_l2i hx hb d_Mod_text_95 rfl ?_
        refine lv_sipush (v := 255) hx hb d_Mod_text_96 (by decide) ?_
        refine lv_iand hx hb d_Mod_text_99 ?_
        refine lv_topi (fun x5_1 e_x5_1 => ?_)
        have hf := zz_ltp hf x5_1 e_x5_1
        refine lv_istore hx hb d_Mod_text_100 hl (by decide) rfl (fun ls hl => ?_)
        have hl : lv_has ls 6 [(5, .int x5_1), (0, .ref h_v), (1, .long x1), (4, .int y4)] := hl
        refine lv_iload hx hb d_Mod_text_102 (lv_at hl 0 rfl) ?_
        refine lv_if_eq (tgt := 128) hx hb d_Mod_text_104 (by decide) (fun hc => ?_) (fun hc => ?_)
        · have hf := zz_ifp hc hf
          refine lv_iinc (k := 3) (v := y4 + (-8)) hx hb d_Mod_text_128 hl rfl rfl (by decide) rfl (fun ls hl => ?_)
          have hl : lv_has ls 6 [(4, .int (y4 + (-8))), (5, .int x5_1), (0, .ref h_v), (1, .long x1)] := hl
          refine lv_goto (tgt := 86) hx hb d_Mod_text_131 (by decide) ?_
          exact ih (y4 + (-8)) v_length v_thrown v_text_a ls _ _ (lv_sub hl [2, 3, 0] rfl) hP hD hS hf
        · have hf := zz_ifn hc hf
          refine lv_aload_n hx hb d_Mod_text_107 rfl (lv_at hl 1 rfl) ?_
          refine va_get (D := (dC, dI)) (ci := 7) (v := .ref h_v_text) (C := R_Mod) (T := T_Mod) (N := 26) hx hb hw in_Mod hown hK hP 0 rfl rfl 0 (by decide) (hw _ wd_674) (fun _ h9 => h9) rfl d_Mod_text_108 ?_
          refine lv_aload_n hx hb d_Mod_text_111 rfl (lv_at hl 1 rfl) ?_
          refine va_get (D := (dC, dI)) (ci := 7) (v := .int v_length) (C := R_Mod) (T := T_Mod) (N := 26) hx hb hw in_Mod hown hK hP 0 rfl rfl 2 (by decide) (hw _ wd_676) (fun _ h9 => h9) rfl d_Mod_text_112 ?_
          refine lv_iload hx hb d_Mod_text_115 (lv_at hl 0 rfl) ?_
          obtain ⟨hb_2, hf⟩ := zz_gd hf
          refine va_iast hx hb hK hP hD hS 1 0 rfl rfl (zz_vp hb_2) d_Mod_text_117 (fun H locs hP hD hS => ?_)
          have hP : va_P (dC, dI) vwCl [(h_v, .inr (7, [.ref h_v_text, .ref h_v_written, .int v_length, .int v_laid, .int v_gone, .int v_thrown, .int v_were, .int v_none, .int v_beyond, .ref h_v_a, .ref h_v_b, .ref h_v_five, .ref h_v_left, .ref h_v_right, .ref h_v_part, .int v_aMany, .int v_bMany, .int v_fiveMany, .int v_leftMany, .int v_rightMany, .int v_partMany, .int v_twos, .int v_at, .int v_digits, .int v_power, .int v_good])), (h_v_text, .inl (cI, n_v_text, .inl (upd v_text_a v_length.toNatClampNeg x5_1)))] H := hP
          have hD : va_D A [(h_v, .inr (7, [.ref h_v_text, .ref h_v_written, .int v_length, .int v_laid, .int v_gone, .int v_thrown, .int v_were, .int v_none, .int v_beyond, .ref h_v_a, .ref h_v_b, .ref h_v_five, .ref h_v_left, .ref h_v_right, .ref h_v_part, .int v_aMany, .int v_bMany, .int v_fiveMany, .int v_leftMany, .int v_rightMany, .int v_partMany, .int v_twos, .int v_at, .int v_digits, .int v_power, .int v_good])), (h_v_text, .inl (cI, n_v_text, .inl (upd v_text_a v_length.toNatClampNeg x5_1)))] := hD
          refine lv_aload_n hx hb d_Mod_text_118 rfl (lv_at hl 1 rfl) ?_
          refine lv_dup hx hb d_Mod_text_119 rfl ?_
          refine va_get (D := (dC, dI)) (ci := 7) (v := .int v_length) (C := R_Mod) (T := T_Mod) (N := 26) hx hb hw in_Mod hown hK hP 0 rfl rfl 2 (by decide) (hw _ wd_676) (fun _ h9 => h9) rfl d_Mod_text_120 ?_
          refine lv_iconst (v := 1) hx hb d_Mod_text_123 (by decide) ?_
          refine lv_iadd hx hb d_Mod_text_124 ?_
          refine va_put (D := (dC, dI)) (ci := 7) (v := .int (v_length + 1)) (ty := .int) (C := R_Mod) (T := T_Mod) (N := 26) hx hb hw in_Mod ty_Mod tyok_Mod nm_Mod hown hK hP hD hS 0 rfl rfl 2 (by decide) (hw _ wd_676) (fun _ h9 => h9) rfl (tyok_Mod 2 (by decide)) rfl rfl (Nat.le_of_ble_eq_true rfl) d_Mod_text_125 (fun H locs hP hD hS => ?_)
          have hP : va_P (dC, dI) vwCl [(h_v, .inr (7, [.ref h_v_text, .ref h_v_written, .int (v_length + 1), .int v_laid, .int v_gone, .int v_thrown, .int v_were, .int v_none, .int v_beyond, .ref h_v_a, .ref h_v_b, .ref h_v_five, .ref h_v_left, .ref h_v_right, .ref h_v_part, .int v_aMany, .int v_bMany, .int v_fiveMany, .int v_leftMany, .int v_rightMany, .int v_partMany, .int v_twos, .int v_at, .int v_digits, .int v_power, .int v_good])), (h_v_text, .inl (cI, n_v_text, .inl (upd v_text_a v_length.toNatClampNeg x5_1)))] H := hP
          have hD : va_D A [(h_v, .inr (7, [.ref h_v_text, .ref h_v_written, .int (v_length + 1), .int v_laid, .int v_gone, .int v_thrown, .int v_were, .int v_none, .int v_beyond, .ref h_v_a, .ref h_v_b, .ref h_v_five, .ref h_v_left, .ref h_v_right, .ref h_v_part, .int v_aMany, .int v_bMany, .int v_fiveMany, .int v_leftMany, .int v_rightMany, .int v_partMany, .int v_twos, .int v_at, .int v_digits, .int v_power, .int v_good])), (h_v_text, .inl (cI, n_v_text, .inl (upd v_text_a v_length.toNatClampNeg x5_1)))] := hD
          refine lv_iinc (k := 3) (v := y4 + (-8)) hx hb d_Mod_text_128 hl rfl rfl (by decide) rfl (fun ls hl => ?_)
          have hl : lv_has ls 6 [(4, .int (y4 + (-8))), (5, .int x5_1), (0, .ref h_v), (1, .long x1)] := hl
          refine lv_goto (tgt := 86) hx hb d_Mod_text_131 (by decide) ?_
          exact ih (y4 + (-8)) (v_length + 1) v_thrown (upd v_text_a v_length.toNatClampNeg x5_1) ls _ _ (lv_sub hl [2, 3, 0] rfl) hP hD hS hf
  have hL_45 : ∀ (self6 : Int32 → Int32 → Int32 → Int32 → (Nat → Int32) → Option (Int32 × Int32 × Int32 × (Nat → Int32))), (∀ (y3 : Int32) (y4 : Int32) (v_length : Int32) (v_thrown : Int32) (v_text_a : Nat → Int32) (ls : Array Slot) (H : Heap) (locs : List Loc), lv_has ls 6 [(0, .ref h_v), (1, .long x1), (3, .int y3), (4, .int y4)] → va_P (dC, dI) vwCl [(h_v, .inr (7, [.ref h_v_text, .ref h_v_written, .int v_length, .int v_laid, .int v_gone, .int v_thrown, .int v_were, .int v_none, .int v_beyond, .ref h_v_a, .ref h_v_b, .ref h_v_five, .ref h_v_left, .ref h_v_right, .ref h_v_part, .int v_aMany, .int v_bMany, .int v_fiveMany, .int v_leftMany, .int v_rightMany, .int v_partMany, .int v_twos, .int v_at, .int v_digits, .int v_power, .int v_good])), (h_v_text, .inl (cI, n_v_text, .inl v_text_a))] H → va_D A [(h_v, .inr (7, [.ref h_v_text, .ref h_v_written, .int v_length, .int v_laid, .int v_gone, .int v_thrown, .int v_were, .int v_none, .int v_beyond, .ref h_v_a, .ref h_v_b, .ref h_v_five, .ref h_v_left, .ref h_v_right, .ref h_v_part, .int v_aMany, .int v_bMany, .int v_fiveMany, .int v_leftMany, .int v_rightMany, .int v_partMany, .int v_twos, .int v_at, .int v_digits, .int v_power, .int v_good])), (h_v_text, .inl (cI, n_v_text, .inl v_text_a))] → va_S A s.heap H locs → self6 y3 y4 v_length v_thrown v_text_a = some u → W p l e (headSpec ws_Mod_text rm_Mod_text).room s m [.ref h_v, .long x1].toArray below meth c H locs 0 0 Qq (F0 m 6 ls [])) → ∀ (y3 : Int32) (y4 : Int32) (y5 : Int32) (v_length : Int32) (v_thrown : Int32) (v_text_a : Nat → Int32) (ls : Array Slot) (H : Heap) (locs : List Loc), lv_has ls 6 [(0, .ref h_v), (1, .long x1), (3, .int y3), (4, .int y4), (5, .int y5)] → va_P (dC, dI) vwCl [(h_v, .inr (7, [.ref h_v_text, .ref h_v_written, .int v_length, .int v_laid, .int v_gone, .int v_thrown, .int v_were, .int v_none, .int v_beyond, .ref h_v_a, .ref h_v_b, .ref h_v_five, .ref h_v_left, .ref h_v_right, .ref h_v_part, .int v_aMany, .int v_bMany, .int v_fiveMany, .int v_leftMany, .int v_rightMany, .int v_partMany, .int v_twos, .int v_at, .int v_digits, .int v_power, .int v_good])), (h_v_text, .inl (cI, n_v_text, .inl v_text_a))] H → va_D A [(h_v, .inr (7, [.ref h_v_text, .ref h_v_written, .int v_length, .int v_laid, .int v_gone, .int v_thrown, .int v_were, .int v_none, .int v_beyond, .ref h_v_a, .ref h_v_b, .ref h_v_five, .ref h_v_left, .ref h_v_right, .ref h_v_part, .int v_aMany, .int v_bMany, .int v_fiveMany, .int v_leftMany, .int v_rightMany, .int v_partMany, .int v_twos, .int v_at, .int v_digits, .int v_power, .int v_good])), (h_v_text, .inl (cI, n_v_text, .inl v_text_a))] → va_S A s.heap H locs → f_Mod_text_45 fu n_v_text x1 self6 y3 y4 y5 v_length v_thrown v_text_a = some u → W p l e (headSpec ws_Mod_text rm_Mod_text).room s m [.ref h_v, .long x1].toArray below meth c H locs 0 0 Qq (F0 m 45 ls []) := by
    intro self6 hs6
    intro y3 y4 y5 v_length v_thrown v_text_a ls H locs hl hP hD hS hf
    unfold f_Mod_text_45 at hf
    refine lv_iload hx hb d_Mod_text_45 (lv_at hl 4 rfl) ?_
    refine lv_if_eq (tgt := 53) hx hb d_Mod_text_47 (by decide) (fun hc => ?_) (fun hc => ?_)
    · have hf := zz_ifp hc hf
      refine lv_iinc (k := 3) (v := y4 + (-8)) hx hb d_Mod_text_53 hl rfl rfl (by decide) rfl (fun ls hl => ?_)
      have hl : lv_has ls 6 [(4, .int (y4 + (-8))), (0, .ref h_v), (1, .long x1), (3, .int y3), (5, .int y5)] := hl
      refine lv_goto (tgt := 6) hx hb d_Mod_text_56 (by decide) ?_
      exact hs6 y3 (y4 + (-8)) v_length v_thrown v_text_a ls _ _ (lv_sub hl [1, 2, 3, 0] rfl) hP hD hS hf
    · have hf := zz_ifn hc hf
      refine lv_iinc (k := 2) (v := y3 + 1) hx hb d_Mod_text_50 hl rfl rfl (by decide) rfl (fun ls hl => ?_)
      have hl : lv_has ls 6 [(3, .int (y3 + 1)), (0, .ref h_v), (1, .long x1), (4, .int y4), (5, .int y5)] := hl
      refine lv_iinc (k := 3) (v := y4 + (-8)) hx hb d_Mod_text_53 hl rfl rfl (by decide) rfl (fun ls hl => ?_)
      have hl : lv_has ls 6 [(4, .int (y4 + (-8))), (3, .int (y3 + 1)), (0, .ref h_v), (1, .long x1), (5, .int y5)] := hl
      refine lv_goto (tgt := 6) hx hb d_Mod_text_56 (by decide) ?_
      exact hs6 (y3 + 1) (y4 + (-8)) v_length v_thrown v_text_a ls _ _ (lv_sub hl [2, 3, 1, 0] rfl) hP hD hS hf
  have hL_6 : ∀ (n : Nat), ∀ (y3 : Int32) (y4 : Int32) (v_length : Int32) (v_thrown : Int32) (v_text_a : Nat → Int32) (ls : Array Slot) (H : Heap) (locs : List Loc), lv_has ls 6 [(0, .ref h_v), (1, .long x1), (3, .int y3), (4, .int y4)] → va_P (dC, dI) vwCl [(h_v, .inr (7, [.ref h_v_text, .ref h_v_written, .int v_length, .int v_laid, .int v_gone, .int v_thrown, .int v_were, .int v_none, .int v_beyond, .ref h_v_a, .ref h_v_b, .ref h_v_five, .ref h_v_left, .ref h_v_right, .ref h_v_part, .int v_aMany, .int v_bMany, .int v_fiveMany, .int v_leftMany, .int v_rightMany, .int v_partMany, .int v_twos, .int v_at, .int v_digits, .int v_power, .int v_good])), (h_v_text, .inl (cI, n_v_text, .inl v_text_a))] H → va_D A [(h_v, .inr (7, [.ref h_v_text, .ref h_v_written, .int v_length, .int v_laid, .int v_gone, .int v_thrown, .int v_were, .int v_none, .int v_beyond, .ref h_v_a, .ref h_v_b, .ref h_v_five, .ref h_v_left, .ref h_v_right, .ref h_v_part, .int v_aMany, .int v_bMany, .int v_fiveMany, .int v_leftMany, .int v_rightMany, .int v_partMany, .int v_twos, .int v_at, .int v_digits, .int v_power, .int v_good])), (h_v_text, .inl (cI, n_v_text, .inl v_text_a))] → va_S A s.heap H locs → f_Mod_text_6 fu n_v_text x1 n y3 y4 v_length v_thrown v_text_a = some u → W p l e (headSpec ws_Mod_text rm_Mod_text).room s m [.ref h_v, .long x1].toArray below meth c H locs 0 0 Qq (F0 m 6 ls []) := by
    intro n
    induction n with
    | zero =>
      intro y3 y4 v_length v_thrown v_text_a ls H locs hl hP hD hS hf
      exact zz_no hf
    | succ n ih =>
      intro y3 y4 v_length v_thrown v_text_a ls H locs hl hP hD hS hf
      rw [f_Mod_text_6_s] at hf
      refine lv_iload hx hb d_Mod_text_6 (lv_at hl 3 rfl) ?_
      refine lv_if_lt (tgt := 59) hx hb d_Mod_text_8 (by decide) (fun hc => ?_) (fun hc => ?_)
      · have hf := zz_ifp hc hf
        refine lv_aload_n hx hb d_Mod_text_59 rfl (lv_at hl 0 rfl) ?_
        refine va_get (D := (dC, dI)) (ci := 7) (v := .int v_length) (C := R_Mod) (T := T_Mod) (N := 26) hx hb hw in_Mod hown hK hP 0 rfl rfl 2 (by decide) (hw _ wd_676) (fun _ h9 => h9) rfl d_Mod_text_60 ?_
        refine lv_iload_n hx hb d_Mod_text_63 rfl (lv_at hl 2 rfl) ?_
        refine lv_iadd hx hb d_Mod_text_64 ?_
        refine lv_sipush (v := 1200) hx hb d_Mod_text_65 (by decide) ?_
        refine lv_icmp_le (tgt := 77) hx hb d_Mod_text_68 (by decide) (fun hc => ?_) (fun hc => ?_)
        · have hf := zz_ifp hc hf
          refine lv_aload_n hx hb d_Mod_text_77 rfl (lv_at hl 0 rfl) ?_
          refine lv_iconst (v := 0) hx hb d_Mod_text_78 (by decide) ?_
          refine va_put (D := (dC, dI)) (ci := 7) (v := .int 0) (ty := .int) (C := R_Mod) (T := T_Mod) (N := 26) hx hb hw in_Mod ty_Mod tyok_Mod nm_Mod hown hK hP hD hS 0 rfl rfl 5 (by decide) (hw _ wd_679) (fun _ h9 => h9) rfl (tyok_Mod 5 (by decide)) rfl rfl (Nat.le_of_ble_eq_true rfl) d_Mod_text_79 (fun H locs hP hD hS => ?_)
          have hP : va_P (dC, dI) vwCl [(h_v, .inr (7, [.ref h_v_text, .ref h_v_written, .int v_length, .int v_laid, .int v_gone, .int 0, .int v_were, .int v_none, .int v_beyond, .ref h_v_a, .ref h_v_b, .ref h_v_five, .ref h_v_left, .ref h_v_right, .ref h_v_part, .int v_aMany, .int v_bMany, .int v_fiveMany, .int v_leftMany, .int v_rightMany, .int v_partMany, .int v_twos, .int v_at, .int v_digits, .int v_power, .int v_good])), (h_v_text, .inl (cI, n_v_text, .inl v_text_a))] H := hP
          have hD : va_D A [(h_v, .inr (7, [.ref h_v_text, .ref h_v_written, .int v_length, .int v_laid, .int v_gone, .int 0, .int v_were, .int v_none, .int v_beyond, .ref h_v_a, .ref h_v_b, .ref h_v_five, .ref h_v_left, .ref h_v_right, .ref h_v_part, .int v_aMany, .int v_bMany, .int v_fiveMany, .int v_leftMany, .int v_rightMany, .int v_partMany, .int v_twos, .int v_at, .int v_digits, .int v_power, .int v_good])), (h_v_text, .inl (cI, n_v_text, .inl v_text_a))] := hD
          refine lv_bipush (v := 56) hx hb d_Mod_text_82 (by decide) ?_
          refine lv_istore hx hb d_Mod_text_84 hl (by decide) rfl (fun ls hl => ?_)
          have hl : lv_has ls 6 [(4, .int 56), (0, .ref h_v), (1, .long x1), (3, .int y3)] := hl
          exact hL_86 fu 56 v_length 0 v_text_a ls _ _ (lv_sub hl [1, 2, 0] rfl) hP hD hS hf
        · have hf := zz_ifn hc hf
          refine lv_aload_n hx hb d_Mod_text_71 rfl (lv_at hl 0 rfl) ?_
          refine lv_iconst (v := 2) hx hb d_Mod_text_72 (by decide) ?_
          obtain ⟨u_3, hu_3, hf⟩ := zz_bd hf
          refine zz_ci (ws' := [(h_v, .inr (7, [.ref h_v_text, .ref h_v_written, .int v_length, .int v_laid, .int v_gone, .int u_3.2, .int v_were, .int v_none, .int v_beyond, .ref h_v_a, .ref h_v_b, .ref h_v_five, .ref h_v_left, .ref h_v_right, .ref h_v_part, .int v_aMany, .int v_bMany, .int v_fiveMany, .int v_leftMany, .int v_rightMany, .int v_partMany, .int v_twos, .int v_at, .int v_digits, .int v_power, .int v_good])), (h_v_text, .inl (cI, n_v_text, .inl v_text_a))]) (wc := [(h_v, .inr (7, [.ref h_v_text, .ref h_v_written, .int v_length, .int v_laid, .int v_gone, .int v_thrown, .int v_were, .int v_none, .int v_beyond, .ref h_v_a, .ref h_v_b, .ref h_v_five, .ref h_v_left, .ref h_v_right, .ref h_v_part, .int v_aMany, .int v_bMany, .int v_fiveMany, .int v_leftMany, .int v_rightMany, .int v_partMany, .int v_twos, .int v_at, .int v_digits, .int v_power, .int v_good]))]) (w' := [(h_v, .inr (7, [.ref h_v_text, .ref h_v_written, .int v_length, .int v_laid, .int v_gone, .int u_3.2, .int v_were, .int v_none, .int v_beyond, .ref h_v_a, .ref h_v_b, .ref h_v_five, .ref h_v_left, .ref h_v_right, .ref h_v_part, .int v_aMany, .int v_bMany, .int v_fiveMany, .int v_leftMany, .int v_rightMany, .int v_partMany, .int v_twos, .int v_at, .int v_digits, .int v_power, .int v_good]))]) hP hD hS hA [0] [1] [1, 0] rfl rfl (by decide) (by decide) rfl (by decide) (va_runV (As := [.int 2]) (rest := []) ⟨hx, hb, hml, hown, hw⟩ (c_Mod_fail l dC dI cI cC cB cJ _ h_v h_v_text h_v_written h_v_a h_v_b h_v_five h_v_left h_v_right h_v_part 2 v_length v_laid v_gone v_thrown v_were v_none v_beyond v_aMany v_bMany v_fiveMany v_leftMany v_rightMany v_partMany v_twos v_at v_digits v_power v_good u_3 hu_3) (cwV 1 hw (zg_V wd_763 wd_765 we_1_9 wd_8 wd_766) rfl rfl rfl hd_Mod_fail ⟨Nat.le_of_ble_eq_true rfl, Nat.le_of_ble_eq_true rfl⟩) (zz_preV zz_TE (va_recv (q0 := 0) (ci := 7) hK hP rfl rfl) hP hD hK hS hA trivial [0] rfl (by decide)) rfl rfl hl.1 rfl (lv_room (Nat.le_of_ble_eq_true rfl)) d_Mod_text_73 ⟨Nat.zero_le _, Nat.zero_le _⟩) (fun H locs hP hD hS => ?_)
          cases hf
          exact hend 76 ls _ _ d_Mod_text_76 hP hD hS
      · have hf := zz_ifn hc hf
        refine lv_lload_n hx hb d_Mod_text_11 rfl (lv_at hl 1 rfl) ?_
        refine lv_iload hx hb d_Mod_text_12 (lv_at hl 3 rfl) ?_
        refine lv_lshr hx hb d_Mod_text_14 rfl ?_
        refine lv_l2i hx hb d_Mod_text_15 rfl ?_
        refine lv_sipush (v := 255) hx hb d_Mod_text_16 (by decide) ?_
        refine lv_iand hx hb d_Mod_text_19 ?_
        refine lv_topi (fun x5_4 e_x5_4 => ?_)
        have hf := zz_ltp hf x5_4 e_x5_4
        refine lv_istore hx hb d_Mod_text_20 hl (by decide) rfl (fun ls hl => ?_)
        have hl : lv_has ls 6 [(5, .int x5_4), (0, .ref h_v), (1, .long x1), (3, .int y3), (4, .int y4)] := hl
        refine lv_iload hx hb d_Mod_text_22 (lv_at hl 0 rfl) ?_
        refine lv_if_eq (tgt := 45) hx hb d_Mod_text_24 (by decide) (fun hc => ?_) (fun hc => ?_)
        · have hf := zz_ifp hc hf
          exact hL_45 _ ih y3 y4 x5_4 v_length v_thrown v_text_a ls _ _ (lv_sub hl [1, 2, 3, 4, 0] rfl) hP hD hS hf
        · have hf := zz_ifn hc hf
          refine lv_iload hx hb d_Mod_text_27 (lv_at hl 0 rfl) ?_
          refine lv_bipush (v := 32) hx hb d_Mod_text_29 (by decide) ?_
          refine lv_bipush (v := 126) hx hb d_Mod_text_31 (by decide) ?_
          obtain ⟨u_5, hu_5, hf⟩ := zz_bd hf
          refine zz_ci (ws' := [(h_v, .inr (7, [.ref h_v_text, .ref h_v_written, .int v_length, .int v_laid, .int v_gone, .int v_thrown, .int v_were, .int v_none, .int v_beyond, .ref h_v_a, .ref h_v_b, .ref h_v_five, .ref h_v_left, .ref h_v_right, .ref h_v_part, .int v_aMany, .int v_bMany, .int v_fiveMany, .int v_leftMany, .int v_rightMany, .int v_partMany, .int v_twos, .int v_at, .int v_digits, .int v_power, .int v_good])), (h_v_text, .inl (cI, n_v_text, .inl v_text_a))]) (wc := []) (w' := []) hP hD hS hA [] [0, 1] [0, 1] rfl rfl (by decide) (by decide) rfl (by decide) (va_runS (As := [.int x5_4, .int 32, .int 126]) (rest := []) ⟨hx, hb, hml, hown, hw⟩ (c_Mod_in l dC dI cI cC cB cJ _ x5_4 32 126 u_5 hu_5) (va_cwS 3 hw (zg_S wd_760 wd_761 wd_8 wd_762) rfl rfl rfl hd_Mod_in ⟨Nat.le_of_ble_eq_true rfl, Nat.le_of_ble_eq_true rfl⟩) (zz_preS zz_TE hP hD hK hS hA trivial [] rfl (by decide)) rfl rfl hl.1 rfl (lv_room (Nat.le_of_ble_eq_true rfl)) d_Mod_text_33 ⟨Nat.zero_le _, Nat.zero_le _⟩) (fun H locs hP hD hS => ?_)
          refine lv_if_ne (tgt := 45) hx hb d_Mod_text_36 (by decide) (fun hc => ?_) (fun hc => ?_)
          · have hf := zz_ifn hc hf
            exact hL_45 _ ih y3 y4 x5_4 v_length v_thrown v_text_a ls _ _ (lv_sub hl [1, 2, 3, 4, 0] rfl) hP hD hS hf
          · have hf := zz_ifp hc hf
            refine lv_aload_n hx hb d_Mod_text_39 rfl (lv_at hl 1 rfl) ?_
            refine lv_iconst (v := 1) hx hb d_Mod_text_40 (by decide) ?_
            obtain ⟨u_6, hu_6, hf⟩ := zz_bd hf
            refine zz_ci (ws' := [(h_v, .inr (7, [.ref h_v_text, .ref h_v_written, .int v_length, .int v_laid, .int v_gone, .int u_6.2, .int v_were, .int v_none, .int v_beyond, .ref h_v_a, .ref h_v_b, .ref h_v_five, .ref h_v_left, .ref h_v_right, .ref h_v_part, .int v_aMany, .int v_bMany, .int v_fiveMany, .int v_leftMany, .int v_rightMany, .int v_partMany, .int v_twos, .int v_at, .int v_digits, .int v_power, .int v_good])), (h_v_text, .inl (cI, n_v_text, .inl v_text_a))]) (wc := [(h_v, .inr (7, [.ref h_v_text, .ref h_v_written, .int v_length, .int v_laid, .int v_gone, .int v_thrown, .int v_were, .int v_none, .int v_beyond, .ref h_v_a, .ref h_v_b, .ref h_v_five, .ref h_v_left, .ref h_v_right, .ref h_v_part, .int v_aMany, .int v_bMany, .int v_fiveMany, .int v_leftMany, .int v_rightMany, .int v_partMany, .int v_twos, .int v_at, .int v_digits, .int v_power, .int v_good]))]) (w' := [(h_v, .inr (7, [.ref h_v_text, .ref h_v_written, .int v_length, .int v_laid, .int v_gone, .int u_6.2, .int v_were, .int v_none, .int v_beyond, .ref h_v_a, .ref h_v_b, .ref h_v_five, .ref h_v_left, .ref h_v_right, .ref h_v_part, .int v_aMany, .int v_bMany, .int v_fiveMany, .int v_leftMany, .int v_rightMany, .int v_partMany, .int v_twos, .int v_at, .int v_digits, .int v_power, .int v_good]))]) hP hD hS hA [0] [1] [1, 0] rfl rfl (by decide) (by decide) rfl (by decide) (va_runV (As := [.int 1]) (rest := []) ⟨hx, hb, hml, hown, hw⟩ (c_Mod_fail l dC dI cI cC cB cJ _ h_v h_v_text h_v_written h_v_a h_v_b h_v_five h_v_left h_v_right h_v_part 1 v_length v_laid v_gone v_thrown v_were v_none v_beyond v_aMany v_bMany v_fiveMany v_leftMany v_rightMany v_partMany v_twos v_at v_digits v_power v_good u_6 hu_6) (cwV 1 hw (zg_V wd_763 wd_765 we_1_9 wd_8 wd_766) rfl rfl rfl hd_Mod_fail ⟨Nat.le_of_ble_eq_true rfl, Nat.le_of_ble_eq_true rfl⟩) (zz_preV zz_TE (va_recv (q0 := 0) (ci := 7) hK hP rfl rfl) hP hD hK hS hA trivial [0] rfl (by decide)) rfl rfl hl.1 rfl (lv_room (Nat.le_of_ble_eq_true rfl)) d_Mod_text_41 ⟨Nat.zero_le _, Nat.zero_le _⟩) (fun H locs hP hD hS => ?_)
            cases hf
            exact hend 44 ls _ _ d_Mod_text_44 hP hD hS
  unfold f_Mod_text at hf
  refine lv_iconst (v := 0) hx hb d_Mod_text_0 (by decide) ?_
  refine lv_istore_n hx hb d_Mod_text_1 rfl hl (by decide) rfl (fun ls hl => ?_)
  have hl : lv_has ls 6 [(3, .int 0), (0, .ref h_v), (1, .long x1)] := hl
  refine lv_bipush (v := 56) hx hb d_Mod_text_2 (by decide) ?_
  refine lv_istore hx hb d_Mod_text_4 hl (by decide) rfl (fun ls hl => ?_)
  have hl : lv_has ls 6 [(4, .int 56), (3, .int 0), (0, .ref h_v), (1, .long x1)] := hl
  exact hL_6 fu 0 56 v_length v_thrown v_text_a ls _ _ (lv_sub hl [2, 3, 1, 0] rfl) hP hD hS hf
abbrev ws_Mod_trimmed : List Cond := .code y_Mod_trimmed prog_10_method_6_code 3 (some .int) :: zw
abbrev rm_Mod_trimmed : Room := { frames := 0, cells := 0, slots := 0, locals := 0 }
theorem hd_Mod_trimmed : y_Mod_trimmed.cls ≠ "java/lang/invoke/MethodHandle" ∧ y_Mod_trimmed.cls ≠ "java/lang/invoke/VarHandle" ∧ (parseMethodDescriptor y_Mod_trimmed.desc).map (fun d => d.parameters.length) = some 2 := by decide +kernel
theorem d_Mod_trimmed_0 : decode prog_10_method_6_code 0 = .ok (.iload_n 1, 1) := by decide +kernel
theorem d_Mod_trimmed_1 : decode prog_10_method_6_code 1 = .ok (.istore_n 2, 1) := by decide +kernel
theorem d_Mod_trimmed_2 : decode prog_10_method_6_code 2 = .ok (.iload_n 2, 1) := by decide +kernel
theorem d_Mod_trimmed_3 : decode prog_10_method_6_code 3 = .ok (.ifCond .le 17, 3) := by decide +kernel
theorem d_Mod_trimmed_6 : decode prog_10_method_6_code 6 = .ok (.aload_n 0, 1) := by decide +kernel
theorem d_Mod_trimmed_7 : decode prog_10_method_6_code 7 = .ok (.iload_n 2, 1) := by decide +kernel
theorem d_Mod_trimmed_8 : decode prog_10_method_6_code 8 = .ok (.iconst 1, 1) := by decide +kernel
theorem d_Mod_trimmed_9 : decode prog_10_method_6_code 9 = .ok (.isub, 1) := by decide +kernel
theorem d_Mod_trimmed_10 : decode prog_10_method_6_code 10 = .ok (.iaload, 1) := by decide +kernel
theorem d_Mod_trimmed_11 : decode prog_10_method_6_code 11 = .ok (.ifCond .ne 9, 3) := by decide +kernel
theorem d_Mod_trimmed_14 : decode prog_10_method_6_code 14 = .ok (.iinc 2 (-1), 3) := by decide +kernel
theorem d_Mod_trimmed_17 : decode prog_10_method_6_code 17 = .ok (.goto (-15), 3) := by decide +kernel
theorem d_Mod_trimmed_20 : decode prog_10_method_6_code 20 = .ok (.iload_n 2, 1) := by decide +kernel
theorem d_Mod_trimmed_21 : decode prog_10_method_6_code 21 = .ok (.ireturn, 1) := by decide +kernel
def f_Mod_trimmed_2 (fu : Nat) (n_w0 : Nat) (x1 : Int32) (w0_a : Nat → Int32)  : Nat → Int32 → Option (Int32)
  | 0, _ => none
  | n + 1, y2 =>
  (if y2 ≤ 0 then
  some (y2)
  else
  if zz_in (y2 - 1) n_w0 = true then
  (if (w0_a (y2 - 1).toNatClampNeg) = 0 then
  f_Mod_trimmed_2 fu n_w0 x1 w0_a n (y2 + (-1))
  else
  some (y2))
  else none)
theorem f_Mod_trimmed_2_s (fu : Nat) (n_w0 : Nat) (x1 : Int32) (w0_a : Nat → Int32)  (n : Nat) (y2 : Int32) : f_Mod_trimmed_2 fu n_w0 x1 w0_a (n + 1) y2 =
  (if y2 ≤ 0 then
  some (y2)
  else
  if zz_in (y2 - 1) n_w0 = true then
  (if (w0_a (y2 - 1).toNatClampNeg) = 0 then
  f_Mod_trimmed_2 fu n_w0 x1 w0_a n (y2 + (-1))
  else
  some (y2))
  else none) := rfl
def f_Mod_trimmed (fu : Nat) (n_w0 : Nat) (x1 : Int32) (w0_a : Nat → Int32) : Option (Int32) :=
  f_Mod_trimmed_2 fu n_w0 x1 w0_a fu x1
set_option maxHeartbeats 4000000 in
set_option maxRecDepth 100000 in
theorem c_Mod_trimmed (l : Launch) (dC : Nat → ClassId) (dI : Nat → Nat → Nat) (cI cC cB cJ : ClassId) (fu : Nat) (sz : Nat) (h_w0 : Nat) (n_w0 : Nat) (x1 : Int32) (w0_a : Nat → Int32) (u : Int32) (hf : f_Mod_trimmed fu n_w0 x1 w0_a = some u) : Met l y_Mod_trimmed ws_Mod_trimmed rm_Mod_trimmed (zz_P zz_T (dC, dI) vwCl (zz_tys cI cC cB cJ) [.ref h_w0, .int x1] [(h_w0, .inl (cI, n_w0, .inl w0_a))] sz) (zz_Qi (dC, dI) vwCl u [(h_w0, .inl (cI, n_w0, .inl w0_a))] (va_A [(h_w0, .inl (cI, n_w0, .inl w0_a))] sz)) 0 0 (va_A [(h_w0, .inl (cI, n_w0, .inl w0_a))] sz) := by
  refine Met.ofW (cc := prog_10_method_6_code) (maxL := 3) (ret := (some .int)) (by decide +kernel) rfl ?_
  intro p e s m args below meth c s₁ B hml hv
  obtain ⟨rfl, hsz, hP, hK, hD0, hX⟩ := hv
  have hx := B.exec
  have hb := B.bytes
  have hr := B.returns
  have hts := atoms_spec (ws := ws_Mod_trimmed) B.pre
  have hw : ∀ w ∈ zw, w.before [.ref h_w0, .int x1].toArray s = true := fun w h => hts w (List.mem_cons_of_mem _ h)
  have hown : s.vm.findClass R_Mod = some m.cls := findClass_of_methodNamed B.named
  have hlocks := B.notSynchronized
  subst hsz
  have hD := hD0.self (sz := s.heap.size)
  generalize hAe : va_A [(h_w0, .inl (cI, n_w0, .inl w0_a))] s.heap.size = A at hD hX ⊢
  have hA : ∀ q : Nat, s.heap.size ≤ q → A q := fun q h => by rw [← hAe]; exact Or.inr h
  have hS : va_S A s.heap s.heap [] := va_S.rf
  have hl := lv_entry [.ref h_w0, .int x1] (n := 3) (Nat.le_of_ble_eq_true rfl)
  rw [lg_entry_eq]
  generalize (lg_sl [.ref h_w0, .int x1] ++ List.replicate (3 - (lg_sl [.ref h_w0, .int x1]).length) Slot.unset).toArray = ls at hl ⊢
  have hl : lv_has ls 3 [(0, .ref h_w0), (1, .int x1)] := hl
  refine zz_endi hx hb hr hlocks (fun Qq hend => ?_)
  have hL_2 : ∀ (n : Nat), ∀ (y2 : Int32) (ls : Array Slot) (H : Heap) (locs : List Loc), lv_has ls 3 [(0, .ref h_w0), (2, .int y2)] → va_P (dC, dI) vwCl [(h_w0, .inl (cI, n_w0, .inl w0_a))] H → va_D A [(h_w0, .inl (cI, n_w0, .inl w0_a))] → va_S A s.heap H locs → f_Mod_trimmed_2 fu n_w0 x1 w0_a n y2 = some u → W p l e (headSpec ws_Mod_trimmed rm_Mod_trimmed).room s m [.ref h_w0, .int x1].toArray below meth c H locs 0 0 Qq (F0 m 2 ls []) := by
    intro n
    induction n with
    | zero =>
      intro y2 ls H locs hl hP hD hS hf
      exact zz_no hf
    | succ n ih =>
      intro y2 ls H locs hl hP hD hS hf
      rw [f_Mod_trimmed_2_s] at hf
      refine lv_iload_n hx hb d_Mod_trimmed_2 rfl (lv_at hl 1 rfl) ?_
      refine lv_if_le (tgt := 20) hx hb d_Mod_trimmed_3 (by decide) (fun hc => ?_) (fun hc => ?_)
      · have hf := zz_ifp hc hf
        refine lv_iload_n hx hb d_Mod_trimmed_20 rfl (lv_at hl 1 rfl) ?_
        cases hf
        exact hend 21 ls _ _ d_Mod_trimmed_21 hP hD hS
      · have hf := zz_ifn hc hf
        refine lv_aload_n hx hb d_Mod_trimmed_6 rfl (lv_at hl 0 rfl) ?_
        refine lv_iload_n hx hb d_Mod_trimmed_7 rfl (lv_at hl 1 rfl) ?_
        refine lv_iconst (v := 1) hx hb d_Mod_trimmed_8 (by decide) ?_
        refine lv_isub hx hb d_Mod_trimmed_9 ?_
        obtain ⟨hb_1, hf⟩ := zz_gd hf
        refine va_iald hx hb hK hP 0 0 rfl rfl (zz_vp hb_1) d_Mod_trimmed_10 ?_
        refine lv_if_ne (tgt := 20) hx hb d_Mod_trimmed_11 (by decide) (fun hc => ?_) (fun hc => ?_)
        · have hf := zz_ifn hc hf
          refine lv_iload_n hx hb d_Mod_trimmed_20 rfl (lv_at hl 1 rfl) ?_
          cases hf
          exact hend 21 ls _ _ d_Mod_trimmed_21 hP hD hS
        · have hf := zz_ifp hc hf
          refine lv_iinc (k := 1) (v := y2 + (-1)) hx hb d_Mod_trimmed_14 hl rfl rfl (by decide) rfl (fun ls hl => ?_)
          have hl : lv_has ls 3 [(2, .int (y2 + (-1))), (0, .ref h_w0)] := hl
          refine lv_goto (tgt := 2) hx hb d_Mod_trimmed_17 (by decide) ?_
          exact ih (y2 + (-1)) ls _ _ (lv_sub hl [1, 0] rfl) hP hD hS hf
  unfold f_Mod_trimmed at hf
  refine lv_iload_n hx hb d_Mod_trimmed_0 rfl (lv_at hl 1 rfl) ?_
  refine lv_istore_n hx hb d_Mod_trimmed_1 rfl hl (by decide) rfl (fun ls hl => ?_)
  have hl : lv_has ls 3 [(2, .int x1), (0, .ref h_w0), (1, .int x1)] := hl
  exact hL_2 fu x1 ls _ _ (lv_sub hl [1, 0] rfl) hP hD hS hf
abbrev ws_Mod_grow : List Cond := .code y_Mod_grow prog_10_method_7_code 9 (some .int) :: zw
abbrev rm_Mod_grow : Room := { frames := 1, cells := 0, slots := 0, locals := 22 }
theorem hd_Mod_grow : y_Mod_grow.cls ≠ "java/lang/invoke/MethodHandle" ∧ y_Mod_grow.cls ≠ "java/lang/invoke/VarHandle" ∧ (parseMethodDescriptor y_Mod_grow.desc).map (fun d => d.parameters.length) = some 4 := by decide +kernel
theorem d_Mod_grow_0 : decode prog_10_method_7_code 0 = .ok (.iload_n 3, 1) := by decide +kernel
theorem d_Mod_grow_1 : decode prog_10_method_7_code 1 = .ok (.i2l, 1) := by decide +kernel
theorem d_Mod_grow_2 : decode prog_10_method_7_code 2 = .ok (.lstore 4, 2) := by decide +kernel
theorem d_Mod_grow_4 : decode prog_10_method_7_code 4 = .ok (.iconst 0, 1) := by decide +kernel
theorem d_Mod_grow_5 : decode prog_10_method_7_code 5 = .ok (.istore 6, 2) := by decide +kernel
theorem d_Mod_grow_7 : decode prog_10_method_7_code 7 = .ok (.iload 6, 2) := by decide +kernel
theorem d_Mod_grow_9 : decode prog_10_method_7_code 9 = .ok (.iload_n 1, 1) := by decide +kernel
theorem d_Mod_grow_10 : decode prog_10_method_7_code 10 = .ok (.if_icmp .ge 40, 3) := by decide +kernel
theorem d_Mod_grow_13 : decode prog_10_method_7_code 13 = .ok (.aload_n 0, 1) := by decide +kernel
theorem d_Mod_grow_14 : decode prog_10_method_7_code 14 = .ok (.iload 6, 2) := by decide +kernel
theorem d_Mod_grow_16 : decode prog_10_method_7_code 16 = .ok (.iaload, 1) := by decide +kernel
theorem d_Mod_grow_17 : decode prog_10_method_7_code 17 = .ok (.i2l, 1) := by decide +kernel
theorem d_Mod_grow_18 : decode prog_10_method_7_code 18 = .ok (.iload_n 2, 1) := by decide +kernel
theorem d_Mod_grow_19 : decode prog_10_method_7_code 19 = .ok (.i2l, 1) := by decide +kernel
theorem d_Mod_grow_20 : decode prog_10_method_7_code 20 = .ok (.lmul, 1) := by decide +kernel
theorem d_Mod_grow_21 : decode prog_10_method_7_code 21 = .ok (.lload 4, 2) := by decide +kernel
theorem d_Mod_grow_23 : decode prog_10_method_7_code 23 = .ok (.ladd, 1) := by decide +kernel
theorem d_Mod_grow_24 : decode prog_10_method_7_code 24 = .ok (.lstore 7, 2) := by decide +kernel
theorem d_Mod_grow_26 : decode prog_10_method_7_code 26 = .ok (.aload_n 0, 1) := by decide +kernel
theorem d_Mod_grow_27 : decode prog_10_method_7_code 27 = .ok (.iload 6, 2) := by decide +kernel
theorem d_Mod_grow_29 : decode prog_10_method_7_code 29 = .ok (.lload 7, 2) := by decide +kernel
theorem d_Mod_grow_31 : decode prog_10_method_7_code 31 = .ok (.ldc2_w 49, 3) := by decide +kernel
theorem d_Mod_grow_34 : decode prog_10_method_7_code 34 = .ok (.land, 1) := by decide +kernel
theorem d_Mod_grow_35 : decode prog_10_method_7_code 35 = .ok (.l2i, 1) := by decide +kernel
theorem d_Mod_grow_36 : decode prog_10_method_7_code 36 = .ok (.iastore, 1) := by decide +kernel
theorem d_Mod_grow_37 : decode prog_10_method_7_code 37 = .ok (.lload 7, 2) := by decide +kernel
theorem d_Mod_grow_39 : decode prog_10_method_7_code 39 = .ok (.bipush 16, 2) := by decide +kernel
theorem d_Mod_grow_41 : decode prog_10_method_7_code 41 = .ok (.lshr, 1) := by decide +kernel
theorem d_Mod_grow_42 : decode prog_10_method_7_code 42 = .ok (.lstore 4, 2) := by decide +kernel
theorem d_Mod_grow_44 : decode prog_10_method_7_code 44 = .ok (.iinc 6 1, 3) := by decide +kernel
theorem d_Mod_grow_47 : decode prog_10_method_7_code 47 = .ok (.goto (-40), 3) := by decide +kernel
theorem d_Mod_grow_50 : decode prog_10_method_7_code 50 = .ok (.aload_n 0, 1) := by decide +kernel
theorem d_Mod_grow_51 : decode prog_10_method_7_code 51 = .ok (.iload_n 1, 1) := by decide +kernel
theorem d_Mod_grow_52 : decode prog_10_method_7_code 52 = .ok (.lload 4, 2) := by decide +kernel
theorem d_Mod_grow_54 : decode prog_10_method_7_code 54 = .ok (.l2i, 1) := by decide +kernel
theorem d_Mod_grow_55 : decode prog_10_method_7_code 55 = .ok (.iastore, 1) := by decide +kernel
theorem d_Mod_grow_56 : decode prog_10_method_7_code 56 = .ok (.aload_n 0, 1) := by decide +kernel
theorem d_Mod_grow_57 : decode prog_10_method_7_code 57 = .ok (.iload_n 1, 1) := by decide +kernel
theorem d_Mod_grow_58 : decode prog_10_method_7_code 58 = .ok (.iconst 1, 1) := by decide +kernel
theorem d_Mod_grow_59 : decode prog_10_method_7_code 59 = .ok (.iadd, 1) := by decide +kernel
theorem d_Mod_grow_60 : decode prog_10_method_7_code 60 = .ok (.invokestatic 51, 3) := by decide +kernel
theorem d_Mod_grow_63 : decode prog_10_method_7_code 63 = .ok (.ireturn, 1) := by decide +kernel
def f_Mod_grow_7 (fu : Nat) (n_w0 : Nat) (x1 : Int32) (x2 : Int32) (x3 : Int32)  : Nat → Int64 → Int32 → (Nat → Int32) → Option (Int32 × (Nat → Int32))
  | 0, _, _, _ => none
  | n + 1, y4, y6, w0_a =>
  (if x1 ≤ y6 then
  if zz_in x1 n_w0 = true then
  (f_Mod_trimmed fu n_w0 (x1 + 1) (upd w0_a x1.toNatClampNeg y4.toInt32)).bind fun u_2 =>
  some (u_2, upd w0_a x1.toNatClampNeg y4.toInt32)
  else none
  else
  if zz_in y6 n_w0 = true then
  zz_lt ((((w0_a y6.toNatClampNeg).toInt64) * x2.toInt64) + y4) fun x7_4 =>
  if zz_in y6 n_w0 = true then
  zz_lt (x7_4 >>> ((16 : Int32).toInt64 &&& 63)) fun x4_6 =>
  f_Mod_grow_7 fu n_w0 x1 x2 x3 n x4_6 (y6 + 1) (upd w0_a y6.toNatClampNeg ((x7_4 &&& 65535).toInt32))
  else none
  else none)
theorem f_Mod_grow_7_s (fu : Nat) (n_w0 : Nat) (x1 : Int32) (x2 : Int32) (x3 : Int32)  (n : Nat) (y4 : Int64) (y6 : Int32) (w0_a : Nat → Int32) : f_Mod_grow_7 fu n_w0 x1 x2 x3 (n + 1) y4 y6 w0_a =
  (if x1 ≤ y6 then
  if zz_in x1 n_w0 = true then
  (f_Mod_trimmed fu n_w0 (x1 + 1) (upd w0_a x1.toNatClampNeg y4.toInt32)).bind fun u_2 =>
  some (u_2, upd w0_a x1.toNatClampNeg y4.toInt32)
  else none
  else
  if zz_in y6 n_w0 = true then
  zz_lt ((((w0_a y6.toNatClampNeg).toInt64) * x2.toInt64) + y4) fun x7_4 =>
  if zz_in y6 n_w0 = true then
  zz_lt (x7_4 >>> ((16 : Int32).toInt64 &&& 63)) fun x4_6 =>
  f_Mod_grow_7 fu n_w0 x1 x2 x3 n x4_6 (y6 + 1) (upd w0_a y6.toNatClampNeg ((x7_4 &&& 65535).toInt32))
  else none
  else none) := rfl
def f_Mod_grow (fu : Nat) (n_w0 : Nat) (x1 : Int32) (x2 : Int32) (x3 : Int32) (w0_a : Nat → Int32) : Option (Int32 × (Nat → Int32)) :=
  f_Mod_grow_7 fu n_w0 x1 x2 x3 fu x3.toInt64 0 w0_a
set_option maxHeartbeats 4000000 in
set_option maxRecDepth 100000 in
theorem c_Mod_grow (l : Launch) (dC : Nat → ClassId) (dI : Nat → Nat → Nat) (cI cC cB cJ : ClassId) (fu : Nat) (sz : Nat) (h_w0 : Nat) (n_w0 : Nat) (x1 : Int32) (x2 : Int32) (x3 : Int32) (w0_a : Nat → Int32) (u : Int32 × (Nat → Int32)) (hf : f_Mod_grow fu n_w0 x1 x2 x3 w0_a = some u) : Met l y_Mod_grow ws_Mod_grow rm_Mod_grow (zz_P zz_T (dC, dI) vwCl (zz_tys cI cC cB cJ) [.ref h_w0, .int x1, .int x2, .int x3] [(h_w0, .inl (cI, n_w0, .inl w0_a))] sz) (zz_Qi (dC, dI) vwCl u.1 [(h_w0, .inl (cI, n_w0, .inl u.2))] (va_A [(h_w0, .inl (cI, n_w0, .inl w0_a))] sz)) 0 0 (va_A [(h_w0, .inl (cI, n_w0, .inl w0_a))] sz) := by
  refine Met.ofW (cc := prog_10_method_7_code) (maxL := 9) (ret := (some .int)) (by decide +kernel) rfl ?_
  intro p e s m args below meth c s₁ B hml hv
  obtain ⟨rfl, hsz, hP, hK, hD0, hX⟩ := hv
  have hx := B.exec
  have hb := B.bytes
  have hr := B.returns
  have hts := atoms_spec (ws := ws_Mod_grow) B.pre
  have hw : ∀ w ∈ zw, w.before [.ref h_w0, .int x1, .int x2, .int x3].toArray s = true := fun w h => hts w (List.mem_cons_of_mem _ h)
  have hown : s.vm.findClass R_Mod = some m.cls := findClass_of_methodNamed B.named
  have hlocks := B.notSynchronized
  subst hsz
  have hD := hD0.self (sz := s.heap.size)
  generalize hAe : va_A [(h_w0, .inl (cI, n_w0, .inl w0_a))] s.heap.size = A at hD hX ⊢
  have hA : ∀ q : Nat, s.heap.size ≤ q → A q := fun q h => by rw [← hAe]; exact Or.inr h
  have hS : va_S A s.heap s.heap [] := va_S.rf
  have hl := lv_entry [.ref h_w0, .int x1, .int x2, .int x3] (n := 9) (Nat.le_of_ble_eq_true rfl)
  rw [lg_entry_eq]
  generalize (lg_sl [.ref h_w0, .int x1, .int x2, .int x3] ++ List.replicate (9 - (lg_sl [.ref h_w0, .int x1, .int x2, .int x3]).length) Slot.unset).toArray = ls at hl ⊢
  have hl : lv_has ls 9 [(0, .ref h_w0), (1, .int x1), (2, .int x2), (3, .int x3)] := hl
  refine zz_endi hx hb hr hlocks (fun Qq hend => ?_)
  have hL_7 : ∀ (n : Nat), ∀ (y4 : Int64) (y6 : Int32) (w0_a : Nat → Int32) (ls : Array Slot) (H : Heap) (locs : List Loc), lv_has ls 9 [(0, .ref h_w0), (1, .int x1), (2, .int x2), (4, .long y4), (6, .int y6)] → va_P (dC, dI) vwCl [(h_w0, .inl (cI, n_w0, .inl w0_a))] H → va_D A [(h_w0, .inl (cI, n_w0, .inl w0_a))] → va_S A s.heap H locs → f_Mod_grow_7 fu n_w0 x1 x2 x3 n y4 y6 w0_a = some u → W p l e (headSpec ws_Mod_grow rm_Mod_grow).room s m [.ref h_w0, .int x1, .int x2, .int x3].toArray below meth c H locs 0 0 Qq (F0 m 7 ls []) := by
    intro n
    induction n with
    | zero =>
      intro y4 y6 w0_a ls H locs hl hP hD hS hf
      exact zz_no hf
    | succ n ih =>
      intro y4 y6 w0_a ls H locs hl hP hD hS hf
      rw [f_Mod_grow_7_s] at hf
      refine lv_iload hx hb d_Mod_grow_7 (lv_at hl 4 rfl) ?_
      refine lv_iload_n hx hb d_Mod_grow_9 rfl (lv_at hl 1 rfl) ?_
      refine lv_icmp_ge (tgt := 50) hx hb d_Mod_grow_10 (by decide) (fun hc => ?_) (fun hc => ?_)
      · have hf := zz_ifp hc hf
        refine lv_aload_n hx hb d_Mod_grow_50 rfl (lv_at hl 0 rfl) ?_
        refine lv_iload_n hx hb d_Mod_grow_51 rfl (lv_at hl 1 rfl) ?_
        refine lv_lload hx hb d_Mod_grow_52 (lv_at hl 3 rfl) ?_
        refine lv_l2i hx hb d_Mod_grow_54 rfl ?_
        obtain ⟨hb_1, hf⟩ := zz_gd hf
        refine va_iast hx hb hK hP hD hS 0 0 rfl rfl (zz_vp hb_1) d_Mod_grow_55 (fun H locs hP hD hS => ?_)
        have hP : va_P (dC, dI) vwCl [(h_w0, .inl (cI, n_w0, .inl (upd w0_a x1.toNatClampNeg y4.toInt32)))] H := hP
        have hD : va_D A [(h_w0, .inl (cI, n_w0, .inl (upd w0_a x1.toNatClampNeg y4.toInt32)))] := hD
        refine lv_aload_n hx hb d_Mod_grow_56 rfl (lv_at hl 0 rfl) ?_
        refine lv_iload_n hx hb d_Mod_grow_57 rfl (lv_at hl 1 rfl) ?_
        refine lv_iconst (v := 1) hx hb d_Mod_grow_58 (by decide) ?_
        refine lv_iadd hx hb d_Mod_grow_59 ?_
        obtain ⟨u_2, hu_2, hf⟩ := zz_bd hf
        refine zz_ci (ws' := [(h_w0, .inl (cI, n_w0, .inl (upd w0_a x1.toNatClampNeg y4.toInt32)))]) (wc := [(h_w0, .inl (cI, n_w0, .inl (upd w0_a x1.toNatClampNeg y4.toInt32)))]) (w' := [(h_w0, .inl (cI, n_w0, .inl (upd w0_a x1.toNatClampNeg y4.toInt32)))]) hP hD hS hA [0] [] [0] rfl rfl (by decide) (by decide) rfl (by decide) (va_runS (As := [.ref h_w0, .int (x1 + 1)]) (rest := []) ⟨hx, hb, hml, hown, hw⟩ (c_Mod_trimmed l dC dI cI cC cB cJ fu _ h_w0 n_w0 (x1 + 1) (upd w0_a x1.toNatClampNeg y4.toInt32) u_2 hu_2) (va_cwS 2 hw (zg_S wd_794 wd_795 wd_8 wd_796) rfl rfl rfl hd_Mod_trimmed ⟨Nat.le_of_ble_eq_true rfl, Nat.le_of_ble_eq_true rfl⟩) (zz_preS zz_TE hP hD hK hS hA trivial [0] rfl (by decide)) rfl rfl hl.1 rfl (lv_room (Nat.le_of_ble_eq_true rfl)) d_Mod_grow_60 ⟨Nat.zero_le _, Nat.zero_le _⟩) (fun H locs hP hD hS => ?_)
        cases hf
        exact hend 63 ls _ _ d_Mod_grow_63 hP hD hS
      · have hf := zz_ifn hc hf
        refine lv_aload_n hx hb d_Mod_grow_13 rfl (lv_at hl 0 rfl) ?_
        refine lv_iload hx hb d_Mod_grow_14 (lv_at hl 4 rfl) ?_
        obtain ⟨hb_3, hf⟩ := zz_gd hf
        refine va_iald hx hb hK hP 0 0 rfl rfl (zz_vp hb_3) d_Mod_grow_16 ?_
        refine lv_i2l hx hb d_Mod_grow_17 rfl ?_
        refine lv_iload_n hx hb d_Mod_grow_18 rfl (lv_at hl 2 rfl) ?_
        refine lv_i2l hx hb d_Mod_grow_19 rfl ?_
        refine lv_lmul hx hb d_Mod_grow_20 ?_
        refine lv_lload hx hb d_Mod_grow_21 (lv_at hl 3 rfl) ?_
        refine lv_ladd hx hb d_Mod_grow_23 ?_
        refine lv_topl (fun x7_4 e_x7_4 => ?_)
        have hf := zz_ltp hf x7_4 e_x7_4
        refine lv_lstore hx hb d_Mod_grow_24 hl (by decide) rfl (fun ls hl => ?_)
        have hl : lv_has ls 9 [(7, .long x7_4), (0, .ref h_w0), (1, .int x1), (2, .int x2), (4, .long y4), (6, .int y6)] := hl
        refine lv_aload_n hx hb d_Mod_grow_26 rfl (lv_at hl 1 rfl) ?_
        refine lv_iload hx hb d_Mod_grow_27 (lv_at hl 5 rfl) ?_
        refine lv_lload hx hb d_Mod_grow_29 (lv_at hl 0 rfl) ?_
        refine lv_ldc2 (v := 65535) hx hb hown (hw _ wd_793) d_Mod_grow_31 ?_
        refine lv_land hx hb d_Mod_grow_34 ?_
        refine lv_l2i hx hb d_Mod_grow_35 rfl ?_
        obtain ⟨hb_5, hf⟩ := zz_gd hf
        refine va_iast hx hb hK hP hD hS 0 0 rfl rfl (zz_vp hb_5) d_Mod_grow_36 (fun H locs hP hD hS => ?_)
        have hP : va_P (dC, dI) vwCl [(h_w0, .inl (cI, n_w0, .inl (upd w0_a y6.toNatClampNeg ((x7_4 &&& 65535).toInt32))))] H := hP
        have hD : va_D A [(h_w0, .inl (cI, n_w0, .inl (upd w0_a y6.toNatClampNeg ((x7_4 &&& 65535).toInt32))))] := hD
        refine lv_lload hx hb d_Mod_grow_37 (lv_at hl 0 rfl) ?_
        refine lv_bipush (v := 16) hx hb d_Mod_grow_39 (by decide) ?_
        refine lv_lshr hx hb d_Mod_grow_41 rfl ?_
        refine lv_topl (fun x4_6 e_x4_6 => ?_)
        have hf := zz_ltp hf x4_6 e_x4_6
        refine lv_lstore hx hb d_Mod_grow_42 hl (by decide) rfl (fun ls hl => ?_)
        have hl : lv_has ls 9 [(4, .long x4_6), (7, .long x7_4), (0, .ref h_w0), (1, .int x1), (2, .int x2), (6, .int y6)] := hl
        refine lv_iinc (k := 5) (v := y6 + 1) hx hb d_Mod_grow_44 hl rfl rfl (by decide) rfl (fun ls hl => ?_)
        have hl : lv_has ls 9 [(6, .int (y6 + 1)), (4, .long x4_6), (7, .long x7_4), (0, .ref h_w0), (1, .int x1), (2, .int x2)] := hl
        refine lv_goto (tgt := 7) hx hb d_Mod_grow_47 (by decide) ?_
        exact ih x4_6 (y6 + 1) (upd w0_a y6.toNatClampNeg ((x7_4 &&& 65535).toInt32)) ls _ _ (lv_sub hl [3, 4, 5, 1, 0] rfl) hP hD hS hf
  unfold f_Mod_grow at hf
  refine lv_iload_n hx hb d_Mod_grow_0 rfl (lv_at hl 3 rfl) ?_
  refine lv_i2l hx hb d_Mod_grow_1 rfl ?_
  refine lv_lstore hx hb d_Mod_grow_2 hl (by decide) rfl (fun ls hl => ?_)
  have hl : lv_has ls 9 [(4, .long x3.toInt64), (0, .ref h_w0), (1, .int x1), (2, .int x2), (3, .int x3)] := hl
  refine lv_iconst (v := 0) hx hb d_Mod_grow_4 (by decide) ?_
  refine lv_istore hx hb d_Mod_grow_5 hl (by decide) rfl (fun ls hl => ?_)
  have hl : lv_has ls 9 [(6, .int 0), (4, .long x3.toInt64), (0, .ref h_w0), (1, .int x1), (2, .int x2), (3, .int x3)] := hl
  exact hL_7 fu x3.toInt64 0 w0_a ls _ _ (lv_sub hl [2, 3, 4, 1, 0] rfl) hP hD hS hf
abbrev ws_Mod_fives : List Cond := .code y_Mod_fives prog_10_method_8_code 5 (some .int) :: zw
abbrev rm_Mod_fives : Room := { frames := 2, cells := 0, slots := 0, locals := 50 }
theorem hd_Mod_fives : y_Mod_fives.cls ≠ "java/lang/invoke/MethodHandle" ∧ y_Mod_fives.cls ≠ "java/lang/invoke/VarHandle" ∧ (parseMethodDescriptor y_Mod_fives.desc).map (fun d => d.parameters.length) = some 3 := by decide +kernel
theorem d_Mod_fives_0 : decode prog_10_method_8_code 0 = .ok (.iload_n 1, 1) := by decide +kernel
theorem d_Mod_fives_1 : decode prog_10_method_8_code 1 = .ok (.istore_n 3, 1) := by decide +kernel
theorem d_Mod_fives_2 : decode prog_10_method_8_code 2 = .ok (.iconst 0, 1) := by decide +kernel
theorem d_Mod_fives_3 : decode prog_10_method_8_code 3 = .ok (.istore 4, 2) := by decide +kernel
theorem d_Mod_fives_5 : decode prog_10_method_8_code 5 = .ok (.iload 4, 2) := by decide +kernel
theorem d_Mod_fives_7 : decode prog_10_method_8_code 7 = .ok (.iload_n 2, 1) := by decide +kernel
theorem d_Mod_fives_8 : decode prog_10_method_8_code 8 = .ok (.if_icmp .ge 17, 3) := by decide +kernel
theorem d_Mod_fives_11 : decode prog_10_method_8_code 11 = .ok (.aload_n 0, 1) := by decide +kernel
theorem d_Mod_fives_12 : decode prog_10_method_8_code 12 = .ok (.iload_n 3, 1) := by decide +kernel
theorem d_Mod_fives_13 : decode prog_10_method_8_code 13 = .ok (.iconst 5, 1) := by decide +kernel
theorem d_Mod_fives_14 : decode prog_10_method_8_code 14 = .ok (.iconst 0, 1) := by decide +kernel
theorem d_Mod_fives_15 : decode prog_10_method_8_code 15 = .ok (.invokestatic 55, 3) := by decide +kernel
theorem d_Mod_fives_18 : decode prog_10_method_8_code 18 = .ok (.istore_n 3, 1) := by decide +kernel
theorem d_Mod_fives_19 : decode prog_10_method_8_code 19 = .ok (.iinc 4 1, 3) := by decide +kernel
theorem d_Mod_fives_22 : decode prog_10_method_8_code 22 = .ok (.goto (-17), 3) := by decide +kernel
theorem d_Mod_fives_25 : decode prog_10_method_8_code 25 = .ok (.iload_n 3, 1) := by decide +kernel
theorem d_Mod_fives_26 : decode prog_10_method_8_code 26 = .ok (.ireturn, 1) := by decide +kernel
def f_Mod_fives_5 (fu : Nat) (n_w0 : Nat) (x1 : Int32) (x2 : Int32)  : Nat → Int32 → Int32 → (Nat → Int32) → Option (Int32 × (Nat → Int32))
  | 0, _, _, _ => none
  | n + 1, y3, y4, w0_a =>
  (if x2 ≤ y4 then
  some (y3, w0_a)
  else
  (f_Mod_grow fu n_w0 y3 5 0 w0_a).bind fun u_1 =>
  f_Mod_fives_5 fu n_w0 x1 x2 n u_1.1 (y4 + 1) u_1.2)
theorem f_Mod_fives_5_s (fu : Nat) (n_w0 : Nat) (x1 : Int32) (x2 : Int32)  (n : Nat) (y3 : Int32) (y4 : Int32) (w0_a : Nat → Int32) : f_Mod_fives_5 fu n_w0 x1 x2 (n + 1) y3 y4 w0_a =
  (if x2 ≤ y4 then
  some (y3, w0_a)
  else
  (f_Mod_grow fu n_w0 y3 5 0 w0_a).bind fun u_1 =>
  f_Mod_fives_5 fu n_w0 x1 x2 n u_1.1 (y4 + 1) u_1.2) := rfl
def f_Mod_fives (fu : Nat) (n_w0 : Nat) (x1 : Int32) (x2 : Int32) (w0_a : Nat → Int32) : Option (Int32 × (Nat → Int32)) :=
  f_Mod_fives_5 fu n_w0 x1 x2 fu x1 0 w0_a
set_option maxHeartbeats 4000000 in
set_option maxRecDepth 100000 in
theorem c_Mod_fives (l : Launch) (dC : Nat → ClassId) (dI : Nat → Nat → Nat) (cI cC cB cJ : ClassId) (fu : Nat) (sz : Nat) (h_w0 : Nat) (n_w0 : Nat) (x1 : Int32) (x2 : Int32) (w0_a : Nat → Int32) (u : Int32 × (Nat → Int32)) (hf : f_Mod_fives fu n_w0 x1 x2 w0_a = some u) : Met l y_Mod_fives ws_Mod_fives rm_Mod_fives (zz_P zz_T (dC, dI) vwCl (zz_tys cI cC cB cJ) [.ref h_w0, .int x1, .int x2] [(h_w0, .inl (cI, n_w0, .inl w0_a))] sz) (zz_Qi (dC, dI) vwCl u.1 [(h_w0, .inl (cI, n_w0, .inl u.2))] (va_A [(h_w0, .inl (cI, n_w0, .inl w0_a))] sz)) 0 0 (va_A [(h_w0, .inl (cI, n_w0, .inl w0_a))] sz) := by
  refine Met.ofW (cc := prog_10_method_8_code) (maxL := 5) (ret := (some .int)) (by decide +kernel) rfl ?_
  intro p e s m args below meth c s₁ B hml hv
  obtain ⟨rfl, hsz, hP, hK, hD0, hX⟩ := hv
  have hx := B.exec
  have hb := B.bytes
  have hr := B.returns
  have hts := atoms_spec (ws := ws_Mod_fives) B.pre
  have hw : ∀ w ∈ zw, w.before [.ref h_w0, .int x1, .int x2].toArray s = true := fun w h => hts w (List.mem_cons_of_mem _ h)
  have hown : s.vm.findClass R_Mod = some m.cls := findClass_of_methodNamed B.named
  have hlocks := B.notSynchronized
  subst hsz
  have hD := hD0.self (sz := s.heap.size)
  generalize hAe : va_A [(h_w0, .inl (cI, n_w0, .inl w0_a))] s.heap.size = A at hD hX ⊢
  have hA : ∀ q : Nat, s.heap.size ≤ q → A q := fun q h => by rw [← hAe]; exact Or.inr h
  have hS : va_S A s.heap s.heap [] := va_S.rf
  have hl := lv_entry [.ref h_w0, .int x1, .int x2] (n := 5) (Nat.le_of_ble_eq_true rfl)
  rw [lg_entry_eq]
  generalize (lg_sl [.ref h_w0, .int x1, .int x2] ++ List.replicate (5 - (lg_sl [.ref h_w0, .int x1, .int x2]).length) Slot.unset).toArray = ls at hl ⊢
  have hl : lv_has ls 5 [(0, .ref h_w0), (1, .int x1), (2, .int x2)] := hl
  refine zz_endi hx hb hr hlocks (fun Qq hend => ?_)
  have hL_5 : ∀ (n : Nat), ∀ (y3 : Int32) (y4 : Int32) (w0_a : Nat → Int32) (ls : Array Slot) (H : Heap) (locs : List Loc), lv_has ls 5 [(0, .ref h_w0), (2, .int x2), (3, .int y3), (4, .int y4)] → va_P (dC, dI) vwCl [(h_w0, .inl (cI, n_w0, .inl w0_a))] H → va_D A [(h_w0, .inl (cI, n_w0, .inl w0_a))] → va_S A s.heap H locs → f_Mod_fives_5 fu n_w0 x1 x2 n y3 y4 w0_a = some u → W p l e (headSpec ws_Mod_fives rm_Mod_fives).room s m [.ref h_w0, .int x1, .int x2].toArray below meth c H locs 0 0 Qq (F0 m 5 ls []) := by
    intro n
    induction n with
    | zero =>
      intro y3 y4 w0_a ls H locs hl hP hD hS hf
      exact zz_no hf
    | succ n ih =>
      intro y3 y4 w0_a ls H locs hl hP hD hS hf
      rw [f_Mod_fives_5_s] at hf
      refine lv_iload hx hb d_Mod_fives_5 (lv_at hl 3 rfl) ?_
      refine lv_iload_n hx hb d_Mod_fives_7 rfl (lv_at hl 1 rfl) ?_
      refine lv_icmp_ge (tgt := 25) hx hb d_Mod_fives_8 (by decide) (fun hc => ?_) (fun hc => ?_)
      · have hf := zz_ifp hc hf
        refine lv_iload_n hx hb d_Mod_fives_25 rfl (lv_at hl 2 rfl) ?_
        cases hf
        exact hend 26 ls _ _ d_Mod_fives_26 hP hD hS
      · have hf := zz_ifn hc hf
        refine lv_aload_n hx hb d_Mod_fives_11 rfl (lv_at hl 0 rfl) ?_
        refine lv_iload_n hx hb d_Mod_fives_12 rfl (lv_at hl 2 rfl) ?_
        refine lv_iconst (v := 5) hx hb d_Mod_fives_13 (by decide) ?_
        refine lv_iconst (v := 0) hx hb d_Mod_fives_14 (by decide) ?_
        obtain ⟨u_1, hu_1, hf⟩ := zz_bd hf
        refine zz_ci (ws' := [(h_w0, .inl (cI, n_w0, .inl u_1.2))]) (wc := [(h_w0, .inl (cI, n_w0, .inl w0_a))]) (w' := [(h_w0, .inl (cI, n_w0, .inl u_1.2))]) hP hD hS hA [0] [] [0] rfl rfl (by decide) (by decide) rfl (by decide) (va_runS (As := [.ref h_w0, .int y3, .int 5, .int 0]) (rest := []) ⟨hx, hb, hml, hown, hw⟩ (c_Mod_grow l dC dI cI cC cB cJ fu _ h_w0 n_w0 y3 5 0 w0_a u_1 hu_1) (va_cwS 4 hw (zg_S wd_790 wd_791 wd_8 wd_792) rfl rfl rfl hd_Mod_grow ⟨Nat.le_of_ble_eq_true rfl, Nat.le_of_ble_eq_true rfl⟩) (zz_preS zz_TE hP hD hK hS hA trivial [0] rfl (by decide)) rfl rfl hl.1 rfl (lv_room (Nat.le_of_ble_eq_true rfl)) d_Mod_fives_15 ⟨Nat.zero_le _, Nat.zero_le _⟩) (fun H locs hP hD hS => ?_)
        refine lv_istore_n hx hb d_Mod_fives_18 rfl hl (by decide) rfl (fun ls hl => ?_)
        have hl : lv_has ls 5 [(3, .int u_1.1), (0, .ref h_w0), (2, .int x2), (4, .int y4)] := hl
        refine lv_iinc (k := 3) (v := y4 + 1) hx hb d_Mod_fives_19 hl rfl rfl (by decide) rfl (fun ls hl => ?_)
        have hl : lv_has ls 5 [(4, .int (y4 + 1)), (3, .int u_1.1), (0, .ref h_w0), (2, .int x2)] := hl
        refine lv_goto (tgt := 5) hx hb d_Mod_fives_22 (by decide) ?_
        exact ih u_1.1 (y4 + 1) u_1.2 ls _ _ (lv_sub hl [2, 3, 1, 0] rfl) hP hD hS hf
  unfold f_Mod_fives at hf
  refine lv_iload_n hx hb d_Mod_fives_0 rfl (lv_at hl 1 rfl) ?_
  refine lv_istore_n hx hb d_Mod_fives_1 rfl hl (by decide) rfl (fun ls hl => ?_)
  have hl : lv_has ls 5 [(3, .int x1), (0, .ref h_w0), (1, .int x1), (2, .int x2)] := hl
  refine lv_iconst (v := 0) hx hb d_Mod_fives_2 (by decide) ?_
  refine lv_istore hx hb d_Mod_fives_3 hl (by decide) rfl (fun ls hl => ?_)
  have hl : lv_has ls 5 [(4, .int 0), (3, .int x1), (0, .ref h_w0), (1, .int x1), (2, .int x2)] := hl
  exact hL_5 fu x1 0 w0_a ls _ _ (lv_sub hl [2, 4, 1, 0] rfl) hP hD hS hf
abbrev ws_Mod_set : List Cond := .code y_Mod_set prog_10_method_9_code 4 (some .int) :: zw
abbrev rm_Mod_set : Room := { frames := 1, cells := 0, slots := 0, locals := 22 }
theorem hd_Mod_set : y_Mod_set.cls ≠ "java/lang/invoke/MethodHandle" ∧ y_Mod_set.cls ≠ "java/lang/invoke/VarHandle" ∧ (parseMethodDescriptor y_Mod_set.desc).map (fun d => d.parameters.length) = some 2 := by decide +kernel
theorem d_Mod_set_0 : decode prog_10_method_9_code 0 = .ok (.iconst 0, 1) := by decide +kernel
theorem d_Mod_set_1 : decode prog_10_method_9_code 1 = .ok (.istore_n 3, 1) := by decide +kernel
theorem d_Mod_set_2 : decode prog_10_method_9_code 2 = .ok (.iload_n 3, 1) := by decide +kernel
theorem d_Mod_set_3 : decode prog_10_method_9_code 3 = .ok (.iconst 4, 1) := by decide +kernel
theorem d_Mod_set_4 : decode prog_10_method_9_code 4 = .ok (.if_icmp .ge 23, 3) := by decide +kernel
theorem d_Mod_set_7 : decode prog_10_method_9_code 7 = .ok (.aload_n 0, 1) := by decide +kernel
theorem d_Mod_set_8 : decode prog_10_method_9_code 8 = .ok (.iload_n 3, 1) := by decide +kernel
theorem d_Mod_set_9 : decode prog_10_method_9_code 9 = .ok (.lload_n 1, 1) := by decide +kernel
theorem d_Mod_set_10 : decode prog_10_method_9_code 10 = .ok (.bipush 16, 2) := by decide +kernel
theorem d_Mod_set_12 : decode prog_10_method_9_code 12 = .ok (.iload_n 3, 1) := by decide +kernel
theorem d_Mod_set_13 : decode prog_10_method_9_code 13 = .ok (.imul, 1) := by decide +kernel
theorem d_Mod_set_14 : decode prog_10_method_9_code 14 = .ok (.lshr, 1) := by decide +kernel
theorem d_Mod_set_15 : decode prog_10_method_9_code 15 = .ok (.ldc2_w 49, 3) := by decide +kernel
theorem d_Mod_set_18 : decode prog_10_method_9_code 18 = .ok (.land, 1) := by decide +kernel
theorem d_Mod_set_19 : decode prog_10_method_9_code 19 = .ok (.l2i, 1) := by decide +kernel
theorem d_Mod_set_20 : decode prog_10_method_9_code 20 = .ok (.iastore, 1) := by decide +kernel
theorem d_Mod_set_21 : decode prog_10_method_9_code 21 = .ok (.iinc 3 1, 3) := by decide +kernel
theorem d_Mod_set_24 : decode prog_10_method_9_code 24 = .ok (.goto (-22), 3) := by decide +kernel
theorem d_Mod_set_27 : decode prog_10_method_9_code 27 = .ok (.aload_n 0, 1) := by decide +kernel
theorem d_Mod_set_28 : decode prog_10_method_9_code 28 = .ok (.iconst 4, 1) := by decide +kernel
theorem d_Mod_set_29 : decode prog_10_method_9_code 29 = .ok (.invokestatic 51, 3) := by decide +kernel
theorem d_Mod_set_32 : decode prog_10_method_9_code 32 = .ok (.ireturn, 1) := by decide +kernel
def f_Mod_set_2 (fu : Nat) (n_w0 : Nat) (x1 : Int64)  : Nat → Int32 → (Nat → Int32) → Option (Int32 × (Nat → Int32))
  | 0, _, _ => none
  | n + 1, y3, w0_a =>
  (if 4 ≤ y3 then
  (f_Mod_trimmed fu n_w0 4 w0_a).bind fun u_1 =>
  some (u_1, w0_a)
  else
  if zz_in y3 n_w0 = true then
  f_Mod_set_2 fu n_w0 x1 n (y3 + 1) (upd w0_a y3.toNatClampNeg (((x1 >>> ((16 * y3).toInt64 &&& 63)) &&& 65535).toInt32))
  else none)
theorem f_Mod_set_2_s (fu : Nat) (n_w0 : Nat) (x1 : Int64)  (n : Nat) (y3 : Int32) (w0_a : Nat → Int32) : f_Mod_set_2 fu n_w0 x1 (n + 1) y3 w0_a =
  (if 4 ≤ y3 then
  (f_Mod_trimmed fu n_w0 4 w0_a).bind fun u_1 =>
  some (u_1, w0_a)
  else
  if zz_in y3 n_w0 = true then
  f_Mod_set_2 fu n_w0 x1 n (y3 + 1) (upd w0_a y3.toNatClampNeg (((x1 >>> ((16 * y3).toInt64 &&& 63)) &&& 65535).toInt32))
  else none) := rfl
def f_Mod_set (fu : Nat) (n_w0 : Nat) (x1 : Int64) (w0_a : Nat → Int32) : Option (Int32 × (Nat → Int32)) :=
  f_Mod_set_2 fu n_w0 x1 fu 0 w0_a
set_option maxHeartbeats 4000000 in
set_option maxRecDepth 100000 in
theorem c_Mod_set (l : Launch) (dC : Nat → ClassId) (dI : Nat → Nat → Nat) (cI cC cB cJ : ClassId) (fu : Nat) (sz : Nat) (h_w0 : Nat) (n_w0 : Nat) (x1 : Int64) (w0_a : Nat → Int32) (u : Int32 × (Nat → Int32)) (hf : f_Mod_set fu n_w0 x1 w0_a = some u) : Met l y_Mod_set ws_Mod_set rm_Mod_set (zz_P zz_T (dC, dI) vwCl (zz_tys cI cC cB cJ) [.ref h_w0, .long x1] [(h_w0, .inl (cI, n_w0, .inl w0_a))] sz) (zz_Qi (dC, dI) vwCl u.1 [(h_w0, .inl (cI, n_w0, .inl u.2))] (va_A [(h_w0, .inl (cI, n_w0, .inl w0_a))] sz)) 0 0 (va_A [(h_w0, .inl (cI, n_w0, .inl w0_a))] sz) := by
  refine Met.ofW (cc := prog_10_method_9_code) (maxL := 4) (ret := (some .int)) (by decide +kernel) rfl ?_
  intro p e s m args below meth c s₁ B hml hv
  obtain ⟨rfl, hsz, hP, hK, hD0, hX⟩ := hv
  have hx := B.exec
  have hb := B.bytes
  have hr := B.returns
  have hts := atoms_spec (ws := ws_Mod_set) B.pre
  have hw : ∀ w ∈ zw, w.before [.ref h_w0, .long x1].toArray s = true := fun w h => hts w (List.mem_cons_of_mem _ h)
  have hown : s.vm.findClass R_Mod = some m.cls := findClass_of_methodNamed B.named
  have hlocks := B.notSynchronized
  subst hsz
  have hD := hD0.self (sz := s.heap.size)
  generalize hAe : va_A [(h_w0, .inl (cI, n_w0, .inl w0_a))] s.heap.size = A at hD hX ⊢
  have hA : ∀ q : Nat, s.heap.size ≤ q → A q := fun q h => by rw [← hAe]; exact Or.inr h
  have hS : va_S A s.heap s.heap [] := va_S.rf
  have hl := lv_entry [.ref h_w0, .long x1] (n := 4) (Nat.le_of_ble_eq_true rfl)
  rw [lg_entry_eq]
  generalize (lg_sl [.ref h_w0, .long x1] ++ List.replicate (4 - (lg_sl [.ref h_w0, .long x1]).length) Slot.unset).toArray = ls at hl ⊢
  have hl : lv_has ls 4 [(0, .ref h_w0), (1, .long x1)] := hl
  refine zz_endi hx hb hr hlocks (fun Qq hend => ?_)
  have hL_2 : ∀ (n : Nat), ∀ (y3 : Int32) (w0_a : Nat → Int32) (ls : Array Slot) (H : Heap) (locs : List Loc), lv_has ls 4 [(0, .ref h_w0), (1, .long x1), (3, .int y3)] → va_P (dC, dI) vwCl [(h_w0, .inl (cI, n_w0, .inl w0_a))] H → va_D A [(h_w0, .inl (cI, n_w0, .inl w0_a))] → va_S A s.heap H locs → f_Mod_set_2 fu n_w0 x1 n y3 w0_a = some u → W p l e (headSpec ws_Mod_set rm_Mod_set).room s m [.ref h_w0, .long x1].toArray below meth c H locs 0 0 Qq (F0 m 2 ls []) := by
    intro n
    induction n with
    | zero =>
      intro y3 w0_a ls H locs hl hP hD hS hf
      exact zz_no hf
    | succ n ih =>
      intro y3 w0_a ls H locs hl hP hD hS hf
      rw [f_Mod_set_2_s] at hf
      refine lv_iload_n hx hb d_Mod_set_2 rfl (lv_at hl 2 rfl) ?_
      refine lv_iconst (v := 4) hx hb d_Mod_set_3 (by decide) ?_
      refine lv_icmp_ge (tgt := 27) hx hb d_Mod_set_4 (by decide) (fun hc => ?_) (fun hc => ?_)
      · have hf := zz_ifp hc hf
        refine lv_aload_n hx hb d_Mod_set_27 rfl (lv_at hl 0 rfl) ?_
        refine lv_iconst (v := 4) hx hb d_Mod_set_28 (by decide) ?_
        obtain ⟨u_1, hu_1, hf⟩ := zz_bd hf
        refine zz_ci (ws' := [(h_w0, .inl (cI, n_w0, .inl w0_a))]) (wc := [(h_w0, .inl (cI, n_w0, .inl w0_a))]) (w' := [(h_w0, .inl (cI, n_w0, .inl w0_a))]) hP hD hS hA [0] [] [0] rfl rfl (by decide) (by decide) rfl (by decide) (va_runS (As := [.ref h_w0, .int 4]) (rest := []) ⟨hx, hb, hml, hown, hw⟩ (c_Mod_trimmed l dC dI cI cC cB cJ fu _ h_w0 n_w0 4 w0_a u_1 hu_1) (va_cwS 2 hw (zg_S wd_794 wd_795 wd_8 wd_796) rfl rfl rfl hd_Mod_trimmed ⟨Nat.le_of_ble_eq_true rfl, Nat.le_of_ble_eq_true rfl⟩) (zz_preS zz_TE hP hD hK hS hA trivial [0] rfl (by decide)) rfl rfl hl.1 rfl (lv_room (Nat.le_of_ble_eq_true rfl)) d_Mod_set_29 ⟨Nat.zero_le _, Nat.zero_le _⟩) (fun H locs hP hD hS => ?_)
        cases hf
        exact hend 32 ls _ _ d_Mod_set_32 hP hD hS
      · have hf := zz_ifn hc hf
        refine lv_aload_n hx hb d_Mod_set_7 rfl (lv_at hl 0 rfl) ?_
        refine lv_iload_n hx hb d_Mod_set_8 rfl (lv_at hl 2 rfl) ?_
        refine lv_lload_n hx hb d_Mod_set_9 rfl (lv_at hl 1 rfl) ?_
        refine lv_bipush (v := 16) hx hb d_Mod_set_10 (by decide) ?_
        refine lv_iload_n hx hb d_Mod_set_12 rfl (lv_at hl 2 rfl) ?_
        refine lv_imul hx hb d_Mod_set_13 ?_
        refine lv_lshr hx hb d_Mod_set_14 rfl ?_
        refine lv_ldc2 (v := 65535) hx hb hown (hw _ wd_793) d_Mod_set_15 ?_
        refine lv_land hx hb d_Mod_set_18 ?_
        refine lv_l2i hx hb d_Mod_set_19 rfl ?_
        obtain ⟨hb_2, hf⟩ := zz_gd hf
        refine va_iast hx hb hK hP hD hS 0 0 rfl rfl (zz_vp hb_2) d_Mod_set_20 (fun H locs hP hD hS => ?_)
        have hP : va_P (dC, dI) vwCl [(h_w0, .inl (cI, n_w0, .inl (upd w0_a y3.toNatClampNeg (((x1 >>> ((16 * y3).toInt64 &&& 63)) &&& 65535).toInt32))))] H := hP
        have hD : va_D A [(h_w0, .inl (cI, n_w0, .inl (upd w0_a y3.toNatClampNeg (((x1 >>> ((16 * y3).toInt64 &&& 63)) &&& 65535).toInt32))))] := hD
        refine lv_iinc (k := 2) (v := y3 + 1) hx hb d_Mod_set_21 hl rfl rfl (by decide) rfl (fun ls hl => ?_)
        have hl : lv_has ls 4 [(3, .int (y3 + 1)), (0, .ref h_w0), (1, .long x1)] := hl
        refine lv_goto (tgt := 2) hx hb d_Mod_set_24 (by decide) ?_
        exact ih (y3 + 1) (upd w0_a y3.toNatClampNeg (((x1 >>> ((16 * y3).toInt64 &&& 63)) &&& 65535).toInt32)) ls _ _ (lv_sub hl [1, 2, 0] rfl) hP hD hS hf
  unfold f_Mod_set at hf
  refine lv_iconst (v := 0) hx hb d_Mod_set_0 (by decide) ?_
  refine lv_istore_n hx hb d_Mod_set_1 rfl hl (by decide) rfl (fun ls hl => ?_)
  have hl : lv_has ls 4 [(3, .int 0), (0, .ref h_w0), (1, .long x1)] := hl
  exact hL_2 fu 0 w0_a ls _ _ (lv_sub hl [1, 2, 0] rfl) hP hD hS hf
abbrev ws_Mod_shifted : List Cond := .code y_Mod_shifted prog_10_method_10_code 6 (some .int) :: zw
abbrev rm_Mod_shifted : Room := { frames := 2, cells := 0, slots := 0, locals := 50 }
theorem hd_Mod_shifted : y_Mod_shifted.cls ≠ "java/lang/invoke/MethodHandle" ∧ y_Mod_shifted.cls ≠ "java/lang/invoke/VarHandle" ∧ (parseMethodDescriptor y_Mod_shifted.desc).map (fun d => d.parameters.length) = some 3 := by decide +kernel
theorem d_Mod_shifted_0 : decode prog_10_method_10_code 0 = .ok (.iload_n 2, 1) := by decide +kernel
theorem d_Mod_shifted_1 : decode prog_10_method_10_code 1 = .ok (.bipush 16, 2) := by decide +kernel
theorem d_Mod_shifted_3 : decode prog_10_method_10_code 3 = .ok (.idiv, 1) := by decide +kernel
theorem d_Mod_shifted_4 : decode prog_10_method_10_code 4 = .ok (.istore_n 3, 1) := by decide +kernel
theorem d_Mod_shifted_5 : decode prog_10_method_10_code 5 = .ok (.iload_n 2, 1) := by decide +kernel
theorem d_Mod_shifted_6 : decode prog_10_method_10_code 6 = .ok (.bipush 16, 2) := by decide +kernel
theorem d_Mod_shifted_8 : decode prog_10_method_10_code 8 = .ok (.iload_n 3, 1) := by decide +kernel
theorem d_Mod_shifted_9 : decode prog_10_method_10_code 9 = .ok (.imul, 1) := by decide +kernel
theorem d_Mod_shifted_10 : decode prog_10_method_10_code 10 = .ok (.isub, 1) := by decide +kernel
theorem d_Mod_shifted_11 : decode prog_10_method_10_code 11 = .ok (.istore 4, 2) := by decide +kernel
theorem d_Mod_shifted_13 : decode prog_10_method_10_code 13 = .ok (.iload_n 1, 1) := by decide +kernel
theorem d_Mod_shifted_14 : decode prog_10_method_10_code 14 = .ok (.iconst 1, 1) := by decide +kernel
theorem d_Mod_shifted_15 : decode prog_10_method_10_code 15 = .ok (.isub, 1) := by decide +kernel
theorem d_Mod_shifted_16 : decode prog_10_method_10_code 16 = .ok (.istore 5, 2) := by decide +kernel
theorem d_Mod_shifted_18 : decode prog_10_method_10_code 18 = .ok (.iload 5, 2) := by decide +kernel
theorem d_Mod_shifted_20 : decode prog_10_method_10_code 20 = .ok (.ifCond .lt 19, 3) := by decide +kernel
theorem d_Mod_shifted_23 : decode prog_10_method_10_code 23 = .ok (.aload_n 0, 1) := by decide +kernel
theorem d_Mod_shifted_24 : decode prog_10_method_10_code 24 = .ok (.iload 5, 2) := by decide +kernel
theorem d_Mod_shifted_26 : decode prog_10_method_10_code 26 = .ok (.iload_n 3, 1) := by decide +kernel
theorem d_Mod_shifted_27 : decode prog_10_method_10_code 27 = .ok (.iadd, 1) := by decide +kernel
theorem d_Mod_shifted_28 : decode prog_10_method_10_code 28 = .ok (.aload_n 0, 1) := by decide +kernel
theorem d_Mod_shifted_29 : decode prog_10_method_10_code 29 = .ok (.iload 5, 2) := by decide +kernel
theorem d_Mod_shifted_31 : decode prog_10_method_10_code 31 = .ok (.iaload, 1) := by decide +kernel
theorem d_Mod_shifted_32 : decode prog_10_method_10_code 32 = .ok (.iastore, 1) := by decide +kernel
theorem d_Mod_shifted_33 : decode prog_10_method_10_code 33 = .ok (.iinc 5 (-1), 3) := by decide +kernel
theorem d_Mod_shifted_36 : decode prog_10_method_10_code 36 = .ok (.goto (-18), 3) := by decide +kernel
theorem d_Mod_shifted_39 : decode prog_10_method_10_code 39 = .ok (.iconst 0, 1) := by decide +kernel
theorem d_Mod_shifted_40 : decode prog_10_method_10_code 40 = .ok (.istore 5, 2) := by decide +kernel
theorem d_Mod_shifted_42 : decode prog_10_method_10_code 42 = .ok (.iload 5, 2) := by decide +kernel
theorem d_Mod_shifted_44 : decode prog_10_method_10_code 44 = .ok (.iload_n 3, 1) := by decide +kernel
theorem d_Mod_shifted_45 : decode prog_10_method_10_code 45 = .ok (.if_icmp .ge 14, 3) := by decide +kernel
theorem d_Mod_shifted_48 : decode prog_10_method_10_code 48 = .ok (.aload_n 0, 1) := by decide +kernel
theorem d_Mod_shifted_49 : decode prog_10_method_10_code 49 = .ok (.iload 5, 2) := by decide +kernel
theorem d_Mod_shifted_51 : decode prog_10_method_10_code 51 = .ok (.iconst 0, 1) := by decide +kernel
theorem d_Mod_shifted_52 : decode prog_10_method_10_code 52 = .ok (.iastore, 1) := by decide +kernel
theorem d_Mod_shifted_53 : decode prog_10_method_10_code 53 = .ok (.iinc 5 1, 3) := by decide +kernel
theorem d_Mod_shifted_56 : decode prog_10_method_10_code 56 = .ok (.goto (-14), 3) := by decide +kernel
theorem d_Mod_shifted_59 : decode prog_10_method_10_code 59 = .ok (.aload_n 0, 1) := by decide +kernel
theorem d_Mod_shifted_60 : decode prog_10_method_10_code 60 = .ok (.iload_n 1, 1) := by decide +kernel
theorem d_Mod_shifted_61 : decode prog_10_method_10_code 61 = .ok (.iload_n 3, 1) := by decide +kernel
theorem d_Mod_shifted_62 : decode prog_10_method_10_code 62 = .ok (.iadd, 1) := by decide +kernel
theorem d_Mod_shifted_63 : decode prog_10_method_10_code 63 = .ok (.iconst 1, 1) := by decide +kernel
theorem d_Mod_shifted_64 : decode prog_10_method_10_code 64 = .ok (.iload 4, 2) := by decide +kernel
theorem d_Mod_shifted_66 : decode prog_10_method_10_code 66 = .ok (.ishl, 1) := by decide +kernel
theorem d_Mod_shifted_67 : decode prog_10_method_10_code 67 = .ok (.iconst 0, 1) := by decide +kernel
theorem d_Mod_shifted_68 : decode prog_10_method_10_code 68 = .ok (.invokestatic 55, 3) := by decide +kernel
theorem d_Mod_shifted_71 : decode prog_10_method_10_code 71 = .ok (.ireturn, 1) := by decide +kernel
def f_Mod_shifted_42 (fu : Nat) (n_w0 : Nat) (x1 : Int32) (x2 : Int32)  : Nat → Int32 → Int32 → Int32 → (Nat → Int32) → Option (Int32 × (Nat → Int32))
  | 0, _, _, _, _ => none
  | n + 1, y3, y4, y5, w0_a =>
  (if y3 ≤ y5 then
  (f_Mod_grow fu n_w0 (x1 + y3) (1 <<< (y4 &&& 31)) 0 w0_a).bind fun u_4 =>
  some (u_4.1, u_4.2)
  else
  if zz_in y5 n_w0 = true then
  f_Mod_shifted_42 fu n_w0 x1 x2 n y3 y4 (y5 + 1) (upd w0_a y5.toNatClampNeg 0)
  else none)
theorem f_Mod_shifted_42_s (fu : Nat) (n_w0 : Nat) (x1 : Int32) (x2 : Int32)  (n : Nat) (y3 : Int32) (y4 : Int32) (y5 : Int32) (w0_a : Nat → Int32) : f_Mod_shifted_42 fu n_w0 x1 x2 (n + 1) y3 y4 y5 w0_a =
  (if y3 ≤ y5 then
  (f_Mod_grow fu n_w0 (x1 + y3) (1 <<< (y4 &&& 31)) 0 w0_a).bind fun u_4 =>
  some (u_4.1, u_4.2)
  else
  if zz_in y5 n_w0 = true then
  f_Mod_shifted_42 fu n_w0 x1 x2 n y3 y4 (y5 + 1) (upd w0_a y5.toNatClampNeg 0)
  else none) := rfl
def f_Mod_shifted_18 (fu : Nat) (n_w0 : Nat) (x1 : Int32) (x2 : Int32)  : Nat → Int32 → Int32 → Int32 → (Nat → Int32) → Option (Int32 × (Nat → Int32))
  | 0, _, _, _, _ => none
  | n + 1, y3, y4, y5, w0_a =>
  (if y5 < 0 then
  f_Mod_shifted_42 fu n_w0 x1 x2 fu y3 y4 0 w0_a
  else
  if zz_in y5 n_w0 = true then
  if zz_in (y5 + y3) n_w0 = true then
  f_Mod_shifted_18 fu n_w0 x1 x2 n y3 y4 (y5 + (-1)) (upd w0_a (y5 + y3).toNatClampNeg (w0_a y5.toNatClampNeg))
  else none
  else none)
theorem f_Mod_shifted_18_s (fu : Nat) (n_w0 : Nat) (x1 : Int32) (x2 : Int32)  (n : Nat) (y3 : Int32) (y4 : Int32) (y5 : Int32) (w0_a : Nat → Int32) : f_Mod_shifted_18 fu n_w0 x1 x2 (n + 1) y3 y4 y5 w0_a =
  (if y5 < 0 then
  f_Mod_shifted_42 fu n_w0 x1 x2 fu y3 y4 0 w0_a
  else
  if zz_in y5 n_w0 = true then
  if zz_in (y5 + y3) n_w0 = true then
  f_Mod_shifted_18 fu n_w0 x1 x2 n y3 y4 (y5 + (-1)) (upd w0_a (y5 + y3).toNatClampNeg (w0_a y5.toNatClampNeg))
  else none
  else none) := rfl
def f_Mod_shifted (fu : Nat) (n_w0 : Nat) (x1 : Int32) (x2 : Int32) (w0_a : Nat → Int32) : Option (Int32 × (Nat → Int32)) :=
  zz_lt (x2 / 16) fun x3_1 =>
  zz_lt (x2 - (16 * x3_1)) fun x4_2 =>
  zz_lt (x1 - 1) fun x5_3 =>
  f_Mod_shifted_18 fu n_w0 x1 x2 fu x3_1 x4_2 x5_3 w0_a
set_option maxHeartbeats 4000000 in
set_option maxRecDepth 100000 in
theorem c_Mod_shifted (l : Launch) (dC : Nat → ClassId) (dI : Nat → Nat → Nat) (cI cC cB cJ : ClassId) (fu : Nat) (sz : Nat) (h_w0 : Nat) (n_w0 : Nat) (x1 : Int32) (x2 : Int32) (w0_a : Nat → Int32) (u : Int32 × (Nat → Int32)) (hf : f_Mod_shifted fu n_w0 x1 x2 w0_a = some u) : Met l y_Mod_shifted ws_Mod_shifted rm_Mod_shifted (zz_P zz_T (dC, dI) vwCl (zz_tys cI cC cB cJ) [.ref h_w0, .int x1, .int x2] [(h_w0, .inl (cI, n_w0, .inl w0_a))] sz) (zz_Qi (dC, dI) vwCl u.1 [(h_w0, .inl (cI, n_w0, .inl u.2))] (va_A [(h_w0, .inl (cI, n_w0, .inl w0_a))] sz)) 0 0 (va_A [(h_w0, .inl (cI, n_w0, .inl w0_a))] sz) := by
  refine Met.ofW (cc := prog_10_method_10_code) (maxL := 6) (ret := (some .int)) (by decide +kernel) rfl ?_
  intro p e s m args below meth c s₁ B hml hv
  obtain ⟨rfl, hsz, hP, hK, hD0, hX⟩ := hv
  have hx := B.exec
  have hb := B.bytes
  have hr := B.returns
  have hts := atoms_spec (ws := ws_Mod_shifted) B.pre
  have hw : ∀ w ∈ zw, w.before [.ref h_w0, .int x1, .int x2].toArray s = true := fun w h => hts w (List.mem_cons_of_mem _ h)
  have hown : s.vm.findClass R_Mod = some m.cls := findClass_of_methodNamed B.named
  have hlocks := B.notSynchronized
  subst hsz
  have hD := hD0.self (sz := s.heap.size)
  generalize hAe : va_A [(h_w0, .inl (cI, n_w0, .inl w0_a))] s.heap.size = A at hD hX ⊢
  have hA : ∀ q : Nat, s.heap.size ≤ q → A q := fun q h => by rw [← hAe]; exact Or.inr h
  have hS : va_S A s.heap s.heap [] := va_S.rf
  have hl := lv_entry [.ref h_w0, .int x1, .int x2] (n := 6) (Nat.le_of_ble_eq_true rfl)
  rw [lg_entry_eq]
  generalize (lg_sl [.ref h_w0, .int x1, .int x2] ++ List.replicate (6 - (lg_sl [.ref h_w0, .int x1, .int x2]).length) Slot.unset).toArray = ls at hl ⊢
  have hl : lv_has ls 6 [(0, .ref h_w0), (1, .int x1), (2, .int x2)] := hl
  refine zz_endi hx hb hr hlocks (fun Qq hend => ?_)
  have hL_42 : ∀ (n : Nat), ∀ (y3 : Int32) (y4 : Int32) (y5 : Int32) (w0_a : Nat → Int32) (ls : Array Slot) (H : Heap) (locs : List Loc), lv_has ls 6 [(0, .ref h_w0), (1, .int x1), (3, .int y3), (4, .int y4), (5, .int y5)] → va_P (dC, dI) vwCl [(h_w0, .inl (cI, n_w0, .inl w0_a))] H → va_D A [(h_w0, .inl (cI, n_w0, .inl w0_a))] → va_S A s.heap H locs → f_Mod_shifted_42 fu n_w0 x1 x2 n y3 y4 y5 w0_a = some u → W p l e (headSpec ws_Mod_shifted rm_Mod_shifted).room s m [.ref h_w0, .int x1, .int x2].toArray below meth c H locs 0 0 Qq (F0 m 42 ls []) := by
    intro n
    induction n with
    | zero =>
      intro y3 y4 y5 w0_a ls H locs hl hP hD hS hf
      exact zz_no hf
    | succ n ih =>
      intro y3 y4 y5 w0_a ls H locs hl hP hD hS hf
      rw [f_Mod_shifted_42_s] at hf
      refine lv_iload hx hb d_Mod_shifted_42 (lv_at hl 4 rfl) ?_
      refine lv_iload_n hx hb d_Mod_shifted_44 rfl (lv_at hl 2 rfl) ?_
      refine lv_icmp_ge (tgt := 59) hx hb d_Mod_shifted_45 (by decide) (fun hc => ?_) (fun hc => ?_)
      · have hf := zz_ifp hc hf
        refine lv_aload_n hx hb d_Mod_shifted_59 rfl (lv_at hl 0 rfl) ?_
        refine lv_iload_n hx hb d_Mod_shifted_60 rfl (lv_at hl 1 rfl) ?_
        refine lv_iload_n hx hb d_Mod_shifted_61 rfl (lv_at hl 2 rfl) ?_
        refine lv_iadd hx hb d_Mod_shifted_62 ?_
        refine lv_iconst (v := 1) hx hb d_Mod_shifted_63 (by decide) ?_
        refine lv_iload hx hb d_Mod_shifted_64 (lv_at hl 3 rfl) ?_
        refine lv_ishl hx hb d_Mod_shifted_66 ?_
        refine lv_iconst (v := 0) hx hb d_Mod_shifted_67 (by decide) ?_
        obtain ⟨u_4, hu_4, hf⟩ := zz_bd hf
        refine zz_ci (ws' := [(h_w0, .inl (cI, n_w0, .inl u_4.2))]) (wc := [(h_w0, .inl (cI, n_w0, .inl w0_a))]) (w' := [(h_w0, .inl (cI, n_w0, .inl u_4.2))]) hP hD hS hA [0] [] [0] rfl rfl (by decide) (by decide) rfl (by decide) (va_runS (As := [.ref h_w0, .int (x1 + y3), .int (1 <<< (y4 &&& 31)), .int 0]) (rest := []) ⟨hx, hb, hml, hown, hw⟩ (c_Mod_grow l dC dI cI cC cB cJ fu _ h_w0 n_w0 (x1 + y3) (1 <<< (y4 &&& 31)) 0 w0_a u_4 hu_4) (va_cwS 4 hw (zg_S wd_790 wd_791 wd_8 wd_792) rfl rfl rfl hd_Mod_grow ⟨Nat.le_of_ble_eq_true rfl, Nat.le_of_ble_eq_true rfl⟩) (zz_preS zz_TE hP hD hK hS hA trivial [0] rfl (by decide)) rfl rfl hl.1 rfl (lv_room (Nat.le_of_ble_eq_true rfl)) d_Mod_shifted_68 ⟨Nat.zero_le _, Nat.zero_le _⟩) (fun H locs hP hD hS => ?_)
        cases hf
        exact hend 71 ls _ _ d_Mod_shifted_71 hP hD hS
      · have hf := zz_ifn hc hf
        refine lv_aload_n hx hb d_Mod_shifted_48 rfl (lv_at hl 0 rfl) ?_
        refine lv_iload hx hb d_Mod_shifted_49 (lv_at hl 4 rfl) ?_
        refine lv_iconst (v := 0) hx hb d_Mod_shifted_51 (by decide) ?_
        obtain ⟨hb_5, hf⟩ := zz_gd hf
        refine va_iast hx hb hK hP hD hS 0 0 rfl rfl (zz_vp hb_5) d_Mod_shifted_52 (fun H locs hP hD hS => ?_)
        have hP : va_P (dC, dI) vwCl [(h_w0, .inl (cI, n_w0, .inl (upd w0_a y5.toNatClampNeg 0)))] H := hP
        have hD : va_D A [(h_w0, .inl (cI, n_w0, .inl (upd w0_a y5.toNatClampNeg 0)))] := hD
        refine lv_iinc (k := 4) (v := y5 + 1) hx hb d_Mod_shifted_53 hl rfl rfl (by decide) rfl (fun ls hl => ?_)
        have hl : lv_has ls 6 [(5, .int (y5 + 1)), (0, .ref h_w0), (1, .int x1), (3, .int y3), (4, .int y4)] := hl
        refine lv_goto (tgt := 42) hx hb d_Mod_shifted_56 (by decide) ?_
        exact ih y3 y4 (y5 + 1) (upd w0_a y5.toNatClampNeg 0) ls _ _ (lv_sub hl [1, 2, 3, 4, 0] rfl) hP hD hS hf
  have hL_18 : ∀ (n : Nat), ∀ (y3 : Int32) (y4 : Int32) (y5 : Int32) (w0_a : Nat → Int32) (ls : Array Slot) (H : Heap) (locs : List Loc), lv_has ls 6 [(0, .ref h_w0), (1, .int x1), (3, .int y3), (4, .int y4), (5, .int y5)] → va_P (dC, dI) vwCl [(h_w0, .inl (cI, n_w0, .inl w0_a))] H → va_D A [(h_w0, .inl (cI, n_w0, .inl w0_a))] → va_S A s.heap H locs → f_Mod_shifted_18 fu n_w0 x1 x2 n y3 y4 y5 w0_a = some u → W p l e (headSpec ws_Mod_shifted rm_Mod_shifted).room s m [.ref h_w0, .int x1, .int x2].toArray below meth c H locs 0 0 Qq (F0 m 18 ls []) := by
    intro n
    induction n with
    | zero =>
      intro y3 y4 y5 w0_a ls H locs hl hP hD hS hf
      exact zz_no hf
    | succ n ih =>
      intro y3 y4 y5 w0_a ls H locs hl hP hD hS hf
      rw [f_Mod_shifted_18_s] at hf
      refine lv_iload hx hb d_Mod_shifted_18 (lv_at hl 4 rfl) ?_
      refine lv_if_lt (tgt := 39) hx hb d_Mod_shifted_20 (by decide) (fun hc => ?_) (fun hc => ?_)
      · have hf := zz_ifp hc hf
        refine lv_iconst (v := 0) hx hb d_Mod_shifted_39 (by decide) ?_
        refine lv_istore hx hb d_Mod_shifted_40 hl (by decide) rfl (fun ls hl => ?_)
        have hl : lv_has ls 6 [(5, .int 0), (0, .ref h_w0), (1, .int x1), (3, .int y3), (4, .int y4)] := hl
        exact hL_42 fu y3 y4 0 w0_a ls _ _ (lv_sub hl [1, 2, 3, 4, 0] rfl) hP hD hS hf
      · have hf := zz_ifn hc hf
        refine lv_aload_n hx hb d_Mod_shifted_23 rfl (lv_at hl 0 rfl) ?_
        refine lv_iload hx hb d_Mod_shifted_24 (lv_at hl 4 rfl) ?_
        refine lv_iload_n hx hb d_Mod_shifted_26 rfl (lv_at hl 2 rfl) ?_
        refine lv_iadd hx hb d_Mod_shifted_27 ?_
        refine lv_aload_n hx hb d_Mod_shifted_28 rfl (lv_at hl 0 rfl) ?_
        refine lv_iload hx hb d_Mod_shifted_29 (lv_at hl 4 rfl) ?_
        obtain ⟨hb_6, hf⟩ := zz_gd hf
        refine va_iald hx hb hK hP 0 0 rfl rfl (zz_vp hb_6) d_Mod_shifted_31 ?_
        obtain ⟨hb_7, hf⟩ := zz_gd hf
        refine va_iast hx hb hK hP hD hS 0 0 rfl rfl (zz_vp hb_7) d_Mod_shifted_32 (fun H locs hP hD hS => ?_)
        have hP : va_P (dC, dI) vwCl [(h_w0, .inl (cI, n_w0, .inl (upd w0_a (y5 + y3).toNatClampNeg (w0_a y5.toNatClampNeg))))] H := hP
        have hD : va_D A [(h_w0, .inl (cI, n_w0, .inl (upd w0_a (y5 + y3).toNatClampNeg (w0_a y5.toNatClampNeg))))] := hD
        refine lv_iinc (k := 4) (v := y5 + (-1)) hx hb d_Mod_shifted_33 hl rfl rfl (by decide) rfl (fun ls hl => ?_)
        have hl : lv_has ls 6 [(5, .int (y5 + (-1))), (0, .ref h_w0), (1, .int x1), (3, .int y3), (4, .int y4)] := hl
        refine lv_goto (tgt := 18) hx hb d_Mod_shifted_36 (by decide) ?_
        exact ih y3 y4 (y5 + (-1)) (upd w0_a (y5 + y3).toNatClampNeg (w0_a y5.toNatClampNeg)) ls _ _ (lv_sub hl [1, 2, 3, 4, 0] rfl) hP hD hS hf
  unfold f_Mod_shifted at hf
  refine lv_iload_n hx hb d_Mod_shifted_0 rfl (lv_at hl 2 rfl) ?_
  refine lv_bipush (v := 16) hx hb d_Mod_shifted_1 (by decide) ?_
  refine lv_idiv hx hb d_Mod_shifted_3 (by decide) ?_
  refine lv_topi (fun x3_1 e_x3_1 => ?_)
  have hf := zz_ltp hf x3_1 e_x3_1
  refine lv_istore_n hx hb d_Mod_shifted_4 rfl hl (by decide) rfl (fun ls hl => ?_)
  have hl : lv_has ls 6 [(3, .int x3_1), (0, .ref h_w0), (1, .int x1), (2, .int x2)] := hl
  refine lv_iload_n hx hb d_Mod_shifted_5 rfl (lv_at hl 3 rfl) ?_
  refine lv_bipush (v := 16) hx hb d_Mod_shifted_6 (by decide) ?_
  refine lv_iload_n hx hb d_Mod_shifted_8 rfl (lv_at hl 0 rfl) ?_
  refine lv_imul hx hb d_Mod_shifted_9 ?_
  refine lv_isub hx hb d_Mod_shifted_10 ?_
  refine lv_topi (fun x4_2 e_x4_2 => ?_)
  have hf := zz_ltp hf x4_2 e_x4_2
  refine lv_istore hx hb d_Mod_shifted_11 hl (by decide) rfl (fun ls hl => ?_)
  have hl : lv_has ls 6 [(4, .int x4_2), (3, .int x3_1), (0, .ref h_w0), (1, .int x1), (2, .int x2)] := hl
  refine lv_iload_n hx hb d_Mod_shifted_13 rfl (lv_at hl 3 rfl) ?_
  refine lv_iconst (v := 1) hx hb d_Mod_shifted_14 (by decide) ?_
  refine lv_isub hx hb d_Mod_shifted_15 ?_
  refine lv_topi (fun x5_3 e_x5_3 => ?_)
  have hf := zz_ltp hf x5_3 e_x5_3
  refine lv_istore hx hb d_Mod_shifted_16 hl (by decide) rfl (fun ls hl => ?_)
  have hl : lv_has ls 6 [(5, .int x5_3), (4, .int x4_2), (3, .int x3_1), (0, .ref h_w0), (1, .int x1), (2, .int x2)] := hl
  exact hL_18 fu x3_1 x4_2 x5_3 w0_a ls _ _ (lv_sub hl [3, 4, 2, 1, 0] rfl) hP hD hS hf
abbrev ws_Mod_times : List Cond := .code y_Mod_times prog_10_method_11_code 14 (some .int) :: zw
abbrev rm_Mod_times : Room := { frames := 1, cells := 0, slots := 0, locals := 22 }
theorem hd_Mod_times : y_Mod_times.cls = "RealTextModel" ∧ y_Mod_times.cls ≠ "java/lang/invoke/MethodHandle" ∧ y_Mod_times.cls ≠ "java/lang/invoke/VarHandle" ∧ (parseMethodDescriptor y_Mod_times.desc).map (fun d => d.parameters.length) = some 4 := by decide +kernel
theorem d_Mod_times_0 : decode prog_10_method_11_code 0 = .ok (.iconst 0, 1) := by decide +kernel
theorem d_Mod_times_1 : decode prog_10_method_11_code 1 = .ok (.istore 6, 2) := by decide +kernel
theorem d_Mod_times_3 : decode prog_10_method_11_code 3 = .ok (.iload 6, 2) := by decide +kernel
theorem d_Mod_times_5 : decode prog_10_method_11_code 5 = .ok (.iload_n 2, 1) := by decide +kernel
theorem d_Mod_times_6 : decode prog_10_method_11_code 6 = .ok (.iconst 5, 1) := by decide +kernel
theorem d_Mod_times_7 : decode prog_10_method_11_code 7 = .ok (.iadd, 1) := by decide +kernel
theorem d_Mod_times_8 : decode prog_10_method_11_code 8 = .ok (.if_icmp .ge 15, 3) := by decide +kernel
theorem d_Mod_times_11 : decode prog_10_method_11_code 11 = .ok (.aload 5, 2) := by decide +kernel
theorem d_Mod_times_13 : decode prog_10_method_11_code 13 = .ok (.iload 6, 2) := by decide +kernel
theorem d_Mod_times_15 : decode prog_10_method_11_code 15 = .ok (.iconst 0, 1) := by decide +kernel
theorem d_Mod_times_16 : decode prog_10_method_11_code 16 = .ok (.iastore, 1) := by decide +kernel
theorem d_Mod_times_17 : decode prog_10_method_11_code 17 = .ok (.iinc 6 1, 3) := by decide +kernel
theorem d_Mod_times_20 : decode prog_10_method_11_code 20 = .ok (.goto (-17), 3) := by decide +kernel
theorem d_Mod_times_23 : decode prog_10_method_11_code 23 = .ok (.iconst 0, 1) := by decide +kernel
theorem d_Mod_times_24 : decode prog_10_method_11_code 24 = .ok (.istore 6, 2) := by decide +kernel
theorem d_Mod_times_26 : decode prog_10_method_11_code 26 = .ok (.iload 6, 2) := by decide +kernel
theorem d_Mod_times_28 : decode prog_10_method_11_code 28 = .ok (.iconst 4, 1) := by decide +kernel
theorem d_Mod_times_29 : decode prog_10_method_11_code 29 = .ok (.if_icmp .ge 95, 3) := by decide +kernel
theorem d_Mod_times_32 : decode prog_10_method_11_code 32 = .ok (.lload_n 3, 1) := by decide +kernel
theorem d_Mod_times_33 : decode prog_10_method_11_code 33 = .ok (.bipush 16, 2) := by decide +kernel
theorem d_Mod_times_35 : decode prog_10_method_11_code 35 = .ok (.iload 6, 2) := by decide +kernel
theorem d_Mod_times_37 : decode prog_10_method_11_code 37 = .ok (.imul, 1) := by decide +kernel
theorem d_Mod_times_38 : decode prog_10_method_11_code 38 = .ok (.lshr, 1) := by decide +kernel
theorem d_Mod_times_39 : decode prog_10_method_11_code 39 = .ok (.ldc2_w 49, 3) := by decide +kernel
theorem d_Mod_times_42 : decode prog_10_method_11_code 42 = .ok (.land, 1) := by decide +kernel
theorem d_Mod_times_43 : decode prog_10_method_11_code 43 = .ok (.lstore 7, 2) := by decide +kernel
theorem d_Mod_times_45 : decode prog_10_method_11_code 45 = .ok (.lconst 0, 1) := by decide +kernel
theorem d_Mod_times_46 : decode prog_10_method_11_code 46 = .ok (.lstore 9, 2) := by decide +kernel
theorem d_Mod_times_48 : decode prog_10_method_11_code 48 = .ok (.iconst 0, 1) := by decide +kernel
theorem d_Mod_times_49 : decode prog_10_method_11_code 49 = .ok (.istore 11, 2) := by decide +kernel
theorem d_Mod_times_51 : decode prog_10_method_11_code 51 = .ok (.iload 11, 2) := by decide +kernel
theorem d_Mod_times_53 : decode prog_10_method_11_code 53 = .ok (.iload_n 2, 1) := by decide +kernel
theorem d_Mod_times_54 : decode prog_10_method_11_code 54 = .ok (.if_icmp .gt 64, 3) := by decide +kernel
theorem d_Mod_times_57 : decode prog_10_method_11_code 57 = .ok (.aload 5, 2) := by decide +kernel
theorem d_Mod_times_59 : decode prog_10_method_11_code 59 = .ok (.iload 11, 2) := by decide +kernel
theorem d_Mod_times_61 : decode prog_10_method_11_code 61 = .ok (.iload 6, 2) := by decide +kernel
theorem d_Mod_times_63 : decode prog_10_method_11_code 63 = .ok (.iadd, 1) := by decide +kernel
theorem d_Mod_times_64 : decode prog_10_method_11_code 64 = .ok (.iaload, 1) := by decide +kernel
theorem d_Mod_times_65 : decode prog_10_method_11_code 65 = .ok (.i2l, 1) := by decide +kernel
theorem d_Mod_times_66 : decode prog_10_method_11_code 66 = .ok (.lload 9, 2) := by decide +kernel
theorem d_Mod_times_68 : decode prog_10_method_11_code 68 = .ok (.ladd, 1) := by decide +kernel
theorem d_Mod_times_69 : decode prog_10_method_11_code 69 = .ok (.iload 11, 2) := by decide +kernel
theorem d_Mod_times_71 : decode prog_10_method_11_code 71 = .ok (.iload_n 2, 1) := by decide +kernel
theorem d_Mod_times_72 : decode prog_10_method_11_code 72 = .ok (.if_icmp .ge 14, 3) := by decide +kernel
theorem d_Mod_times_75 : decode prog_10_method_11_code 75 = .ok (.aload_n 1, 1) := by decide +kernel
theorem d_Mod_times_76 : decode prog_10_method_11_code 76 = .ok (.iload 11, 2) := by decide +kernel
theorem d_Mod_times_78 : decode prog_10_method_11_code 78 = .ok (.iaload, 1) := by decide +kernel
theorem d_Mod_times_79 : decode prog_10_method_11_code 79 = .ok (.i2l, 1) := by decide +kernel
theorem d_Mod_times_80 : decode prog_10_method_11_code 80 = .ok (.lload 7, 2) := by decide +kernel
theorem d_Mod_times_82 : decode prog_10_method_11_code 82 = .ok (.lmul, 1) := by decide +kernel
theorem d_Mod_times_83 : decode prog_10_method_11_code 83 = .ok (.goto 4, 3) := by decide +kernel
theorem d_Mod_times_86 : decode prog_10_method_11_code 86 = .ok (.lconst 0, 1) := by decide +kernel
theorem d_Mod_times_87 : decode prog_10_method_11_code 87 = .ok (.ladd, 1) := by decide +kernel
theorem d_Mod_times_88 : decode prog_10_method_11_code 88 = .ok (.lstore 12, 2) := by decide +kernel
theorem d_Mod_times_90 : decode prog_10_method_11_code 90 = .ok (.aload 5, 2) := by decide +kernel
theorem d_Mod_times_92 : decode prog_10_method_11_code 92 = .ok (.iload 11, 2) := by decide +kernel
theorem d_Mod_times_94 : decode prog_10_method_11_code 94 = .ok (.iload 6, 2) := by decide +kernel
theorem d_Mod_times_96 : decode prog_10_method_11_code 96 = .ok (.iadd, 1) := by decide +kernel
theorem d_Mod_times_97 : decode prog_10_method_11_code 97 = .ok (.lload 12, 2) := by decide +kernel
theorem d_Mod_times_99 : decode prog_10_method_11_code 99 = .ok (.ldc2_w 49, 3) := by decide +kernel
theorem d_Mod_times_102 : decode prog_10_method_11_code 102 = .ok (.land, 1) := by decide +kernel
theorem d_Mod_times_103 : decode prog_10_method_11_code 103 = .ok (.l2i, 1) := by decide +kernel
theorem d_Mod_times_104 : decode prog_10_method_11_code 104 = .ok (.iastore, 1) := by decide +kernel
theorem d_Mod_times_105 : decode prog_10_method_11_code 105 = .ok (.lload 12, 2) := by decide +kernel
theorem d_Mod_times_107 : decode prog_10_method_11_code 107 = .ok (.bipush 16, 2) := by decide +kernel
theorem d_Mod_times_109 : decode prog_10_method_11_code 109 = .ok (.lshr, 1) := by decide +kernel
theorem d_Mod_times_110 : decode prog_10_method_11_code 110 = .ok (.lstore 9, 2) := by decide +kernel
theorem d_Mod_times_112 : decode prog_10_method_11_code 112 = .ok (.iinc 11 1, 3) := by decide +kernel
theorem d_Mod_times_115 : decode prog_10_method_11_code 115 = .ok (.goto (-64), 3) := by decide +kernel
theorem d_Mod_times_118 : decode prog_10_method_11_code 118 = .ok (.iinc 6 1, 3) := by decide +kernel
theorem d_Mod_times_121 : decode prog_10_method_11_code 121 = .ok (.goto (-95), 3) := by decide +kernel
theorem d_Mod_times_124 : decode prog_10_method_11_code 124 = .ok (.aload 5, 2) := by decide +kernel
theorem d_Mod_times_126 : decode prog_10_method_11_code 126 = .ok (.iload_n 2, 1) := by decide +kernel
theorem d_Mod_times_127 : decode prog_10_method_11_code 127 = .ok (.iconst 5, 1) := by decide +kernel
theorem d_Mod_times_128 : decode prog_10_method_11_code 128 = .ok (.iadd, 1) := by decide +kernel
theorem d_Mod_times_129 : decode prog_10_method_11_code 129 = .ok (.invokestatic 51, 3) := by decide +kernel
theorem d_Mod_times_132 : decode prog_10_method_11_code 132 = .ok (.ireturn, 1) := by decide +kernel
def f_Mod_times_87 (fu : Nat) (n_w1 : Nat) (n_w4 : Nat) (x2 : Int32) (x3 : Int64) (w1_a : Nat → Int32) (self26 : Int32 → (Nat → Int32) → Option (Int32 × (Nat → Int32))) (self51 : Int32 → Int64 → Int64 → Int32 → (Nat → Int32) → Option (Int32 × (Nat → Int32))) (y6 : Int32) (y7 : Int64) (y11 : Int32) (k0 : Int64) (k1 : Int64) (w4_a : Nat → Int32) : Option (Int32 × (Nat → Int32)) :=
  zz_lt (k0 + k1) fun x12_4 =>
  if zz_in (y11 + y6) n_w4 = true then
  zz_lt (x12_4 >>> ((16 : Int32).toInt64 &&& 63)) fun x9_6 =>
  self51 y6 y7 x9_6 (y11 + 1) (upd w4_a (y11 + y6).toNatClampNeg ((x12_4 &&& 65535).toInt32))
  else none
def f_Mod_times_51 (fu : Nat) (n_w1 : Nat) (n_w4 : Nat) (x2 : Int32) (x3 : Int64) (w1_a : Nat → Int32) (self26 : Int32 → (Nat → Int32) → Option (Int32 × (Nat → Int32))) : Nat → Int32 → Int64 → Int64 → Int32 → (Nat → Int32) → Option (Int32 × (Nat → Int32))
  | 0, _, _, _, _, _ => none
  | n + 1, y6, y7, y9, y11, w4_a =>
  (if x2 < y11 then
  self26 (y6 + 1) w4_a
  else
  if zz_in (y11 + y6) n_w4 = true then
  (if x2 ≤ y11 then
  f_Mod_times_87 fu n_w1 n_w4 x2 x3 w1_a self26 (f_Mod_times_51 fu n_w1 n_w4 x2 x3 w1_a self26 n) y6 y7 y11 (((w4_a (y11 + y6).toNatClampNeg).toInt64) + y9) 0 w4_a
  else
  if zz_in y11 n_w1 = true then
  f_Mod_times_87 fu n_w1 n_w4 x2 x3 w1_a self26 (f_Mod_times_51 fu n_w1 n_w4 x2 x3 w1_a self26 n) y6 y7 y11 (((w4_a (y11 + y6).toNatClampNeg).toInt64) + y9) (((w1_a y11.toNatClampNeg).toInt64) * y7) w4_a
  else none)
  else none)
theorem f_Mod_times_51_s (fu : Nat) (n_w1 : Nat) (n_w4 : Nat) (x2 : Int32) (x3 : Int64) (w1_a : Nat → Int32) (self26 : Int32 → (Nat → Int32) → Option (Int32 × (Nat → Int32))) (n : Nat) (y6 : Int32) (y7 : Int64) (y9 : Int64) (y11 : Int32) (w4_a : Nat → Int32) : f_Mod_times_51 fu n_w1 n_w4 x2 x3 w1_a self26 (n + 1) y6 y7 y9 y11 w4_a =
  (if x2 < y11 then
  self26 (y6 + 1) w4_a
  else
  if zz_in (y11 + y6) n_w4 = true then
  (if x2 ≤ y11 then
  f_Mod_times_87 fu n_w1 n_w4 x2 x3 w1_a self26 (f_Mod_times_51 fu n_w1 n_w4 x2 x3 w1_a self26 n) y6 y7 y11 (((w4_a (y11 + y6).toNatClampNeg).toInt64) + y9) 0 w4_a
  else
  if zz_in y11 n_w1 = true then
  f_Mod_times_87 fu n_w1 n_w4 x2 x3 w1_a self26 (f_Mod_times_51 fu n_w1 n_w4 x2 x3 w1_a self26 n) y6 y7 y11 (((w4_a (y11 + y6).toNatClampNeg).toInt64) + y9) (((w1_a y11.toNatClampNeg).toInt64) * y7) w4_a
  else none)
  else none) := rfl
def f_Mod_times_26 (fu : Nat) (n_w1 : Nat) (n_w4 : Nat) (x2 : Int32) (x3 : Int64) (w1_a : Nat → Int32)  : Nat → Int32 → (Nat → Int32) → Option (Int32 × (Nat → Int32))
  | 0, _, _ => none
  | n + 1, y6, w4_a =>
  (if 4 ≤ y6 then
  (f_Mod_trimmed fu n_w4 (x2 + 5) w4_a).bind fun u_1 =>
  some (u_1, w4_a)
  else
  zz_lt ((x3 >>> ((16 * y6).toInt64 &&& 63)) &&& 65535) fun x7_2 =>
  f_Mod_times_51 fu n_w1 n_w4 x2 x3 w1_a (f_Mod_times_26 fu n_w1 n_w4 x2 x3 w1_a n) fu y6 x7_2 0 0 w4_a)
theorem f_Mod_times_26_s (fu : Nat) (n_w1 : Nat) (n_w4 : Nat) (x2 : Int32) (x3 : Int64) (w1_a : Nat → Int32)  (n : Nat) (y6 : Int32) (w4_a : Nat → Int32) : f_Mod_times_26 fu n_w1 n_w4 x2 x3 w1_a (n + 1) y6 w4_a =
  (if 4 ≤ y6 then
  (f_Mod_trimmed fu n_w4 (x2 + 5) w4_a).bind fun u_1 =>
  some (u_1, w4_a)
  else
  zz_lt ((x3 >>> ((16 * y6).toInt64 &&& 63)) &&& 65535) fun x7_2 =>
  f_Mod_times_51 fu n_w1 n_w4 x2 x3 w1_a (f_Mod_times_26 fu n_w1 n_w4 x2 x3 w1_a n) fu y6 x7_2 0 0 w4_a) := rfl
def f_Mod_times_3 (fu : Nat) (n_w1 : Nat) (n_w4 : Nat) (x2 : Int32) (x3 : Int64) (w1_a : Nat → Int32)  : Nat → Int32 → (Nat → Int32) → Option (Int32 × (Nat → Int32))
  | 0, _, _ => none
  | n + 1, y6, w4_a =>
  (if (x2 + 5) ≤ y6 then
  f_Mod_times_26 fu n_w1 n_w4 x2 x3 w1_a fu 0 w4_a
  else
  if zz_in y6 n_w4 = true then
  f_Mod_times_3 fu n_w1 n_w4 x2 x3 w1_a n (y6 + 1) (upd w4_a y6.toNatClampNeg 0)
  else none)
theorem f_Mod_times_3_s (fu : Nat) (n_w1 : Nat) (n_w4 : Nat) (x2 : Int32) (x3 : Int64) (w1_a : Nat → Int32)  (n : Nat) (y6 : Int32) (w4_a : Nat → Int32) : f_Mod_times_3 fu n_w1 n_w4 x2 x3 w1_a (n + 1) y6 w4_a =
  (if (x2 + 5) ≤ y6 then
  f_Mod_times_26 fu n_w1 n_w4 x2 x3 w1_a fu 0 w4_a
  else
  if zz_in y6 n_w4 = true then
  f_Mod_times_3 fu n_w1 n_w4 x2 x3 w1_a n (y6 + 1) (upd w4_a y6.toNatClampNeg 0)
  else none) := rfl
def f_Mod_times (fu : Nat) (n_w1 : Nat) (n_w4 : Nat) (x2 : Int32) (x3 : Int64) (w1_a : Nat → Int32) (w4_a : Nat → Int32) : Option (Int32 × (Nat → Int32)) :=
  f_Mod_times_3 fu n_w1 n_w4 x2 x3 w1_a fu 0 w4_a
set_option maxHeartbeats 4000000 in
set_option maxRecDepth 100000 in
theorem c_Mod_times (l : Launch) (dC : Nat → ClassId) (dI : Nat → Nat → Nat) (cI cC cB cJ : ClassId) (fu : Nat) (sz : Nat) (h_w1 : Nat) (h_w4 : Nat) (n_w1 : Nat) (n_w4 : Nat) (r0 : Nat) (x2 : Int32) (x3 : Int64) (w1_a : Nat → Int32) (w4_a : Nat → Int32) (u : Int32 × (Nat → Int32)) (hf : f_Mod_times fu n_w1 n_w4 x2 x3 w1_a w4_a = some u) : Met l y_Mod_times ws_Mod_times rm_Mod_times (zz_P zz_T (dC, dI) vwCl (zz_tys cI cC cB cJ) [.ref r0, .ref h_w1, .int x2, .long x3, .ref h_w4] [(h_w1, .inl (cI, n_w1, .inl w1_a)), (h_w4, .inl (cI, n_w4, .inl w4_a))] sz) (zz_Qi (dC, dI) vwCl u.1 [(h_w1, .inl (cI, n_w1, .inl w1_a)), (h_w4, .inl (cI, n_w4, .inl u.2))] (va_A [(h_w1, .inl (cI, n_w1, .inl w1_a)), (h_w4, .inl (cI, n_w4, .inl w4_a))] sz)) 0 0 (va_A [(h_w1, .inl (cI, n_w1, .inl w1_a)), (h_w4, .inl (cI, n_w4, .inl w4_a))] sz) := by
  refine Met.ofW (cc := prog_10_method_11_code) (maxL := 14) (ret := (some .int)) (by decide +kernel) rfl ?_
  intro p e s m args below meth c s₁ B hml hv
  obtain ⟨rfl, hsz, hP, hK, hD0, hX⟩ := hv
  have hx := B.exec
  have hb := B.bytes
  have hr := B.returns
  have hts := atoms_spec (ws := ws_Mod_times) B.pre
  have hw : ∀ w ∈ zw, w.before [.ref r0, .ref h_w1, .int x2, .long x3, .ref h_w4].toArray s = true := fun w h => hts w (List.mem_cons_of_mem _ h)
  have hown : s.vm.findClass R_Mod = some m.cls := findClass_of_methodNamed B.named
  have hlocks := B.notSynchronized
  subst hsz
  have hD := hD0.self (sz := s.heap.size)
  generalize hAe : va_A [(h_w1, .inl (cI, n_w1, .inl w1_a)), (h_w4, .inl (cI, n_w4, .inl w4_a))] s.heap.size = A at hD hX ⊢
  have hA : ∀ q : Nat, s.heap.size ≤ q → A q := fun q h => by rw [← hAe]; exact Or.inr h
  have hS : va_S A s.heap s.heap [] := va_S.rf
  have hl := lv_entry [.ref r0, .ref h_w1, .int x2, .long x3, .ref h_w4] (n := 14) (Nat.le_of_ble_eq_true rfl)
  rw [lg_entry_eq]
  generalize (lg_sl [.ref r0, .ref h_w1, .int x2, .long x3, .ref h_w4] ++ List.replicate (14 - (lg_sl [.ref r0, .ref h_w1, .int x2, .long x3, .ref h_w4]).length) Slot.unset).toArray = ls at hl ⊢
  have hl : lv_has ls 14 [(0, .ref r0), (1, .ref h_w1), (2, .int x2), (3, .long x3), (5, .ref h_w4)] := hl
  refine zz_endi hx hb hr hlocks (fun Qq hend => ?_)
  have hL_87 : ∀ (self26 : Int32 → (Nat → Int32) → Option (Int32 × (Nat → Int32))), (∀ (y6 : Int32) (w4_a : Nat → Int32) (ls : Array Slot) (H : Heap) (locs : List Loc), lv_has ls 14 [(1, .ref h_w1), (2, .int x2), (3, .long x3), (5, .ref h_w4), (6, .int y6)] → va_P (dC, dI) vwCl [(h_w1, .inl (cI, n_w1, .inl w1_a)), (h_w4, .inl (cI, n_w4, .inl w4_a))] H → va_D A [(h_w1, .inl (cI, n_w1, .inl w1_a)), (h_w4, .inl (cI, n_w4, .inl w4_a))] → va_S A s.heap H locs → self26 y6 w4_a = some u → W p l e (headSpec ws_Mod_times rm_Mod_times).room s m [.ref r0, .ref h_w1, .int x2, .long x3, .ref h_w4].toArray below meth c H locs 0 0 Qq (F0 m 26 ls [])) → ∀ (self51 : Int32 → Int64 → Int64 → Int32 → (Nat → Int32) → Option (Int32 × (Nat → Int32))), (∀ (y6 : Int32) (y7 : Int64) (y9 : Int64) (y11 : Int32) (w4_a : Nat → Int32) (ls : Array Slot) (H : Heap) (locs : List Loc), lv_has ls 14 [(1, .ref h_w1), (2, .int x2), (3, .long x3), (5, .ref h_w4), (6, .int y6), (7, .long y7), (9, .long y9), (11, .int y11)] → va_P (dC, dI) vwCl [(h_w1, .inl (cI, n_w1, .inl w1_a)), (h_w4, .inl (cI, n_w4, .inl w4_a))] H → va_D A [(h_w1, .inl (cI, n_w1, .inl w1_a)), (h_w4, .inl (cI, n_w4, .inl w4_a))] → va_S A s.heap H locs → self51 y6 y7 y9 y11 w4_a = some u → W p l e (headSpec ws_Mod_times rm_Mod_times).room s m [.ref r0, .ref h_w1, .int x2, .long x3, .ref h_w4].toArray below meth c H locs 0 0 Qq (F0 m 51 ls [])) → ∀ (y6 : Int32) (y7 : Int64) (y11 : Int32) (k0 : Int64) (k1 : Int64) (w4_a : Nat → Int32) (ls : Array Slot) (H : Heap) (locs : List Loc), lv_has ls 14 [(1, .ref h_w1), (2, .int x2), (3, .long x3), (5, .ref h_w4), (6, .int y6), (7, .long y7), (11, .int y11)] → va_P (dC, dI) vwCl [(h_w1, .inl (cI, n_w1, .inl w1_a)), (h_w4, .inl (cI, n_w4, .inl w4_a))] H → va_D A [(h_w1, .inl (cI, n_w1, .inl w1_a)), (h_w4, .inl (cI, n_w4, .inl w4_a))] → va_S A s.heap H locs → f_Mod_times_87 fu n_w1 n_w4 x2 x3 w1_a self26 self51 y6 y7 y11 k0 k1 w4_a = some u → W p l e (headSpec ws_Mod_times rm_Mod_times).room s m [.ref r0, .ref h_w1, .int x2, .long x3, .ref h_w4].toArray below meth c H locs 0 0 Qq (F0 m 87 ls [.long k1, .long k0]) := by
    intro self26 hs26 self51 hs51
    intro y6 y7 y11 k0 k1 w4_a ls H locs hl hP hD hS hf
    unfold f_Mod_times_87 at hf
    refine lv_ladd hx hb d_Mod_times_87 ?_
    refine lv_topl (fun x12_4 e_x12_4 => ?_)
    have hf := zz_ltp hf x12_4 e_x12_4
    refine lv_lstore hx hb d_Mod_times_88 hl (by decide) rfl (fun ls hl => ?_)
    have hl : lv_has ls 14 [(12, .long x12_4), (1, .ref h_w1), (2, .int x2), (3, .long x3), (5, .ref h_w4), (6, .int y6), (7, .long y7), (11, .int y11)] := hl
    refine lv_aload hx hb d_Mod_times_90 (lv_at hl 4 rfl) ?_
    refine lv_iload hx hb d_Mod_times_92 (lv_at hl 7 rfl) ?_
    refine lv_iload hx hb d_Mod_times_94 (lv_at hl 5 rfl) ?_
    refine lv_iadd hx hb d_Mod_times_96 ?_
    refine lv_lload hx hb d_Mod_times_97 (lv_at hl 0 rfl) ?_
    refine lv_ldc2 (v := 65535) hx hb hown (hw _ wd_793) d_Mod_times_99 ?_
    refine lv_land hx hb d_Mod_times_102 ?_
    refine lv_l2i hx hb d_Mod_times_103 rfl ?_
    obtain ⟨hb_5, hf⟩ := zz_gd hf
    refine va_iast hx hb hK hP hD hS 1 0 rfl rfl (zz_vp hb_5) d_Mod_times_104 (fun H locs hP hD hS => ?_)
    have hP : va_P (dC, dI) vwCl [(h_w1, .inl (cI, n_w1, .inl w1_a)), (h_w4, .inl (cI, n_w4, .inl (upd w4_a (y11 + y6).toNatClampNeg ((x12_4 &&& 65535).toInt32))))] H := hP
    have hD : va_D A [(h_w1, .inl (cI, n_w1, .inl w1_a)), (h_w4, .inl (cI, n_w4, .inl (upd w4_a (y11 + y6).toNatClampNeg ((x12_4 &&& 65535).toInt32))))] := hD
    refine lv_lload hx hb d_Mod_times_105 (lv_at hl 0 rfl) ?_
    refine lv_bipush (v := 16) hx hb d_Mod_times_107 (by decide) ?_
    refine lv_lshr hx hb d_Mod_times_109 rfl ?_
    refine lv_topl (fun x9_6 e_x9_6 => ?_)
    have hf := zz_ltp hf x9_6 e_x9_6
    refine lv_lstore hx hb d_Mod_times_110 hl (by decide) rfl (fun ls hl => ?_)
    have hl : lv_has ls 14 [(9, .long x9_6), (12, .long x12_4), (1, .ref h_w1), (2, .int x2), (3, .long x3), (5, .ref h_w4), (6, .int y6), (7, .long y7), (11, .int y11)] := hl
    refine lv_iinc (k := 8) (v := y11 + 1) hx hb d_Mod_times_112 hl rfl rfl (by decide) rfl (fun ls hl => ?_)
    have hl : lv_has ls 14 [(11, .int (y11 + 1)), (9, .long x9_6), (12, .long x12_4), (1, .ref h_w1), (2, .int x2), (3, .long x3), (5, .ref h_w4), (6, .int y6), (7, .long y7)] := hl
    refine lv_goto (tgt := 51) hx hb d_Mod_times_115 (by decide) ?_
    exact hs51 y6 y7 x9_6 (y11 + 1) (upd w4_a (y11 + y6).toNatClampNeg ((x12_4 &&& 65535).toInt32)) ls _ _ (lv_sub hl [3, 4, 5, 6, 7, 8, 1, 0] rfl) hP hD hS hf
  have hL_51 : ∀ (self26 : Int32 → (Nat → Int32) → Option (Int32 × (Nat → Int32))), (∀ (y6 : Int32) (w4_a : Nat → Int32) (ls : Array Slot) (H : Heap) (locs : List Loc), lv_has ls 14 [(1, .ref h_w1), (2, .int x2), (3, .long x3), (5, .ref h_w4), (6, .int y6)] → va_P (dC, dI) vwCl [(h_w1, .inl (cI, n_w1, .inl w1_a)), (h_w4, .inl (cI, n_w4, .inl w4_a))] H → va_D A [(h_w1, .inl (cI, n_w1, .inl w1_a)), (h_w4, .inl (cI, n_w4, .inl w4_a))] → va_S A s.heap H locs → self26 y6 w4_a = some u → W p l e (headSpec ws_Mod_times rm_Mod_times).room s m [.ref r0, .ref h_w1, .int x2, .long x3, .ref h_w4].toArray below meth c H locs 0 0 Qq (F0 m 26 ls [])) → ∀ (n : Nat), ∀ (y6 : Int32) (y7 : Int64) (y9 : Int64) (y11 : Int32) (w4_a : Nat → Int32) (ls : Array Slot) (H : Heap) (locs : List Loc), lv_has ls 14 [(1, .ref h_w1), (2, .int x2), (3, .long x3), (5, .ref h_w4), (6, .int y6), (7, .long y7), (9, .long y9), (11, .int y11)] → va_P (dC, dI) vwCl [(h_w1, .inl (cI, n_w1, .inl w1_a)), (h_w4, .inl (cI, n_w4, .inl w4_a))] H → va_D A [(h_w1, .inl (cI, n_w1, .inl w1_a)), (h_w4, .inl (cI, n_w4, .inl w4_a))] → va_S A s.heap H locs → f_Mod_times_51 fu n_w1 n_w4 x2 x3 w1_a self26 n y6 y7 y9 y11 w4_a = some u → W p l e (headSpec ws_Mod_times rm_Mod_times).room s m [.ref r0, .ref h_w1, .int x2, .long x3, .ref h_w4].toArray below meth c H locs 0 0 Qq (F0 m 51 ls []) := by
    intro self26 hs26
    intro n
    induction n with
    | zero =>
      intro y6 y7 y9 y11 w4_a ls H locs hl hP hD hS hf
      exact zz_no hf
    | succ n ih =>
      intro y6 y7 y9 y11 w4_a ls H locs hl hP hD hS hf
      rw [f_Mod_times_51_s] at hf
      refine lv_iload hx hb d_Mod_times_51 (lv_at hl 7 rfl) ?_
      refine lv_iload_n hx hb d_Mod_times_53 rfl (lv_at hl 1 rfl) ?_
      refine lv_icmp_gt (tgt := 118) hx hb d_Mod_times_54 (by decide) (fun hc => ?_) (fun hc => ?_)
      · have hf := zz_ifp hc hf
        refine lv_iinc (k := 4) (v := y6 + 1) hx hb d_Mod_times_118 hl rfl rfl (by decide) rfl (fun ls hl => ?_)
        have hl : lv_has ls 14 [(6, .int (y6 + 1)), (1, .ref h_w1), (2, .int x2), (3, .long x3), (5, .ref h_w4), (7, .long y7), (9, .long y9), (11, .int y11)] := hl
        refine lv_goto (tgt := 26) hx hb d_Mod_times_121 (by decide) ?_
        exact hs26 (y6 + 1) w4_a ls _ _ (lv_sub hl [1, 2, 3, 4, 0] rfl) hP hD hS hf
      · have hf := zz_ifn hc hf
        refine lv_aload hx hb d_Mod_times_57 (lv_at hl 3 rfl) ?_
        refine lv_iload hx hb d_Mod_times_59 (lv_at hl 7 rfl) ?_
        refine lv_iload hx hb d_Mod_times_61 (lv_at hl 4 rfl) ?_
        refine lv_iadd hx hb d_Mod_times_63 ?_
        obtain ⟨hb_3, hf⟩ := zz_gd hf
        refine va_iald hx hb hK hP 1 0 rfl rfl (zz_vp hb_3) d_Mod_times_64 ?_
        refine lv_i2l hx hb d_Mod_times_65 rfl ?_
        refine lv_lload hx hb d_Mod_times_66 (lv_at hl 6 rfl) ?_
        refine lv_ladd hx hb d_Mod_times_68 ?_
        refine lv_iload hx hb d_Mod_times_69 (lv_at hl 7 rfl) ?_
        refine lv_iload_n hx hb d_Mod_times_71 rfl (lv_at hl 1 rfl) ?_
        refine lv_icmp_ge (tgt := 86) hx hb d_Mod_times_72 (by decide) (fun hc => ?_) (fun hc => ?_)
        · have hf := zz_ifp hc hf
          refine lv_lconst (v := 0) hx hb d_Mod_times_86 (by decide) ?_
          exact hL_87 _ hs26 _ ih y6 y7 y11 (((w4_a (y11 + y6).toNatClampNeg).toInt64) + y9) 0 w4_a ls _ _ (lv_sub hl [0, 1, 2, 3, 4, 5, 7] rfl) hP hD hS hf
        · have hf := zz_ifn hc hf
          refine lv_aload_n hx hb d_Mod_times_75 rfl (lv_at hl 0 rfl) ?_
          refine lv_iload hx hb d_Mod_times_76 (lv_at hl 7 rfl) ?_
          obtain ⟨hb_7, hf⟩ := zz_gd hf
          refine va_iald hx hb hK hP 0 0 rfl rfl (zz_vp hb_7) d_Mod_times_78 ?_
          refine lv_i2l hx hb d_Mod_times_79 rfl ?_
          refine lv_lload hx hb d_Mod_times_80 (lv_at hl 5 rfl) ?_
          refine lv_lmul hx hb d_Mod_times_82 ?_
          refine lv_goto (tgt := 87) hx hb d_Mod_times_83 (by decide) ?_
          exact hL_87 _ hs26 _ ih y6 y7 y11 (((w4_a (y11 + y6).toNatClampNeg).toInt64) + y9) (((w1_a y11.toNatClampNeg).toInt64) * y7) w4_a ls _ _ (lv_sub hl [0, 1, 2, 3, 4, 5, 7] rfl) hP hD hS hf
  have hL_26 : ∀ (n : Nat), ∀ (y6 : Int32) (w4_a : Nat → Int32) (ls : Array Slot) (H : Heap) (locs : List Loc), lv_has ls 14 [(1, .ref h_w1), (2, .int x2), (3, .long x3), (5, .ref h_w4), (6, .int y6)] → va_P (dC, dI) vwCl [(h_w1, .inl (cI, n_w1, .inl w1_a)), (h_w4, .inl (cI, n_w4, .inl w4_a))] H → va_D A [(h_w1, .inl (cI, n_w1, .inl w1_a)), (h_w4, .inl (cI, n_w4, .inl w4_a))] → va_S A s.heap H locs → f_Mod_times_26 fu n_w1 n_w4 x2 x3 w1_a n y6 w4_a = some u → W p l e (headSpec ws_Mod_times rm_Mod_times).room s m [.ref r0, .ref h_w1, .int x2, .long x3, .ref h_w4].toArray below meth c H locs 0 0 Qq (F0 m 26 ls []) := by
    intro n
    induction n with
    | zero =>
      intro y6 w4_a ls H locs hl hP hD hS hf
      exact zz_no hf
    | succ n ih =>
      intro y6 w4_a ls H locs hl hP hD hS hf
      rw [f_Mod_times_26_s] at hf
      refine lv_iload hx hb d_Mod_times_26 (lv_at hl 4 rfl) ?_
      refine lv_iconst (v := 4) hx hb d_Mod_times_28 (by decide) ?_
      refine lv_icmp_ge (tgt := 124) hx hb d_Mod_times_29 (by decide) (fun hc => ?_) (fun hc => ?_)
      · have hf := zz_ifp hc hf
        refine lv_aload hx hb d_Mod_times_124 (lv_at hl 3 rfl) ?_
        refine lv_iload_n hx hb d_Mod_times_126 rfl (lv_at hl 1 rfl) ?_
        refine lv_iconst (v := 5) hx hb d_Mod_times_127 (by decide) ?_
        refine lv_iadd hx hb d_Mod_times_128 ?_
        obtain ⟨u_1, hu_1, hf⟩ := zz_bd hf
        refine zz_ci (ws' := [(h_w1, .inl (cI, n_w1, .inl w1_a)), (h_w4, .inl (cI, n_w4, .inl w4_a))]) (wc := [(h_w4, .inl (cI, n_w4, .inl w4_a))]) (w' := [(h_w4, .inl (cI, n_w4, .inl w4_a))]) hP hD hS hA [1] [0] [0, 1] rfl rfl (by decide) (by decide) rfl (by decide) (va_runS (As := [.ref h_w4, .int (x2 + 5)]) (rest := []) ⟨hx, hb, hml, hown, hw⟩ (c_Mod_trimmed l dC dI cI cC cB cJ fu _ h_w4 n_w4 (x2 + 5) w4_a u_1 hu_1) (va_cwS 2 hw (zg_S wd_794 wd_795 wd_8 wd_796) rfl rfl rfl hd_Mod_trimmed ⟨Nat.le_of_ble_eq_true rfl, Nat.le_of_ble_eq_true rfl⟩) (zz_preS zz_TE hP hD hK hS hA trivial [1] rfl (by decide)) rfl rfl hl.1 rfl (lv_room (Nat.le_of_ble_eq_true rfl)) d_Mod_times_129 ⟨Nat.zero_le _, Nat.zero_le _⟩) (fun H locs hP hD hS => ?_)
        cases hf
        exact hend 132 ls _ _ d_Mod_times_132 hP hD hS
      · have hf := zz_ifn hc hf
        refine lv_lload_n hx hb d_Mod_times_32 rfl (lv_at hl 2 rfl) ?_
        refine lv_bipush (v := 16) hx hb d_Mod_times_33 (by decide) ?_
        refine lv_iload hx hb d_Mod_times_35 (lv_at hl 4 rfl) ?_
        refine lv_imul hx hb d_Mod_times_37 ?_
        refine lv_lshr hx hb d_Mod_times_38 rfl ?_
        refine lv_ldc2 (v := 65535) hx hb hown (hw _ wd_793) d_Mod_times_39 ?_
        refine lv_land hx hb d_Mod_times_42 ?_
        refine lv_topl (fun x7_2 e_x7_2 => ?_)
        have hf := zz_ltp hf x7_2 e_x7_2
        refine lv_lstore hx hb d_Mod_times_43 hl (by decide) rfl (fun ls hl => ?_)
        have hl : lv_has ls 14 [(7, .long x7_2), (1, .ref h_w1), (2, .int x2), (3, .long x3), (5, .ref h_w4), (6, .int y6)] := hl
        refine lv_lconst (v := 0) hx hb d_Mod_times_45 (by decide) ?_
        refine lv_lstore hx hb d_Mod_times_46 hl (by decide) rfl (fun ls hl => ?_)
        have hl : lv_has ls 14 [(9, .long 0), (7, .long x7_2), (1, .ref h_w1), (2, .int x2), (3, .long x3), (5, .ref h_w4), (6, .int y6)] := hl
        refine lv_iconst (v := 0) hx hb d_Mod_times_48 (by decide) ?_
        refine lv_istore hx hb d_Mod_times_49 hl (by decide) rfl (fun ls hl => ?_)
        have hl : lv_has ls 14 [(11, .int 0), (9, .long 0), (7, .long x7_2), (1, .ref h_w1), (2, .int x2), (3, .long x3), (5, .ref h_w4), (6, .int y6)] := hl
        exact hL_51 _ ih fu y6 x7_2 0 0 w4_a ls _ _ (lv_sub hl [3, 4, 5, 6, 7, 2, 1, 0] rfl) hP hD hS hf
  have hL_3 : ∀ (n : Nat), ∀ (y6 : Int32) (w4_a : Nat → Int32) (ls : Array Slot) (H : Heap) (locs : List Loc), lv_has ls 14 [(1, .ref h_w1), (2, .int x2), (3, .long x3), (5, .ref h_w4), (6, .int y6)] → va_P (dC, dI) vwCl [(h_w1, .inl (cI, n_w1, .inl w1_a)), (h_w4, .inl (cI, n_w4, .inl w4_a))] H → va_D A [(h_w1, .inl (cI, n_w1, .inl w1_a)), (h_w4, .inl (cI, n_w4, .inl w4_a))] → va_S A s.heap H locs → f_Mod_times_3 fu n_w1 n_w4 x2 x3 w1_a n y6 w4_a = some u → W p l e (headSpec ws_Mod_times rm_Mod_times).room s m [.ref r0, .ref h_w1, .int x2, .long x3, .ref h_w4].toArray below meth c H locs 0 0 Qq (F0 m 3 ls []) := by
    intro n
    induction n with
    | zero =>
      intro y6 w4_a ls H locs hl hP hD hS hf
      exact zz_no hf
    | succ n ih =>
      intro y6 w4_a ls H locs hl hP hD hS hf
      rw [f_Mod_times_3_s] at hf
      refine lv_iload hx hb d_Mod_times_3 (lv_at hl 4 rfl) ?_
      refine lv_iload_n hx hb d_Mod_times_5 rfl (lv_at hl 1 rfl) ?_
      refine lv_iconst (v := 5) hx hb d_Mod_times_6 (by decide) ?_
      refine lv_iadd hx hb d_Mod_times_7 ?_
      refine lv_icmp_ge (tgt := 23) hx hb d_Mod_times_8 (by decide) (fun hc => ?_) (fun hc => ?_)
      · have hf := zz_ifp hc hf
        refine lv_iconst (v := 0) hx hb d_Mod_times_23 (by decide) ?_
        refine lv_istore hx hb d_Mod_times_24 hl (by decide) rfl (fun ls hl => ?_)
        have hl : lv_has ls 14 [(6, .int 0), (1, .ref h_w1), (2, .int x2), (3, .long x3), (5, .ref h_w4)] := hl
        exact hL_26 fu 0 w4_a ls _ _ (lv_sub hl [1, 2, 3, 4, 0] rfl) hP hD hS hf
      · have hf := zz_ifn hc hf
        refine lv_aload hx hb d_Mod_times_11 (lv_at hl 3 rfl) ?_
        refine lv_iload hx hb d_Mod_times_13 (lv_at hl 4 rfl) ?_
        refine lv_iconst (v := 0) hx hb d_Mod_times_15 (by decide) ?_
        obtain ⟨hb_8, hf⟩ := zz_gd hf
        refine va_iast hx hb hK hP hD hS 1 0 rfl rfl (zz_vp hb_8) d_Mod_times_16 (fun H locs hP hD hS => ?_)
        have hP : va_P (dC, dI) vwCl [(h_w1, .inl (cI, n_w1, .inl w1_a)), (h_w4, .inl (cI, n_w4, .inl (upd w4_a y6.toNatClampNeg 0)))] H := hP
        have hD : va_D A [(h_w1, .inl (cI, n_w1, .inl w1_a)), (h_w4, .inl (cI, n_w4, .inl (upd w4_a y6.toNatClampNeg 0)))] := hD
        refine lv_iinc (k := 4) (v := y6 + 1) hx hb d_Mod_times_17 hl rfl rfl (by decide) rfl (fun ls hl => ?_)
        have hl : lv_has ls 14 [(6, .int (y6 + 1)), (1, .ref h_w1), (2, .int x2), (3, .long x3), (5, .ref h_w4)] := hl
        refine lv_goto (tgt := 3) hx hb d_Mod_times_20 (by decide) ?_
        exact ih (y6 + 1) (upd w4_a y6.toNatClampNeg 0) ls _ _ (lv_sub hl [1, 2, 3, 4, 0] rfl) hP hD hS hf
  unfold f_Mod_times at hf
  refine lv_iconst (v := 0) hx hb d_Mod_times_0 (by decide) ?_
  refine lv_istore hx hb d_Mod_times_1 hl (by decide) rfl (fun ls hl => ?_)
  have hl : lv_has ls 14 [(6, .int 0), (0, .ref r0), (1, .ref h_w1), (2, .int x2), (3, .long x3), (5, .ref h_w4)] := hl
  exact hL_3 fu 0 w4_a ls _ _ (lv_sub hl [2, 3, 4, 5, 0] rfl) hP hD hS hf
abbrev ws_Mod_compare : List Cond := .code y_Mod_compare prog_10_method_12_code 6 (some .int) :: zw
abbrev rm_Mod_compare : Room := { frames := 3, cells := 0, slots := 0, locals := 75 }
theorem hd_Mod_compare : y_Mod_compare.cls = "RealTextModel" ∧ y_Mod_compare.cls ≠ "java/lang/invoke/MethodHandle" ∧ y_Mod_compare.cls ≠ "java/lang/invoke/VarHandle" ∧ (parseMethodDescriptor y_Mod_compare.desc).map (fun d => d.parameters.length) = some 2 := by decide +kernel
theorem d_Mod_compare_0 : decode prog_10_method_12_code 0 = .ok (.aload_n 0, 1) := by decide +kernel
theorem d_Mod_compare_1 : decode prog_10_method_12_code 1 = .ok (.getfield 59, 3) := by decide +kernel
theorem d_Mod_compare_4 : decode prog_10_method_12_code 4 = .ok (.iload_n 3, 1) := by decide +kernel
theorem d_Mod_compare_5 : decode prog_10_method_12_code 5 = .ok (.isub, 1) := by decide +kernel
theorem d_Mod_compare_6 : decode prog_10_method_12_code 6 = .ok (.istore 4, 2) := by decide +kernel
theorem d_Mod_compare_8 : decode prog_10_method_12_code 8 = .ok (.iconst 0, 1) := by decide +kernel
theorem d_Mod_compare_9 : decode prog_10_method_12_code 9 = .ok (.istore 5, 2) := by decide +kernel
theorem d_Mod_compare_11 : decode prog_10_method_12_code 11 = .ok (.iload 5, 2) := by decide +kernel
theorem d_Mod_compare_13 : decode prog_10_method_12_code 13 = .ok (.aload_n 0, 1) := by decide +kernel
theorem d_Mod_compare_14 : decode prog_10_method_12_code 14 = .ok (.getfield 62, 3) := by decide +kernel
theorem d_Mod_compare_17 : decode prog_10_method_12_code 17 = .ok (.if_icmp .ge 23, 3) := by decide +kernel
theorem d_Mod_compare_20 : decode prog_10_method_12_code 20 = .ok (.aload_n 0, 1) := by decide +kernel
theorem d_Mod_compare_21 : decode prog_10_method_12_code 21 = .ok (.getfield 25, 3) := by decide +kernel
theorem d_Mod_compare_24 : decode prog_10_method_12_code 24 = .ok (.iload 5, 2) := by decide +kernel
theorem d_Mod_compare_26 : decode prog_10_method_12_code 26 = .ok (.aload_n 0, 1) := by decide +kernel
theorem d_Mod_compare_27 : decode prog_10_method_12_code 27 = .ok (.getfield 16, 3) := by decide +kernel
theorem d_Mod_compare_30 : decode prog_10_method_12_code 30 = .ok (.iload 5, 2) := by decide +kernel
theorem d_Mod_compare_32 : decode prog_10_method_12_code 32 = .ok (.iaload, 1) := by decide +kernel
theorem d_Mod_compare_33 : decode prog_10_method_12_code 33 = .ok (.iastore, 1) := by decide +kernel
theorem d_Mod_compare_34 : decode prog_10_method_12_code 34 = .ok (.iinc 5 1, 3) := by decide +kernel
theorem d_Mod_compare_37 : decode prog_10_method_12_code 37 = .ok (.goto (-26), 3) := by decide +kernel
theorem d_Mod_compare_40 : decode prog_10_method_12_code 40 = .ok (.aload_n 0, 1) := by decide +kernel
theorem d_Mod_compare_41 : decode prog_10_method_12_code 41 = .ok (.iload 4, 2) := by decide +kernel
theorem d_Mod_compare_43 : decode prog_10_method_12_code 43 = .ok (.ifCond .le 26, 3) := by decide +kernel
theorem d_Mod_compare_46 : decode prog_10_method_12_code 46 = .ok (.aload_n 0, 1) := by decide +kernel
theorem d_Mod_compare_47 : decode prog_10_method_12_code 47 = .ok (.getfield 62, 3) := by decide +kernel
theorem d_Mod_compare_50 : decode prog_10_method_12_code 50 = .ok (.ifCond .le 19, 3) := by decide +kernel
theorem d_Mod_compare_53 : decode prog_10_method_12_code 53 = .ok (.aload_n 0, 1) := by decide +kernel
theorem d_Mod_compare_54 : decode prog_10_method_12_code 54 = .ok (.getfield 25, 3) := by decide +kernel
theorem d_Mod_compare_57 : decode prog_10_method_12_code 57 = .ok (.aload_n 0, 1) := by decide +kernel
theorem d_Mod_compare_58 : decode prog_10_method_12_code 58 = .ok (.getfield 62, 3) := by decide +kernel
theorem d_Mod_compare_61 : decode prog_10_method_12_code 61 = .ok (.iload 4, 2) := by decide +kernel
theorem d_Mod_compare_63 : decode prog_10_method_12_code 63 = .ok (.invokestatic 65, 3) := by decide +kernel
theorem d_Mod_compare_66 : decode prog_10_method_12_code 66 = .ok (.goto 7, 3) := by decide +kernel
theorem d_Mod_compare_69 : decode prog_10_method_12_code 69 = .ok (.aload_n 0, 1) := by decide +kernel
theorem d_Mod_compare_70 : decode prog_10_method_12_code 70 = .ok (.getfield 62, 3) := by decide +kernel
theorem d_Mod_compare_73 : decode prog_10_method_12_code 73 = .ok (.putfield 69, 3) := by decide +kernel
theorem d_Mod_compare_76 : decode prog_10_method_12_code 76 = .ok (.aload_n 0, 1) := by decide +kernel
theorem d_Mod_compare_77 : decode prog_10_method_12_code 77 = .ok (.aload_n 0, 1) := by decide +kernel
theorem d_Mod_compare_78 : decode prog_10_method_12_code 78 = .ok (.aload_n 0, 1) := by decide +kernel
theorem d_Mod_compare_79 : decode prog_10_method_12_code 79 = .ok (.getfield 19, 3) := by decide +kernel
theorem d_Mod_compare_82 : decode prog_10_method_12_code 82 = .ok (.aload_n 0, 1) := by decide +kernel
theorem d_Mod_compare_83 : decode prog_10_method_12_code 83 = .ok (.getfield 72, 3) := by decide +kernel
theorem d_Mod_compare_86 : decode prog_10_method_12_code 86 = .ok (.lload_n 1, 1) := by decide +kernel
theorem d_Mod_compare_87 : decode prog_10_method_12_code 87 = .ok (.aload_n 0, 1) := by decide +kernel
theorem d_Mod_compare_88 : decode prog_10_method_12_code 88 = .ok (.getfield 28, 3) := by decide +kernel
theorem d_Mod_compare_91 : decode prog_10_method_12_code 91 = .ok (.invokevirtual 75, 3) := by decide +kernel
theorem d_Mod_compare_94 : decode prog_10_method_12_code 94 = .ok (.putfield 79, 3) := by decide +kernel
theorem d_Mod_compare_97 : decode prog_10_method_12_code 97 = .ok (.iload 4, 2) := by decide +kernel
theorem d_Mod_compare_99 : decode prog_10_method_12_code 99 = .ok (.ifCond .ge 28, 3) := by decide +kernel
theorem d_Mod_compare_102 : decode prog_10_method_12_code 102 = .ok (.aload_n 0, 1) := by decide +kernel
theorem d_Mod_compare_103 : decode prog_10_method_12_code 103 = .ok (.getfield 79, 3) := by decide +kernel
theorem d_Mod_compare_106 : decode prog_10_method_12_code 106 = .ok (.ifCond .le 21, 3) := by decide +kernel
theorem d_Mod_compare_109 : decode prog_10_method_12_code 109 = .ok (.aload_n 0, 1) := by decide +kernel
theorem d_Mod_compare_110 : decode prog_10_method_12_code 110 = .ok (.aload_n 0, 1) := by decide +kernel
theorem d_Mod_compare_111 : decode prog_10_method_12_code 111 = .ok (.getfield 28, 3) := by decide +kernel
theorem d_Mod_compare_114 : decode prog_10_method_12_code 114 = .ok (.aload_n 0, 1) := by decide +kernel
theorem d_Mod_compare_115 : decode prog_10_method_12_code 115 = .ok (.getfield 79, 3) := by decide +kernel
theorem d_Mod_compare_118 : decode prog_10_method_12_code 118 = .ok (.iload 4, 2) := by decide +kernel
theorem d_Mod_compare_120 : decode prog_10_method_12_code 120 = .ok (.ineg, 1) := by decide +kernel
theorem d_Mod_compare_121 : decode prog_10_method_12_code 121 = .ok (.invokestatic 65, 3) := by decide +kernel
theorem d_Mod_compare_124 : decode prog_10_method_12_code 124 = .ok (.putfield 79, 3) := by decide +kernel
theorem d_Mod_compare_127 : decode prog_10_method_12_code 127 = .ok (.aload_n 0, 1) := by decide +kernel
theorem d_Mod_compare_128 : decode prog_10_method_12_code 128 = .ok (.getfield 69, 3) := by decide +kernel
theorem d_Mod_compare_131 : decode prog_10_method_12_code 131 = .ok (.aload_n 0, 1) := by decide +kernel
theorem d_Mod_compare_132 : decode prog_10_method_12_code 132 = .ok (.getfield 79, 3) := by decide +kernel
theorem d_Mod_compare_135 : decode prog_10_method_12_code 135 = .ok (.if_icmp .eq 13, 3) := by decide +kernel
theorem d_Mod_compare_138 : decode prog_10_method_12_code 138 = .ok (.aload_n 0, 1) := by decide +kernel
theorem d_Mod_compare_139 : decode prog_10_method_12_code 139 = .ok (.getfield 69, 3) := by decide +kernel
theorem d_Mod_compare_142 : decode prog_10_method_12_code 142 = .ok (.aload_n 0, 1) := by decide +kernel
theorem d_Mod_compare_143 : decode prog_10_method_12_code 143 = .ok (.getfield 79, 3) := by decide +kernel
theorem d_Mod_compare_146 : decode prog_10_method_12_code 146 = .ok (.isub, 1) := by decide +kernel
theorem d_Mod_compare_147 : decode prog_10_method_12_code 147 = .ok (.ireturn, 1) := by decide +kernel
theorem d_Mod_compare_148 : decode prog_10_method_12_code 148 = .ok (.aload_n 0, 1) := by decide +kernel
theorem d_Mod_compare_149 : decode prog_10_method_12_code 149 = .ok (.getfield 69, 3) := by decide +kernel
theorem d_Mod_compare_152 : decode prog_10_method_12_code 152 = .ok (.iconst 1, 1) := by decide +kernel
theorem d_Mod_compare_153 : decode prog_10_method_12_code 153 = .ok (.isub, 1) := by decide +kernel
theorem d_Mod_compare_154 : decode prog_10_method_12_code 154 = .ok (.istore 5, 2) := by decide +kernel
theorem d_Mod_compare_156 : decode prog_10_method_12_code 156 = .ok (.iload 5, 2) := by decide +kernel
theorem d_Mod_compare_158 : decode prog_10_method_12_code 158 = .ok (.ifCond .lt 42, 3) := by decide +kernel
theorem d_Mod_compare_161 : decode prog_10_method_12_code 161 = .ok (.aload_n 0, 1) := by decide +kernel
theorem d_Mod_compare_162 : decode prog_10_method_12_code 162 = .ok (.getfield 25, 3) := by decide +kernel
theorem d_Mod_compare_165 : decode prog_10_method_12_code 165 = .ok (.iload 5, 2) := by decide +kernel
theorem d_Mod_compare_167 : decode prog_10_method_12_code 167 = .ok (.iaload, 1) := by decide +kernel
theorem d_Mod_compare_168 : decode prog_10_method_12_code 168 = .ok (.aload_n 0, 1) := by decide +kernel
theorem d_Mod_compare_169 : decode prog_10_method_12_code 169 = .ok (.getfield 28, 3) := by decide +kernel
theorem d_Mod_compare_172 : decode prog_10_method_12_code 172 = .ok (.iload 5, 2) := by decide +kernel
theorem d_Mod_compare_174 : decode prog_10_method_12_code 174 = .ok (.iaload, 1) := by decide +kernel
theorem d_Mod_compare_175 : decode prog_10_method_12_code 175 = .ok (.if_icmp .eq 19, 3) := by decide +kernel
theorem d_Mod_compare_178 : decode prog_10_method_12_code 178 = .ok (.aload_n 0, 1) := by decide +kernel
theorem d_Mod_compare_179 : decode prog_10_method_12_code 179 = .ok (.getfield 25, 3) := by decide +kernel
theorem d_Mod_compare_182 : decode prog_10_method_12_code 182 = .ok (.iload 5, 2) := by decide +kernel
theorem d_Mod_compare_184 : decode prog_10_method_12_code 184 = .ok (.iaload, 1) := by decide +kernel
theorem d_Mod_compare_185 : decode prog_10_method_12_code 185 = .ok (.aload_n 0, 1) := by decide +kernel
theorem d_Mod_compare_186 : decode prog_10_method_12_code 186 = .ok (.getfield 28, 3) := by decide +kernel
theorem d_Mod_compare_189 : decode prog_10_method_12_code 189 = .ok (.iload 5, 2) := by decide +kernel
theorem d_Mod_compare_191 : decode prog_10_method_12_code 191 = .ok (.iaload, 1) := by decide +kernel
theorem d_Mod_compare_192 : decode prog_10_method_12_code 192 = .ok (.isub, 1) := by decide +kernel
theorem d_Mod_compare_193 : decode prog_10_method_12_code 193 = .ok (.ireturn, 1) := by decide +kernel
theorem d_Mod_compare_194 : decode prog_10_method_12_code 194 = .ok (.iinc 5 (-1), 3) := by decide +kernel
theorem d_Mod_compare_197 : decode prog_10_method_12_code 197 = .ok (.goto (-41), 3) := by decide +kernel
theorem d_Mod_compare_200 : decode prog_10_method_12_code 200 = .ok (.iconst 0, 1) := by decide +kernel
theorem d_Mod_compare_201 : decode prog_10_method_12_code 201 = .ok (.ireturn, 1) := by decide +kernel
def f_Mod_compare_156 (fu : Nat) (n_v_a : Nat) (n_v_b : Nat) (n_v_left : Nat) (n_v_right : Nat) (x1 : Int64) (x3 : Int32) (v_aMany : Int32) (v_bMany : Int32) (v_twos : Int32) (v_a_a : Nat → Int32) (v_b_a : Nat → Int32)  : Nat → Int32 → Int32 → Int32 → (Nat → Int32) → (Nat → Int32) → Option (Int32 × Int32 × Int32 × (Nat → Int32) × (Nat → Int32))
  | 0, _, _, _, _, _ => none
  | n + 1, y5, v_leftMany, v_rightMany, v_left_a, v_right_a =>
  (if y5 < 0 then
  some (0, v_leftMany, v_rightMany, v_left_a, v_right_a)
  else
  if zz_in y5 n_v_left = true then
  if zz_in y5 n_v_right = true then
  (if (v_left_a y5.toNatClampNeg) = (v_right_a y5.toNatClampNeg) then
  f_Mod_compare_156 fu n_v_a n_v_b n_v_left n_v_right x1 x3 v_aMany v_bMany v_twos v_a_a v_b_a n (y5 + (-1)) v_leftMany v_rightMany v_left_a v_right_a
  else
  if zz_in y5 n_v_left = true then
  if zz_in y5 n_v_right = true then
  some ((v_left_a y5.toNatClampNeg) - (v_right_a y5.toNatClampNeg), v_leftMany, v_rightMany, v_left_a, v_right_a)
  else none
  else none)
  else none
  else none)
theorem f_Mod_compare_156_s (fu : Nat) (n_v_a : Nat) (n_v_b : Nat) (n_v_left : Nat) (n_v_right : Nat) (x1 : Int64) (x3 : Int32) (v_aMany : Int32) (v_bMany : Int32) (v_twos : Int32) (v_a_a : Nat → Int32) (v_b_a : Nat → Int32)  (n : Nat) (y5 : Int32) (v_leftMany : Int32) (v_rightMany : Int32) (v_left_a : Nat → Int32) (v_right_a : Nat → Int32) : f_Mod_compare_156 fu n_v_a n_v_b n_v_left n_v_right x1 x3 v_aMany v_bMany v_twos v_a_a v_b_a (n + 1) y5 v_leftMany v_rightMany v_left_a v_right_a =
  (if y5 < 0 then
  some (0, v_leftMany, v_rightMany, v_left_a, v_right_a)
  else
  if zz_in y5 n_v_left = true then
  if zz_in y5 n_v_right = true then
  (if (v_left_a y5.toNatClampNeg) = (v_right_a y5.toNatClampNeg) then
  f_Mod_compare_156 fu n_v_a n_v_b n_v_left n_v_right x1 x3 v_aMany v_bMany v_twos v_a_a v_b_a n (y5 + (-1)) v_leftMany v_rightMany v_left_a v_right_a
  else
  if zz_in y5 n_v_left = true then
  if zz_in y5 n_v_right = true then
  some ((v_left_a y5.toNatClampNeg) - (v_right_a y5.toNatClampNeg), v_leftMany, v_rightMany, v_left_a, v_right_a)
  else none
  else none)
  else none
  else none) := rfl
def f_Mod_compare_127 (fu : Nat) (n_v_a : Nat) (n_v_b : Nat) (n_v_left : Nat) (n_v_right : Nat) (x1 : Int64) (x3 : Int32) (v_aMany : Int32) (v_bMany : Int32) (v_twos : Int32) (v_a_a : Nat → Int32) (v_b_a : Nat → Int32)  (v_leftMany : Int32) (v_rightMany : Int32) (v_left_a : Nat → Int32) (v_right_a : Nat → Int32) : Option (Int32 × Int32 × Int32 × (Nat → Int32) × (Nat → Int32)) :=
  (if v_leftMany = v_rightMany then
  zz_lt (v_leftMany - 1) fun x5_3 =>
  f_Mod_compare_156 fu n_v_a n_v_b n_v_left n_v_right x1 x3 v_aMany v_bMany v_twos v_a_a v_b_a fu x5_3 v_leftMany v_rightMany v_left_a v_right_a
  else
  some (v_leftMany - v_rightMany, v_leftMany, v_rightMany, v_left_a, v_right_a))
def f_Mod_compare_73 (fu : Nat) (n_v_a : Nat) (n_v_b : Nat) (n_v_left : Nat) (n_v_right : Nat) (x1 : Int64) (x3 : Int32) (v_aMany : Int32) (v_bMany : Int32) (v_twos : Int32) (v_a_a : Nat → Int32) (v_b_a : Nat → Int32)  (y4 : Int32) (k1 : Int32) (v_leftMany : Int32) (v_rightMany : Int32) (v_left_a : Nat → Int32) (v_right_a : Nat → Int32) : Option (Int32 × Int32 × Int32 × (Nat → Int32) × (Nat → Int32)) :=
  (f_Mod_times fu n_v_b n_v_right v_bMany x1 v_b_a v_right_a).bind fun u_2 =>
  (if 0 ≤ y4 then
  f_Mod_compare_127 fu n_v_a n_v_b n_v_left n_v_right x1 x3 v_aMany v_bMany v_twos v_a_a v_b_a k1 u_2.1 v_left_a u_2.2
  else
  (if u_2.1 ≤ 0 then
  f_Mod_compare_127 fu n_v_a n_v_b n_v_left n_v_right x1 x3 v_aMany v_bMany v_twos v_a_a v_b_a k1 u_2.1 v_left_a u_2.2
  else
  (f_Mod_shifted fu n_v_right u_2.1 (-y4) u_2.2).bind fun u_8 =>
  f_Mod_compare_127 fu n_v_a n_v_b n_v_left n_v_right x1 x3 v_aMany v_bMany v_twos v_a_a v_b_a k1 u_8.1 v_left_a u_8.2))
def f_Mod_compare_69 (fu : Nat) (n_v_a : Nat) (n_v_b : Nat) (n_v_left : Nat) (n_v_right : Nat) (x1 : Int64) (x3 : Int32) (v_aMany : Int32) (v_bMany : Int32) (v_twos : Int32) (v_a_a : Nat → Int32) (v_b_a : Nat → Int32)  (y4 : Int32) (v_leftMany : Int32) (v_rightMany : Int32) (v_left_a : Nat → Int32) (v_right_a : Nat → Int32) : Option (Int32 × Int32 × Int32 × (Nat → Int32) × (Nat → Int32)) :=
  f_Mod_compare_73 fu n_v_a n_v_b n_v_left n_v_right x1 x3 v_aMany v_bMany v_twos v_a_a v_b_a y4 v_aMany v_leftMany v_rightMany v_left_a v_right_a
def f_Mod_compare_11 (fu : Nat) (n_v_a : Nat) (n_v_b : Nat) (n_v_left : Nat) (n_v_right : Nat) (x1 : Int64) (x3 : Int32) (v_aMany : Int32) (v_bMany : Int32) (v_twos : Int32) (v_a_a : Nat → Int32) (v_b_a : Nat → Int32)  : Nat → Int32 → Int32 → Int32 → Int32 → (Nat → Int32) → (Nat → Int32) → Option (Int32 × Int32 × Int32 × (Nat → Int32) × (Nat → Int32))
  | 0, _, _, _, _, _, _ => none
  | n + 1, y4, y5, v_leftMany, v_rightMany, v_left_a, v_right_a =>
  (if v_aMany ≤ y5 then
  (if y4 ≤ 0 then
  f_Mod_compare_69 fu n_v_a n_v_b n_v_left n_v_right x1 x3 v_aMany v_bMany v_twos v_a_a v_b_a y4 v_leftMany v_rightMany v_left_a v_right_a
  else
  (if v_aMany ≤ 0 then
  f_Mod_compare_69 fu n_v_a n_v_b n_v_left n_v_right x1 x3 v_aMany v_bMany v_twos v_a_a v_b_a y4 v_leftMany v_rightMany v_left_a v_right_a
  else
  (f_Mod_shifted fu n_v_left v_aMany y4 v_left_a).bind fun u_9 =>
  f_Mod_compare_73 fu n_v_a n_v_b n_v_left n_v_right x1 x3 v_aMany v_bMany v_twos v_a_a v_b_a y4 u_9.1 v_leftMany v_rightMany u_9.2 v_right_a))
  else
  if zz_in y5 n_v_a = true then
  if zz_in y5 n_v_left = true then
  f_Mod_compare_11 fu n_v_a n_v_b n_v_left n_v_right x1 x3 v_aMany v_bMany v_twos v_a_a v_b_a n y4 (y5 + 1) v_leftMany v_rightMany (upd v_left_a y5.toNatClampNeg (v_a_a y5.toNatClampNeg)) v_right_a
  else none
  else none)
theorem f_Mod_compare_11_s (fu : Nat) (n_v_a : Nat) (n_v_b : Nat) (n_v_left : Nat) (n_v_right : Nat) (x1 : Int64) (x3 : Int32) (v_aMany : Int32) (v_bMany : Int32) (v_twos : Int32) (v_a_a : Nat → Int32) (v_b_a : Nat → Int32)  (n : Nat) (y4 : Int32) (y5 : Int32) (v_leftMany : Int32) (v_rightMany : Int32) (v_left_a : Nat → Int32) (v_right_a : Nat → Int32) : f_Mod_compare_11 fu n_v_a n_v_b n_v_left n_v_right x1 x3 v_aMany v_bMany v_twos v_a_a v_b_a (n + 1) y4 y5 v_leftMany v_rightMany v_left_a v_right_a =
  (if v_aMany ≤ y5 then
  (if y4 ≤ 0 then
  f_Mod_compare_69 fu n_v_a n_v_b n_v_left n_v_right x1 x3 v_aMany v_bMany v_twos v_a_a v_b_a y4 v_leftMany v_rightMany v_left_a v_right_a
  else
  (if v_aMany ≤ 0 then
  f_Mod_compare_69 fu n_v_a n_v_b n_v_left n_v_right x1 x3 v_aMany v_bMany v_twos v_a_a v_b_a y4 v_leftMany v_rightMany v_left_a v_right_a
  else
  (f_Mod_shifted fu n_v_left v_aMany y4 v_left_a).bind fun u_9 =>
  f_Mod_compare_73 fu n_v_a n_v_b n_v_left n_v_right x1 x3 v_aMany v_bMany v_twos v_a_a v_b_a y4 u_9.1 v_leftMany v_rightMany u_9.2 v_right_a))
  else
  if zz_in y5 n_v_a = true then
  if zz_in y5 n_v_left = true then
  f_Mod_compare_11 fu n_v_a n_v_b n_v_left n_v_right x1 x3 v_aMany v_bMany v_twos v_a_a v_b_a n y4 (y5 + 1) v_leftMany v_rightMany (upd v_left_a y5.toNatClampNeg (v_a_a y5.toNatClampNeg)) v_right_a
  else none
  else none) := rfl
def f_Mod_compare (fu : Nat) (n_v_a : Nat) (n_v_b : Nat) (n_v_left : Nat) (n_v_right : Nat) (x1 : Int64) (x3 : Int32) (v_aMany : Int32) (v_bMany : Int32) (v_leftMany : Int32) (v_rightMany : Int32) (v_twos : Int32) (v_a_a : Nat → Int32) (v_b_a : Nat → Int32) (v_left_a : Nat → Int32) (v_right_a : Nat → Int32) : Option (Int32 × Int32 × Int32 × (Nat → Int32) × (Nat → Int32)) :=
  zz_lt (v_twos - x3) fun x4_1 =>
  f_Mod_compare_11 fu n_v_a n_v_b n_v_left n_v_right x1 x3 v_aMany v_bMany v_twos v_a_a v_b_a fu x4_1 0 v_leftMany v_rightMany v_left_a v_right_a
set_option maxHeartbeats 4000000 in
set_option maxRecDepth 100000 in
theorem c_Mod_compare (l : Launch) (dC : Nat → ClassId) (dI : Nat → Nat → Nat) (cI cC cB cJ : ClassId) (fu : Nat) (sz : Nat) (h_v : Nat) (h_v_a : Nat) (h_v_b : Nat) (h_v_left : Nat) (h_v_right : Nat) (h_v_text : Nat) (h_v_written : Nat) (h_v_five : Nat) (h_v_part : Nat) (n_v_a : Nat) (n_v_b : Nat) (n_v_left : Nat) (n_v_right : Nat) (x1 : Int64) (x3 : Int32) (v_length : Int32) (v_laid : Int32) (v_gone : Int32) (v_thrown : Int32) (v_were : Int32) (v_none : Int32) (v_beyond : Int32) (v_aMany : Int32) (v_bMany : Int32) (v_fiveMany : Int32) (v_leftMany : Int32) (v_rightMany : Int32) (v_partMany : Int32) (v_twos : Int32) (v_at : Int32) (v_digits : Int32) (v_power : Int32) (v_good : Int32) (v_a_a : Nat → Int32) (v_b_a : Nat → Int32) (v_left_a : Nat → Int32) (v_right_a : Nat → Int32) (u : Int32 × Int32 × Int32 × (Nat → Int32) × (Nat → Int32)) (hf : f_Mod_compare fu n_v_a n_v_b n_v_left n_v_right x1 x3 v_aMany v_bMany v_leftMany v_rightMany v_twos v_a_a v_b_a v_left_a v_right_a = some u) : Met l y_Mod_compare ws_Mod_compare rm_Mod_compare (zz_P zz_T (dC, dI) vwCl (zz_tys cI cC cB cJ) [.ref h_v, .long x1, .int x3] [(h_v, .inr (7, [.ref h_v_text, .ref h_v_written, .int v_length, .int v_laid, .int v_gone, .int v_thrown, .int v_were, .int v_none, .int v_beyond, .ref h_v_a, .ref h_v_b, .ref h_v_five, .ref h_v_left, .ref h_v_right, .ref h_v_part, .int v_aMany, .int v_bMany, .int v_fiveMany, .int v_leftMany, .int v_rightMany, .int v_partMany, .int v_twos, .int v_at, .int v_digits, .int v_power, .int v_good])), (h_v_a, .inl (cI, n_v_a, .inl v_a_a)), (h_v_b, .inl (cI, n_v_b, .inl v_b_a)), (h_v_left, .inl (cI, n_v_left, .inl v_left_a)), (h_v_right, .inl (cI, n_v_right, .inl v_right_a))] sz) (zz_Qi (dC, dI) vwCl u.1 [(h_v, .inr (7, [.ref h_v_text, .ref h_v_written, .int v_length, .int v_laid, .int v_gone, .int v_thrown, .int v_were, .int v_none, .int v_beyond, .ref h_v_a, .ref h_v_b, .ref h_v_five, .ref h_v_left, .ref h_v_right, .ref h_v_part, .int v_aMany, .int v_bMany, .int v_fiveMany, .int u.2.1, .int u.2.2.1, .int v_partMany, .int v_twos, .int v_at, .int v_digits, .int v_power, .int v_good])), (h_v_a, .inl (cI, n_v_a, .inl v_a_a)), (h_v_b, .inl (cI, n_v_b, .inl v_b_a)), (h_v_left, .inl (cI, n_v_left, .inl u.2.2.2.1)), (h_v_right, .inl (cI, n_v_right, .inl u.2.2.2.2))] (va_A [(h_v, .inr (7, [.ref h_v_text, .ref h_v_written, .int v_length, .int v_laid, .int v_gone, .int v_thrown, .int v_were, .int v_none, .int v_beyond, .ref h_v_a, .ref h_v_b, .ref h_v_five, .ref h_v_left, .ref h_v_right, .ref h_v_part, .int v_aMany, .int v_bMany, .int v_fiveMany, .int v_leftMany, .int v_rightMany, .int v_partMany, .int v_twos, .int v_at, .int v_digits, .int v_power, .int v_good])), (h_v_a, .inl (cI, n_v_a, .inl v_a_a)), (h_v_b, .inl (cI, n_v_b, .inl v_b_a)), (h_v_left, .inl (cI, n_v_left, .inl v_left_a)), (h_v_right, .inl (cI, n_v_right, .inl v_right_a))] sz)) 0 0 (va_A [(h_v, .inr (7, [.ref h_v_text, .ref h_v_written, .int v_length, .int v_laid, .int v_gone, .int v_thrown, .int v_were, .int v_none, .int v_beyond, .ref h_v_a, .ref h_v_b, .ref h_v_five, .ref h_v_left, .ref h_v_right, .ref h_v_part, .int v_aMany, .int v_bMany, .int v_fiveMany, .int v_leftMany, .int v_rightMany, .int v_partMany, .int v_twos, .int v_at, .int v_digits, .int v_power, .int v_good])), (h_v_a, .inl (cI, n_v_a, .inl v_a_a)), (h_v_b, .inl (cI, n_v_b, .inl v_b_a)), (h_v_left, .inl (cI, n_v_left, .inl v_left_a)), (h_v_right, .inl (cI, n_v_right, .inl v_right_a))] sz) := by
  refine Met.ofW (cc := prog_10_method_12_code) (maxL := 6) (ret := (some .int)) (by decide +kernel) rfl ?_
  intro p e s m args below meth c s₁ B hml hv
  obtain ⟨rfl, hsz, hP, hK, hD0, hX⟩ := hv
  have hx := B.exec
  have hb := B.bytes
  have hr := B.returns
  have hts := atoms_spec (ws := ws_Mod_compare) B.pre
  have hw : ∀ w ∈ zw, w.before [.ref h_v, .long x1, .int x3].toArray s = true := fun w h => hts w (List.mem_cons_of_mem _ h)
  have hown : s.vm.findClass R_Mod = some m.cls := findClass_of_methodNamed B.named
  have hlocks := B.notSynchronized
  subst hsz
  have hD := hD0.self (sz := s.heap.size)
  generalize hAe : va_A [(h_v, .inr (7, [.ref h_v_text, .ref h_v_written, .int v_length, .int v_laid, .int v_gone, .int v_thrown, .int v_were, .int v_none, .int v_beyond, .ref h_v_a, .ref h_v_b, .ref h_v_five, .ref h_v_left, .ref h_v_right, .ref h_v_part, .int v_aMany, .int v_bMany, .int v_fiveMany, .int v_leftMany, .int v_rightMany, .int v_partMany, .int v_twos, .int v_at, .int v_digits, .int v_power, .int v_good])), (h_v_a, .inl (cI, n_v_a, .inl v_a_a)), (h_v_b, .inl (cI, n_v_b, .inl v_b_a)), (h_v_left, .inl (cI, n_v_left, .inl v_left_a)), (h_v_right, .inl (cI, n_v_right, .inl v_right_a))] s.heap.size = A at hD hX ⊢
  have hA : ∀ q : Nat, s.heap.size ≤ q → A q := fun q h => by rw [← hAe]; exact Or.inr h
  have hS : va_S A s.heap s.heap [] := va_S.rf
  have hl := lv_entry [.ref h_v, .long x1, .int x3] (n := 6) (Nat.le_of_ble_eq_true rfl)
  rw [lg_entry_eq]
  generalize (lg_sl [.ref h_v, .long x1, .int x3] ++ List.replicate (6 - (lg_sl [.ref h_v, .long x1, .int x3]).length) Slot.unset).toArray = ls at hl ⊢
  have hl : lv_has ls 6 [(0, .ref h_v), (1, .long x1), (3, .int x3)] := hl
  refine zz_endi hx hb hr hlocks (fun Qq hend => ?_)
  have hL_156 : ∀ (n : Nat), ∀ (y5 : Int32) (v_leftMany : Int32) (v_rightMany : Int32) (v_left_a : Nat → Int32) (v_right_a : Nat → Int32) (ls : Array Slot) (H : Heap) (locs : List Loc), lv_has ls 6 [(0, .ref h_v), (5, .int y5)] → va_P (dC, dI) vwCl [(h_v, .inr (7, [.ref h_v_text, .ref h_v_written, .int v_length, .int v_laid, .int v_gone, .int v_thrown, .int v_were, .int v_none, .int v_beyond, .ref h_v_a, .ref h_v_b, .ref h_v_five, .ref h_v_left, .ref h_v_right, .ref h_v_part, .int v_aMany, .int v_bMany, .int v_fiveMany, .int v_leftMany, .int v_rightMany, .int v_partMany, .int v_twos, .int v_at, .int v_digits, .int v_power, .int v_good])), (h_v_a, .inl (cI, n_v_a, .inl v_a_a)), (h_v_b, .inl (cI, n_v_b, .inl v_b_a)), (h_v_left, .inl (cI, n_v_left, .inl v_left_a)), (h_v_right, .inl (cI, n_v_right, .inl v_right_a))] H → va_D A [(h_v, .inr (7, [.ref h_v_text, .ref h_v_written, .int v_length, .int v_laid, .int v_gone, .int v_thrown, .int v_were, .int v_none, .int v_beyond, .ref h_v_a, .ref h_v_b, .ref h_v_five, .ref h_v_left, .ref h_v_right, .ref h_v_part, .int v_aMany, .int v_bMany, .int v_fiveMany, .int v_leftMany, .int v_rightMany, .int v_partMany, .int v_twos, .int v_at, .int v_digits, .int v_power, .int v_good])), (h_v_a, .inl (cI, n_v_a, .inl v_a_a)), (h_v_b, .inl (cI, n_v_b, .inl v_b_a)), (h_v_left, .inl (cI, n_v_left, .inl v_left_a)), (h_v_right, .inl (cI, n_v_right, .inl v_right_a))] → va_S A s.heap H locs → f_Mod_compare_156 fu n_v_a n_v_b n_v_left n_v_right x1 x3 v_aMany v_bMany v_twos v_a_a v_b_a n y5 v_leftMany v_rightMany v_left_a v_right_a = some u → W p l e (headSpec ws_Mod_compare rm_Mod_compare).room s m [.ref h_v, .long x1, .int x3].toArray below meth c H locs 0 0 Qq (F0 m 156 ls []) := by
    intro n
    induction n with
    | zero =>
      intro y5 v_leftMany v_rightMany v_left_a v_right_a ls H locs hl hP hD hS hf
      exact zz_no hf
    | succ n ih =>
      intro y5 v_leftMany v_rightMany v_left_a v_right_a ls H locs hl hP hD hS hf
      rw [f_Mod_compare_156_s] at hf
      refine lv_iload hx hb d_Mod_compare_156 (lv_at hl 1 rfl) ?_
      refine lv_if_lt (tgt := 200) hx hb d_Mod_compare_158 (by decide) (fun hc => ?_) (fun hc => ?_)
      · have hf := zz_ifp hc hf
        refine lv_iconst (v := 0) hx hb d_Mod_compare_200 (by decide) ?_
        cases hf
        exact hend 201 ls _ _ d_Mod_compare_201 hP hD hS
      · have hf := zz_ifn hc hf
        refine lv_aload_n hx hb d_Mod_compare_161 rfl (lv_at hl 0 rfl) ?_
        refine va_get (D := (dC, dI)) (ci := 7) (v := .ref h_v_left) (C := R_Mod) (T := T_Mod) (N := 26) hx hb hw in_Mod hown hK hP 0 rfl rfl 12 (by decide) (hw _ wd_686) (fun _ h9 => h9) rfl d_Mod_compare_162 ?_
        refine lv_iload hx hb d_Mod_compare_165 (lv_at hl 1 rfl) ?_
        obtain ⟨hb_4, hf⟩ := zz_gd hf
        refine va_iald hx hb hK hP 3 0 rfl rfl (zz_vp hb_4) d_Mod_compare_167 ?_
        refine lv_aload_n hx hb d_Mod_compare_168 rfl (lv_at hl 0 rfl) ?_
        refine va_get (D := (dC, dI)) (ci := 7) (v := .ref h_v_right) (C := R_Mod) (T := T_Mod) (N := 26) hx hb hw in_Mod hown hK hP 0 rfl rfl 13 (by decide) (hw _ wd_687) (fun _ h9 => h9) rfl d_Mod_compare_169 ?_
        refine lv_iload hx hb d_Mod_compare_172 (lv_at hl 1 rfl) ?_
        obtain ⟨hb_5, hf⟩ := zz_gd hf
        refine va_iald hx hb hK hP 4 0 rfl rfl (zz_vp hb_5) d_Mod_compare_174 ?_
        refine lv_icmp_eq (tgt := 194) hx hb d_Mod_compare_175 (by decide) (fun hc => ?_) (fun hc => ?_)
        · have hf := zz_ifp hc hf
          refine lv_iinc (k := 1) (v := y5 + (-1)) hx hb d_Mod_compare_194 hl rfl rfl (by decide) rfl (fun ls hl => ?_)
          have hl : lv_has ls 6 [(5, .int (y5 + (-1))), (0, .ref h_v)] := hl
          refine lv_goto (tgt := 156) hx hb d_Mod_compare_197 (by decide) ?_
          exact ih (y5 + (-1)) v_leftMany v_rightMany v_left_a v_right_a ls _ _ (lv_sub hl [1, 0] rfl) hP hD hS hf
        · have hf := zz_ifn hc hf
          refine lv_aload_n hx hb d_Mod_compare_178 rfl (lv_at hl 0 rfl) ?_
          refine va_get (D := (dC, dI)) (ci := 7) (v := .ref h_v_left) (C := R_Mod) (T := T_Mod) (N := 26) hx hb hw in_Mod hown hK hP 0 rfl rfl 12 (by decide) (hw _ wd_686) (fun _ h9 => h9) rfl d_Mod_compare_179 ?_
          refine lv_iload hx hb d_Mod_compare_182 (lv_at hl 1 rfl) ?_
          obtain ⟨hb_6, hf⟩ := zz_gd hf
          refine va_iald hx hb hK hP 3 0 rfl rfl (zz_vp hb_6) d_Mod_compare_184 ?_
          refine lv_aload_n hx hb d_Mod_compare_185 rfl (lv_at hl 0 rfl) ?_
          refine va_get (D := (dC, dI)) (ci := 7) (v := .ref h_v_right) (C := R_Mod) (T := T_Mod) (N := 26) hx hb hw in_Mod hown hK hP 0 rfl rfl 13 (by decide) (hw _ wd_687) (fun _ h9 => h9) rfl d_Mod_compare_186 ?_
          refine lv_iload hx hb d_Mod_compare_189 (lv_at hl 1 rfl) ?_
          obtain ⟨hb_7, hf⟩ := zz_gd hf
          refine va_iald hx hb hK hP 4 0 rfl rfl (zz_vp hb_7) d_Mod_compare_191 ?_
          refine lv_isub hx hb d_Mod_compare_192 ?_
          cases hf
          exact hend 193 ls _ _ d_Mod_compare_193 hP hD hS
  have hL_127 : ∀ (v_leftMany : Int32) (v_rightMany : Int32) (v_left_a : Nat → Int32) (v_right_a : Nat → Int32) (ls : Array Slot) (H : Heap) (locs : List Loc), lv_has ls 6 [(0, .ref h_v)] → va_P (dC, dI) vwCl [(h_v, .inr (7, [.ref h_v_text, .ref h_v_written, .int v_length, .int v_laid, .int v_gone, .int v_thrown, .int v_were, .int v_none, .int v_beyond, .ref h_v_a, .ref h_v_b, .ref h_v_five, .ref h_v_left, .ref h_v_right, .ref h_v_part, .int v_aMany, .int v_bMany, .int v_fiveMany, .int v_leftMany, .int v_rightMany, .int v_partMany, .int v_twos, .int v_at, .int v_digits, .int v_power, .int v_good])), (h_v_a, .inl (cI, n_v_a, .inl v_a_a)), (h_v_b, .inl (cI, n_v_b, .inl v_b_a)), (h_v_left, .inl (cI, n_v_left, .inl v_left_a)), (h_v_right, .inl (cI, n_v_right, .inl v_right_a))] H → va_D A [(h_v, .inr (7, [.ref h_v_text, .ref h_v_written, .int v_length, .int v_laid, .int v_gone, .int v_thrown, .int v_were, .int v_none, .int v_beyond, .ref h_v_a, .ref h_v_b, .ref h_v_five, .ref h_v_left, .ref h_v_right, .ref h_v_part, .int v_aMany, .int v_bMany, .int v_fiveMany, .int v_leftMany, .int v_rightMany, .int v_partMany, .int v_twos, .int v_at, .int v_digits, .int v_power, .int v_good])), (h_v_a, .inl (cI, n_v_a, .inl v_a_a)), (h_v_b, .inl (cI, n_v_b, .inl v_b_a)), (h_v_left, .inl (cI, n_v_left, .inl v_left_a)), (h_v_right, .inl (cI, n_v_right, .inl v_right_a))] → va_S A s.heap H locs → f_Mod_compare_127 fu n_v_a n_v_b n_v_left n_v_right x1 x3 v_aMany v_bMany v_twos v_a_a v_b_a v_leftMany v_rightMany v_left_a v_right_a = some u → W p l e (headSpec ws_Mod_compare rm_Mod_compare).room s m [.ref h_v, .long x1, .int x3].toArray below meth c H locs 0 0 Qq (F0 m 127 ls []) := by
    intro v_leftMany v_rightMany v_left_a v_right_a ls H locs hl hP hD hS hf
    unfold f_Mod_compare_127 at hf
    refine lv_aload_n hx hb d_Mod_compare_127 rfl (lv_at hl 0 rfl) ?_
    refine va_get (D := (dC, dI)) (ci := 7) (v := .int v_leftMany) (C := R_Mod) (T := T_Mod) (N := 26) hx hb hw in_Mod hown hK hP 0 rfl rfl 18 (by decide) (hw _ wd_692) (fun _ h9 => h9) rfl d_Mod_compare_128 ?_
    refine lv_aload_n hx hb d_Mod_compare_131 rfl (lv_at hl 0 rfl) ?_
    refine va_get (D := (dC, dI)) (ci := 7) (v := .int v_rightMany) (C := R_Mod) (T := T_Mod) (N := 26) hx hb hw in_Mod hown hK hP 0 rfl rfl 19 (by decide) (hw _ wd_693) (fun _ h9 => h9) rfl d_Mod_compare_132 ?_
    refine lv_icmp_eq (tgt := 148) hx hb d_Mod_compare_135 (by decide) (fun hc => ?_) (fun hc => ?_)
    · have hf := zz_ifp hc hf
      refine lv_aload_n hx hb d_Mod_compare_148 rfl (lv_at hl 0 rfl) ?_
      refine va_get (D := (dC, dI)) (ci := 7) (v := .int v_leftMany) (C := R_Mod) (T := T_Mod) (N := 26) hx hb hw in_Mod hown hK hP 0 rfl rfl 18 (by decide) (hw _ wd_692) (fun _ h9 => h9) rfl d_Mod_compare_149 ?_
      refine lv_iconst (v := 1) hx hb d_Mod_compare_152 (by decide) ?_
      refine lv_isub hx hb d_Mod_compare_153 ?_
      refine lv_topi (fun x5_3 e_x5_3 => ?_)
      have hf := zz_ltp hf x5_3 e_x5_3
      refine lv_istore hx hb d_Mod_compare_154 hl (by decide) rfl (fun ls hl => ?_)
      have hl : lv_has ls 6 [(5, .int x5_3), (0, .ref h_v)] := hl
      exact hL_156 fu x5_3 v_leftMany v_rightMany v_left_a v_right_a ls _ _ (lv_sub hl [1, 0] rfl) hP hD hS hf
    · have hf := zz_ifn hc hf
      refine lv_aload_n hx hb d_Mod_compare_138 rfl (lv_at hl 0 rfl) ?_
      refine va_get (D := (dC, dI)) (ci := 7) (v := .int v_leftMany) (C := R_Mod) (T := T_Mod) (N := 26) hx hb hw in_Mod hown hK hP 0 rfl rfl 18 (by decide) (hw _ wd_692) (fun _ h9 => h9) rfl d_Mod_compare_139 ?_
      refine lv_aload_n hx hb d_Mod_compare_142 rfl (lv_at hl 0 rfl) ?_
      refine va_get (D := (dC, dI)) (ci := 7) (v := .int v_rightMany) (C := R_Mod) (T := T_Mod) (N := 26) hx hb hw in_Mod hown hK hP 0 rfl rfl 19 (by decide) (hw _ wd_693) (fun _ h9 => h9) rfl d_Mod_compare_143 ?_
      refine lv_isub hx hb d_Mod_compare_146 ?_
      cases hf
      exact hend 147 ls _ _ d_Mod_compare_147 hP hD hS
  have hL_73 : ∀ (y4 : Int32) (k1 : Int32) (v_leftMany : Int32) (v_rightMany : Int32) (v_left_a : Nat → Int32) (v_right_a : Nat → Int32) (ls : Array Slot) (H : Heap) (locs : List Loc), lv_has ls 6 [(0, .ref h_v), (1, .long x1), (4, .int y4)] → va_P (dC, dI) vwCl [(h_v, .inr (7, [.ref h_v_text, .ref h_v_written, .int v_length, .int v_laid, .int v_gone, .int v_thrown, .int v_were, .int v_none, .int v_beyond, .ref h_v_a, .ref h_v_b, .ref h_v_five, .ref h_v_left, .ref h_v_right, .ref h_v_part, .int v_aMany, .int v_bMany, .int v_fiveMany, .int v_leftMany, .int v_rightMany, .int v_partMany, .int v_twos, .int v_at, .int v_digits, .int v_power, .int v_good])), (h_v_a, .inl (cI, n_v_a, .inl v_a_a)), (h_v_b, .inl (cI, n_v_b, .inl v_b_a)), (h_v_left, .inl (cI, n_v_left, .inl v_left_a)), (h_v_right, .inl (cI, n_v_right, .inl v_right_a))] H → va_D A [(h_v, .inr (7, [.ref h_v_text, .ref h_v_written, .int v_length, .int v_laid, .int v_gone, .int v_thrown, .int v_were, .int v_none, .int v_beyond, .ref h_v_a, .ref h_v_b, .ref h_v_five, .ref h_v_left, .ref h_v_right, .ref h_v_part, .int v_aMany, .int v_bMany, .int v_fiveMany, .int v_leftMany, .int v_rightMany, .int v_partMany, .int v_twos, .int v_at, .int v_digits, .int v_power, .int v_good])), (h_v_a, .inl (cI, n_v_a, .inl v_a_a)), (h_v_b, .inl (cI, n_v_b, .inl v_b_a)), (h_v_left, .inl (cI, n_v_left, .inl v_left_a)), (h_v_right, .inl (cI, n_v_right, .inl v_right_a))] → va_S A s.heap H locs → f_Mod_compare_73 fu n_v_a n_v_b n_v_left n_v_right x1 x3 v_aMany v_bMany v_twos v_a_a v_b_a y4 k1 v_leftMany v_rightMany v_left_a v_right_a = some u → W p l e (headSpec ws_Mod_compare rm_Mod_compare).room s m [.ref h_v, .long x1, .int x3].toArray below meth c H locs 0 0 Qq (F0 m 73 ls [.int k1, .ref h_v]) := by
    intro y4 k1 v_leftMany v_rightMany v_left_a v_right_a ls H locs hl hP hD hS hf
    unfold f_Mod_compare_73 at hf
    refine va_put (D := (dC, dI)) (ci := 7) (v := .int k1) (ty := .int) (C := R_Mod) (T := T_Mod) (N := 26) hx hb hw in_Mod ty_Mod tyok_Mod nm_Mod hown hK hP hD hS 0 rfl rfl 18 (by decide) (hw _ wd_692) (fun _ h9 => h9) rfl (tyok_Mod 18 (by decide)) rfl rfl (Nat.le_of_ble_eq_true rfl) d_Mod_compare_73 (fun H locs hP hD hS => ?_)
    have hP : va_P (dC, dI) vwCl [(h_v, .inr (7, [.ref h_v_text, .ref h_v_written, .int v_length, .int v_laid, .int v_gone, .int v_thrown, .int v_were, .int v_none, .int v_beyond, .ref h_v_a, .ref h_v_b, .ref h_v_five, .ref h_v_left, .ref h_v_right, .ref h_v_part, .int v_aMany, .int v_bMany, .int v_fiveMany, .int k1, .int v_rightMany, .int v_partMany, .int v_twos, .int v_at, .int v_digits, .int v_power, .int v_good])), (h_v_a, .inl (cI, n_v_a, .inl v_a_a)), (h_v_b, .inl (cI, n_v_b, .inl v_b_a)), (h_v_left, .inl (cI, n_v_left, .inl v_left_a)), (h_v_right, .inl (cI, n_v_right, .inl v_right_a))] H := hP
    have hD : va_D A [(h_v, .inr (7, [.ref h_v_text, .ref h_v_written, .int v_length, .int v_laid, .int v_gone, .int v_thrown, .int v_were, .int v_none, .int v_beyond, .ref h_v_a, .ref h_v_b, .ref h_v_five, .ref h_v_left, .ref h_v_right, .ref h_v_part, .int v_aMany, .int v_bMany, .int v_fiveMany, .int k1, .int v_rightMany, .int v_partMany, .int v_twos, .int v_at, .int v_digits, .int v_power, .int v_good])), (h_v_a, .inl (cI, n_v_a, .inl v_a_a)), (h_v_b, .inl (cI, n_v_b, .inl v_b_a)), (h_v_left, .inl (cI, n_v_left, .inl v_left_a)), (h_v_right, .inl (cI, n_v_right, .inl v_right_a))] := hD
    refine lv_aload_n hx hb d_Mod_compare_76 rfl (lv_at hl 0 rfl) ?_
    refine lv_aload_n hx hb d_Mod_compare_77 rfl (lv_at hl 0 rfl) ?_
    refine lv_aload_n hx hb d_Mod_compare_78 rfl (lv_at hl 0 rfl) ?_
    refine va_get (D := (dC, dI)) (ci := 7) (v := .ref h_v_b) (C := R_Mod) (T := T_Mod) (N := 26) hx hb hw in_Mod hown hK hP 0 rfl rfl 10 (by decide) (hw _ wd_684) (fun _ h9 => h9) rfl d_Mod_compare_79 ?_
    refine lv_aload_n hx hb d_Mod_compare_82 rfl (lv_at hl 0 rfl) ?_
    refine va_get (D := (dC, dI)) (ci := 7) (v := .int v_bMany) (C := R_Mod) (T := T_Mod) (N := 26) hx hb hw in_Mod hown hK hP 0 rfl rfl 16 (by decide) (hw _ wd_690) (fun _ h9 => h9) rfl d_Mod_compare_83 ?_
    refine lv_lload_n hx hb d_Mod_compare_86 rfl (lv_at hl 1 rfl) ?_
    refine lv_aload_n hx hb d_Mod_compare_87 rfl (lv_at hl 0 rfl) ?_
    refine va_get (D := (dC, dI)) (ci := 7) (v := .ref h_v_right) (C := R_Mod) (T := T_Mod) (N := 26) hx hb hw in_Mod hown hK hP 0 rfl rfl 13 (by decide) (hw _ wd_687) (fun _ h9 => h9) rfl d_Mod_compare_88 ?_
    obtain ⟨u_2, hu_2, hf⟩ := zz_bd hf
    refine zz_ci (ws' := [(h_v, .inr (7, [.ref h_v_text, .ref h_v_written, .int v_length, .int v_laid, .int v_gone, .int v_thrown, .int v_were, .int v_none, .int v_beyond, .ref h_v_a, .ref h_v_b, .ref h_v_five, .ref h_v_left, .ref h_v_right, .ref h_v_part, .int v_aMany, .int v_bMany, .int v_fiveMany, .int k1, .int v_rightMany, .int v_partMany, .int v_twos, .int v_at, .int v_digits, .int v_power, .int v_good])), (h_v_a, .inl (cI, n_v_a, .inl v_a_a)), (h_v_b, .inl (cI, n_v_b, .inl v_b_a)), (h_v_left, .inl (cI, n_v_left, .inl v_left_a)), (h_v_right, .inl (cI, n_v_right, .inl u_2.2))]) (wc := [(h_v_b, .inl (cI, n_v_b, .inl v_b_a)), (h_v_right, .inl (cI, n_v_right, .inl v_right_a))]) (w' := [(h_v_b, .inl (cI, n_v_b, .inl v_b_a)), (h_v_right, .inl (cI, n_v_right, .inl u_2.2))]) hP hD hS hA [2, 4] [0, 1, 3] [0, 1, 3, 2, 4] rfl rfl (by decide) (by decide) rfl (by decide) (va_runV (As := [.ref h_v_b, .int v_bMany, .long x1, .ref h_v_right]) (rest := [.ref h_v]) ⟨hx, hb, hml, hown, hw⟩ (c_Mod_times l dC dI cI cC cB cJ fu _ h_v_b h_v_right n_v_b n_v_right h_v v_bMany x1 v_b_a v_right_a u_2 hu_2) (cwV 4 hw (zg_V wd_836 wd_838 we_2_2 wd_8 wd_839) rfl rfl rfl hd_Mod_times ⟨Nat.le_of_ble_eq_true rfl, Nat.le_of_ble_eq_true rfl⟩) (zz_preV zz_TE (va_recv (q0 := 0) (ci := 7) hK hP rfl rfl) hP hD hK hS hA trivial [2, 4] rfl (by decide)) rfl rfl hl.1 rfl (lv_room (Nat.le_of_ble_eq_true rfl)) d_Mod_compare_91 ⟨Nat.zero_le _, Nat.zero_le _⟩) (fun H locs hP hD hS => ?_)
    refine va_put (D := (dC, dI)) (ci := 7) (v := .int u_2.1) (ty := .int) (C := R_Mod) (T := T_Mod) (N := 26) hx hb hw in_Mod ty_Mod tyok_Mod nm_Mod hown hK hP hD hS 0 rfl rfl 19 (by decide) (hw _ wd_693) (fun _ h9 => h9) rfl (tyok_Mod 19 (by decide)) rfl rfl (Nat.le_of_ble_eq_true rfl) d_Mod_compare_94 (fun H locs hP hD hS => ?_)
    have hP : va_P (dC, dI) vwCl [(h_v, .inr (7, [.ref h_v_text, .ref h_v_written, .int v_length, .int v_laid, .int v_gone, .int v_thrown, .int v_were, .int v_none, .int v_beyond, .ref h_v_a, .ref h_v_b, .ref h_v_five, .ref h_v_left, .ref h_v_right, .ref h_v_part, .int v_aMany, .int v_bMany, .int v_fiveMany, .int k1, .int u_2.1, .int v_partMany, .int v_twos, .int v_at, .int v_digits, .int v_power, .int v_good])), (h_v_a, .inl (cI, n_v_a, .inl v_a_a)), (h_v_b, .inl (cI, n_v_b, .inl v_b_a)), (h_v_left, .inl (cI, n_v_left, .inl v_left_a)), (h_v_right, .inl (cI, n_v_right, .inl u_2.2))] H := hP
    have hD : va_D A [(h_v, .inr (7, [.ref h_v_text, .ref h_v_written, .int v_length, .int v_laid, .int v_gone, .int v_thrown, .int v_were, .int v_none, .int v_beyond, .ref h_v_a, .ref h_v_b, .ref h_v_five, .ref h_v_left, .ref h_v_right, .ref h_v_part, .int v_aMany, .int v_bMany, .int v_fiveMany, .int k1, .int u_2.1, .int v_partMany, .int v_twos, .int v_at, .int v_digits, .int v_power, .int v_good])), (h_v_a, .inl (cI, n_v_a, .inl v_a_a)), (h_v_b, .inl (cI, n_v_b, .inl v_b_a)), (h_v_left, .inl (cI, n_v_left, .inl v_left_a)), (h_v_right, .inl (cI, n_v_right, .inl u_2.2))] := hD
    refine lv_iload hx hb d_Mod_compare_97 (lv_at hl 2 rfl) ?_
    refine lv_if_ge (tgt := 127) hx hb d_Mod_compare_99 (by decide) (fun hc => ?_) (fun hc => ?_)
    · have hf := zz_ifp hc hf
      exact hL_127 k1 u_2.1 v_left_a u_2.2 ls _ _ (lv_sub hl [0] rfl) hP hD hS hf
    · have hf := zz_ifn hc hf
      refine lv_aload_n hx hb d_Mod_compare_102 rfl (lv_at hl 0 rfl) ?_
      refine va_get (D := (dC, dI)) (ci := 7) (v := .int u_2.1) (C := R_Mod) (T := T_Mod) (N := 26) hx hb hw in_Mod hown hK hP 0 rfl rfl 19 (by decide) (hw _ wd_693) (fun _ h9 => h9) rfl d_Mod_compare_103 ?_
      refine lv_if_le (tgt := 127) hx hb d_Mod_compare_106 (by decide) (fun hc => ?_) (fun hc => ?_)
      · have hf := zz_ifp hc hf
        exact hL_127 k1 u_2.1 v_left_a u_2.2 ls _ _ (lv_sub hl [0] rfl) hP hD hS hf
      · have hf := zz_ifn hc hf
        refine lv_aload_n hx hb d_Mod_compare_109 rfl (lv_at hl 0 rfl) ?_
        refine lv_aload_n hx hb d_Mod_compare_110 rfl (lv_at hl 0 rfl) ?_
        refine va_get (D := (dC, dI)) (ci := 7) (v := .ref h_v_right) (C := R_Mod) (T := T_Mod) (N := 26) hx hb hw in_Mod hown hK hP 0 rfl rfl 13 (by decide) (hw _ wd_687) (fun _ h9 => h9) rfl d_Mod_compare_111 ?_
        refine lv_aload_n hx hb d_Mod_compare_114 rfl (lv_at hl 0 rfl) ?_
        refine va_get (D := (dC, dI)) (ci := 7) (v := .int u_2.1) (C := R_Mod) (T := T_Mod) (N := 26) hx hb hw in_Mod hown hK hP 0 rfl rfl 19 (by decide) (hw _ wd_693) (fun _ h9 => h9) rfl d_Mod_compare_115 ?_
        refine lv_iload hx hb d_Mod_compare_118 (lv_at hl 2 rfl) ?_
        refine lv_ineg hx hb d_Mod_compare_120 ?_
        obtain ⟨u_8, hu_8, hf⟩ := zz_bd hf
        refine zz_ci (ws' := [(h_v, .inr (7, [.ref h_v_text, .ref h_v_written, .int v_length, .int v_laid, .int v_gone, .int v_thrown, .int v_were, .int v_none, .int v_beyond, .ref h_v_a, .ref h_v_b, .ref h_v_five, .ref h_v_left, .ref h_v_right, .ref h_v_part, .int v_aMany, .int v_bMany, .int v_fiveMany, .int k1, .int u_2.1, .int v_partMany, .int v_twos, .int v_at, .int v_digits, .int v_power, .int v_good])), (h_v_a, .inl (cI, n_v_a, .inl v_a_a)), (h_v_b, .inl (cI, n_v_b, .inl v_b_a)), (h_v_left, .inl (cI, n_v_left, .inl v_left_a)), (h_v_right, .inl (cI, n_v_right, .inl u_8.2))]) (wc := [(h_v_right, .inl (cI, n_v_right, .inl u_2.2))]) (w' := [(h_v_right, .inl (cI, n_v_right, .inl u_8.2))]) hP hD hS hA [4] [0, 1, 2, 3] [0, 1, 2, 3, 4] rfl rfl (by decide) (by decide) rfl (by decide) (va_runS (As := [.ref h_v_right, .int u_2.1, .int (-y4)]) (rest := [.ref h_v]) ⟨hx, hb, hml, hown, hw⟩ (c_Mod_shifted l dC dI cI cC cB cJ fu _ h_v_right n_v_right u_2.1 (-y4) u_2.2 u_8 hu_8) (va_cwS 3 hw (zg_S wd_833 wd_834 wd_8 wd_835) rfl rfl rfl hd_Mod_shifted ⟨Nat.le_of_ble_eq_true rfl, Nat.le_of_ble_eq_true rfl⟩) (zz_preS zz_TE hP hD hK hS hA trivial [4] rfl (by decide)) rfl rfl hl.1 rfl (lv_room (Nat.le_of_ble_eq_true rfl)) d_Mod_compare_121 ⟨Nat.zero_le _, Nat.zero_le _⟩) (fun H locs hP hD hS => ?_)
        refine va_put (D := (dC, dI)) (ci := 7) (v := .int u_8.1) (ty := .int) (C := R_Mod) (T := T_Mod) (N := 26) hx hb hw in_Mod ty_Mod tyok_Mod nm_Mod hown hK hP hD hS 0 rfl rfl 19 (by decide) (hw _ wd_693) (fun _ h9 => h9) rfl (tyok_Mod 19 (by decide)) rfl rfl (Nat.le_of_ble_eq_true rfl) d_Mod_compare_124 (fun H locs hP hD hS => ?_)
        have hP : va_P (dC, dI) vwCl [(h_v, .inr (7, [.ref h_v_text, .ref h_v_written, .int v_length, .int v_laid, .int v_gone, .int v_thrown, .int v_were, .int v_none, .int v_beyond, .ref h_v_a, .ref h_v_b, .ref h_v_five, .ref h_v_left, .ref h_v_right, .ref h_v_part, .int v_aMany, .int v_bMany, .int v_fiveMany, .int k1, .int u_8.1, .int v_partMany, .int v_twos, .int v_at, .int v_digits, .int v_power, .int v_good])), (h_v_a, .inl (cI, n_v_a, .inl v_a_a)), (h_v_b, .inl (cI, n_v_b, .inl v_b_a)), (h_v_left, .inl (cI, n_v_left, .inl v_left_a)), (h_v_right, .inl (cI, n_v_right, .inl u_8.2))] H := hP
        have hD : va_D A [(h_v, .inr (7, [.ref h_v_text, .ref h_v_written, .int v_length, .int v_laid, .int v_gone, .int v_thrown, .int v_were, .int v_none, .int v_beyond, .ref h_v_a, .ref h_v_b, .ref h_v_five, .ref h_v_left, .ref h_v_right, .ref h_v_part, .int v_aMany, .int v_bMany, .int v_fiveMany, .int k1, .int u_8.1, .int v_partMany, .int v_twos, .int v_at, .int v_digits, .int v_power, .int v_good])), (h_v_a, .inl (cI, n_v_a, .inl v_a_a)), (h_v_b, .inl (cI, n_v_b, .inl v_b_a)), (h_v_left, .inl (cI, n_v_left, .inl v_left_a)), (h_v_right, .inl (cI, n_v_right, .inl u_8.2))] := hD
        exact hL_127 k1 u_8.1 v_left_a u_8.2 ls _ _ (lv_sub hl [0] rfl) hP hD hS hf
  have hL_69 : ∀ (y4 : Int32) (v_leftMany : Int32) (v_rightMany : Int32) (v_left_a : Nat → Int32) (v_right_a : Nat → Int32) (ls : Array Slot) (H : Heap) (locs : List Loc), lv_has ls 6 [(0, .ref h_v), (1, .long x1), (4, .int y4)] → va_P (dC, dI) vwCl [(h_v, .inr (7, [.ref h_v_text, .ref h_v_written, .int v_length, .int v_laid, .int v_gone, .int v_thrown, .int v_were, .int v_none, .int v_beyond, .ref h_v_a, .ref h_v_b, .ref h_v_five, .ref h_v_left, .ref h_v_right, .ref h_v_part, .int v_aMany, .int v_bMany, .int v_fiveMany, .int v_leftMany, .int v_rightMany, .int v_partMany, .int v_twos, .int v_at, .int v_digits, .int v_power, .int v_good])), (h_v_a, .inl (cI, n_v_a, .inl v_a_a)), (h_v_b, .inl (cI, n_v_b, .inl v_b_a)), (h_v_left, .inl (cI, n_v_left, .inl v_left_a)), (h_v_right, .inl (cI, n_v_right, .inl v_right_a))] H → va_D A [(h_v, .inr (7, [.ref h_v_text, .ref h_v_written, .int v_length, .int v_laid, .int v_gone, .int v_thrown, .int v_were, .int v_none, .int v_beyond, .ref h_v_a, .ref h_v_b, .ref h_v_five, .ref h_v_left, .ref h_v_right, .ref h_v_part, .int v_aMany, .int v_bMany, .int v_fiveMany, .int v_leftMany, .int v_rightMany, .int v_partMany, .int v_twos, .int v_at, .int v_digits, .int v_power, .int v_good])), (h_v_a, .inl (cI, n_v_a, .inl v_a_a)), (h_v_b, .inl (cI, n_v_b, .inl v_b_a)), (h_v_left, .inl (cI, n_v_left, .inl v_left_a)), (h_v_right, .inl (cI, n_v_right, .inl v_right_a))] → va_S A s.heap H locs → f_Mod_compare_69 fu n_v_a n_v_b n_v_left n_v_right x1 x3 v_aMany v_bMany v_twos v_a_a v_b_a y4 v_leftMany v_rightMany v_left_a v_right_a = some u → W p l e (headSpec ws_Mod_compare rm_Mod_compare).room s m [.ref h_v, .long x1, .int x3].toArray below meth c H locs 0 0 Qq (F0 m 69 ls [.ref h_v]) := by
    intro y4 v_leftMany v_rightMany v_left_a v_right_a ls H locs hl hP hD hS hf
    unfold f_Mod_compare_69 at hf
    refine lv_aload_n hx hb d_Mod_compare_69 rfl (lv_at hl 0 rfl) ?_
    refine va_get (D := (dC, dI)) (ci := 7) (v := .int v_aMany) (C := R_Mod) (T := T_Mod) (N := 26) hx hb hw in_Mod hown hK hP 0 rfl rfl 15 (by decide) (hw _ wd_689) (fun _ h9 => h9) rfl d_Mod_compare_70 ?_
    exact hL_73 y4 v_aMany v_leftMany v_rightMany v_left_a v_right_a ls _ _ (lv_sub hl [0, 1, 2] rfl) hP hD hS hf
  have hL_11 : ∀ (n : Nat), ∀ (y4 : Int32) (y5 : Int32) (v_leftMany : Int32) (v_rightMany : Int32) (v_left_a : Nat → Int32) (v_right_a : Nat → Int32) (ls : Array Slot) (H : Heap) (locs : List Loc), lv_has ls 6 [(0, .ref h_v), (1, .long x1), (4, .int y4), (5, .int y5)] → va_P (dC, dI) vwCl [(h_v, .inr (7, [.ref h_v_text, .ref h_v_written, .int v_length, .int v_laid, .int v_gone, .int v_thrown, .int v_were, .int v_none, .int v_beyond, .ref h_v_a, .ref h_v_b, .ref h_v_five, .ref h_v_left, .ref h_v_right, .ref h_v_part, .int v_aMany, .int v_bMany, .int v_fiveMany, .int v_leftMany, .int v_rightMany, .int v_partMany, .int v_twos, .int v_at, .int v_digits, .int v_power, .int v_good])), (h_v_a, .inl (cI, n_v_a, .inl v_a_a)), (h_v_b, .inl (cI, n_v_b, .inl v_b_a)), (h_v_left, .inl (cI, n_v_left, .inl v_left_a)), (h_v_right, .inl (cI, n_v_right, .inl v_right_a))] H → va_D A [(h_v, .inr (7, [.ref h_v_text, .ref h_v_written, .int v_length, .int v_laid, .int v_gone, .int v_thrown, .int v_were, .int v_none, .int v_beyond, .ref h_v_a, .ref h_v_b, .ref h_v_five, .ref h_v_left, .ref h_v_right, .ref h_v_part, .int v_aMany, .int v_bMany, .int v_fiveMany, .int v_leftMany, .int v_rightMany, .int v_partMany, .int v_twos, .int v_at, .int v_digits, .int v_power, .int v_good])), (h_v_a, .inl (cI, n_v_a, .inl v_a_a)), (h_v_b, .inl (cI, n_v_b, .inl v_b_a)), (h_v_left, .inl (cI, n_v_left, .inl v_left_a)), (h_v_right, .inl (cI, n_v_right, .inl v_right_a))] → va_S A s.heap H locs → f_Mod_compare_11 fu n_v_a n_v_b n_v_left n_v_right x1 x3 v_aMany v_bMany v_twos v_a_a v_b_a n y4 y5 v_leftMany v_rightMany v_left_a v_right_a = some u → W p l e (headSpec ws_Mod_compare rm_Mod_compare).room s m [.ref h_v, .long x1, .int x3].toArray below meth c H locs 0 0 Qq (F0 m 11 ls []) := by
    intro n
    induction n with
    | zero =>
      intro y4 y5 v_leftMany v_rightMany v_left_a v_right_a ls H locs hl hP hD hS hf
      exact zz_no hf
    | succ n ih =>
      intro y4 y5 v_leftMany v_rightMany v_left_a v_right_a ls H locs hl hP hD hS hf
      rw [f_Mod_compare_11_s] at hf
      refine lv_iload hx hb d_Mod_compare_11 (lv_at hl 3 rfl) ?_
      refine lv_aload_n hx hb d_Mod_compare_13 rfl (lv_at hl 0 rfl) ?_
      refine va_get (D := (dC, dI)) (ci := 7) (v := .int v_aMany) (C := R_Mod) (T := T_Mod) (N := 26) hx hb hw in_Mod hown hK hP 0 rfl rfl 15 (by decide) (hw _ wd_689) (fun _ h9 => h9) rfl d_Mod_compare_14 ?_
      refine lv_icmp_ge (tgt := 40) hx hb d_Mod_compare_17 (by decide) (fun hc => ?_) (fun hc => ?_)
      · have hf := zz_ifp hc hf
        refine lv_aload_n hx hb d_Mod_compare_40 rfl (lv_at hl 0 rfl) ?_
        refine lv_iload hx hb d_Mod_compare_41 (lv_at hl 2 rfl) ?_
        refine lv_if_le (tgt := 69) hx hb d_Mod_compare_43 (by decide) (fun hc => ?_) (fun hc => ?_)
        · have hf := zz_ifp hc hf
          exact hL_69 y4 v_leftMany v_rightMany v_left_a v_right_a ls _ _ (lv_sub hl [0, 1, 2] rfl) hP hD hS hf
        · have hf := zz_ifn hc hf
          refine lv_aload_n hx hb d_Mod_compare_46 rfl (lv_at hl 0 rfl) ?_
          refine va_get (D := (dC, dI)) (ci := 7) (v := .int v_aMany) (C := R_Mod) (T := T_Mod) (N := 26) hx hb hw in_Mod hown hK hP 0 rfl rfl 15 (by decide) (hw _ wd_689) (fun _ h9 => h9) rfl d_Mod_compare_47 ?_
          refine lv_if_le (tgt := 69) hx hb d_Mod_compare_50 (by decide) (fun hc => ?_) (fun hc => ?_)
          · have hf := zz_ifp hc hf
            exact hL_69 y4 v_leftMany v_rightMany v_left_a v_right_a ls _ _ (lv_sub hl [0, 1, 2] rfl) hP hD hS hf
          · have hf := zz_ifn hc hf
            refine lv_aload_n hx hb d_Mod_compare_53 rfl (lv_at hl 0 rfl) ?_
            refine va_get (D := (dC, dI)) (ci := 7) (v := .ref h_v_left) (C := R_Mod) (T := T_Mod) (N := 26) hx hb hw in_Mod hown hK hP 0 rfl rfl 12 (by decide) (hw _ wd_686) (fun _ h9 => h9) rfl d_Mod_compare_54 ?_
            refine lv_aload_n hx hb d_Mod_compare_57 rfl (lv_at hl 0 rfl) ?_
            refine va_get (D := (dC, dI)) (ci := 7) (v := .int v_aMany) (C := R_Mod) (T := T_Mod) (N := 26) hx hb hw in_Mod hown hK hP 0 rfl rfl 15 (by decide) (hw _ wd_689) (fun _ h9 => h9) rfl d_Mod_compare_58 ?_
            refine lv_iload hx hb d_Mod_compare_61 (lv_at hl 2 rfl) ?_
            obtain ⟨u_9, hu_9, hf⟩ := zz_bd hf
            refine zz_ci (ws' := [(h_v, .inr (7, [.ref h_v_text, .ref h_v_written, .int v_length, .int v_laid, .int v_gone, .int v_thrown, .int v_were, .int v_none, .int v_beyond, .ref h_v_a, .ref h_v_b, .ref h_v_five, .ref h_v_left, .ref h_v_right, .ref h_v_part, .int v_aMany, .int v_bMany, .int v_fiveMany, .int v_leftMany, .int v_rightMany, .int v_partMany, .int v_twos, .int v_at, .int v_digits, .int v_power, .int v_good])), (h_v_a, .inl (cI, n_v_a, .inl v_a_a)), (h_v_b, .inl (cI, n_v_b, .inl v_b_a)), (h_v_left, .inl (cI, n_v_left, .inl u_9.2)), (h_v_right, .inl (cI, n_v_right, .inl v_right_a))]) (wc := [(h_v_left, .inl (cI, n_v_left, .inl v_left_a))]) (w' := [(h_v_left, .inl (cI, n_v_left, .inl u_9.2))]) hP hD hS hA [3] [0, 1, 2, 4] [0, 1, 2, 4, 3] rfl rfl (by decide) (by decide) rfl (by decide) (va_runS (As := [.ref h_v_left, .int v_aMany, .int y4]) (rest := [.ref h_v]) ⟨hx, hb, hml, hown, hw⟩ (c_Mod_shifted l dC dI cI cC cB cJ fu _ h_v_left n_v_left v_aMany y4 v_left_a u_9 hu_9) (va_cwS 3 hw (zg_S wd_833 wd_834 wd_8 wd_835) rfl rfl rfl hd_Mod_shifted ⟨Nat.le_of_ble_eq_true rfl, Nat.le_of_ble_eq_true rfl⟩) (zz_preS zz_TE hP hD hK hS hA trivial [3] rfl (by decide)) rfl rfl hl.1 rfl (lv_room (Nat.le_of_ble_eq_true rfl)) d_Mod_compare_63 ⟨Nat.zero_le _, Nat.zero_le _⟩) (fun H locs hP hD hS => ?_)
            refine lv_goto (tgt := 73) hx hb d_Mod_compare_66 (by decide) ?_
            exact hL_73 y4 u_9.1 v_leftMany v_rightMany u_9.2 v_right_a ls _ _ (lv_sub hl [0, 1, 2] rfl) hP hD hS hf
      · have hf := zz_ifn hc hf
        refine lv_aload_n hx hb d_Mod_compare_20 rfl (lv_at hl 0 rfl) ?_
        refine va_get (D := (dC, dI)) (ci := 7) (v := .ref h_v_left) (C := R_Mod) (T := T_Mod) (N := 26) hx hb hw in_Mod hown hK hP 0 rfl rfl 12 (by decide) (hw _ wd_686) (fun _ h9 => h9) rfl d_Mod_compare_21 ?_
        refine lv_iload hx hb d_Mod_compare_24 (lv_at hl 3 rfl) ?_
        refine lv_aload_n hx hb d_Mod_compare_26 rfl (lv_at hl 0 rfl) ?_
        refine va_get (D := (dC, dI)) (ci := 7) (v := .ref h_v_a) (C := R_Mod) (T := T_Mod) (N := 26) hx hb hw in_Mod hown hK hP 0 rfl rfl 9 (by decide) (hw _ wd_683) (fun _ h9 => h9) rfl d_Mod_compare_27 ?_
        refine lv_iload hx hb d_Mod_compare_30 (lv_at hl 3 rfl) ?_
        obtain ⟨hb_10, hf⟩ := zz_gd hf
        refine va_iald hx hb hK hP 1 0 rfl rfl (zz_vp hb_10) d_Mod_compare_32 ?_
        obtain ⟨hb_11, hf⟩ := zz_gd hf
        refine va_iast hx hb hK hP hD hS 3 0 rfl rfl (zz_vp hb_11) d_Mod_compare_33 (fun H locs hP hD hS => ?_)
        have hP : va_P (dC, dI) vwCl [(h_v, .inr (7, [.ref h_v_text, .ref h_v_written, .int v_length, .int v_laid, .int v_gone, .int v_thrown, .int v_were, .int v_none, .int v_beyond, .ref h_v_a, .ref h_v_b, .ref h_v_five, .ref h_v_left, .ref h_v_right, .ref h_v_part, .int v_aMany, .int v_bMany, .int v_fiveMany, .int v_leftMany, .int v_rightMany, .int v_partMany, .int v_twos, .int v_at, .int v_digits, .int v_power, .int v_good])), (h_v_a, .inl (cI, n_v_a, .inl v_a_a)), (h_v_b, .inl (cI, n_v_b, .inl v_b_a)), (h_v_left, .inl (cI, n_v_left, .inl (upd v_left_a y5.toNatClampNeg (v_a_a y5.toNatClampNeg)))), (h_v_right, .inl (cI, n_v_right, .inl v_right_a))] H := hP
        have hD : va_D A [(h_v, .inr (7, [.ref h_v_text, .ref h_v_written, .int v_length, .int v_laid, .int v_gone, .int v_thrown, .int v_were, .int v_none, .int v_beyond, .ref h_v_a, .ref h_v_b, .ref h_v_five, .ref h_v_left, .ref h_v_right, .ref h_v_part, .int v_aMany, .int v_bMany, .int v_fiveMany, .int v_leftMany, .int v_rightMany, .int v_partMany, .int v_twos, .int v_at, .int v_digits, .int v_power, .int v_good])), (h_v_a, .inl (cI, n_v_a, .inl v_a_a)), (h_v_b, .inl (cI, n_v_b, .inl v_b_a)), (h_v_left, .inl (cI, n_v_left, .inl (upd v_left_a y5.toNatClampNeg (v_a_a y5.toNatClampNeg)))), (h_v_right, .inl (cI, n_v_right, .inl v_right_a))] := hD
        refine lv_iinc (k := 3) (v := y5 + 1) hx hb d_Mod_compare_34 hl rfl rfl (by decide) rfl (fun ls hl => ?_)
        have hl : lv_has ls 6 [(5, .int (y5 + 1)), (0, .ref h_v), (1, .long x1), (4, .int y4)] := hl
        refine lv_goto (tgt := 11) hx hb d_Mod_compare_37 (by decide) ?_
        exact ih y4 (y5 + 1) v_leftMany v_rightMany (upd v_left_a y5.toNatClampNeg (v_a_a y5.toNatClampNeg)) v_right_a ls _ _ (lv_sub hl [1, 2, 3, 0] rfl) hP hD hS hf
  unfold f_Mod_compare at hf
  refine lv_aload_n hx hb d_Mod_compare_0 rfl (lv_at hl 0 rfl) ?_
  refine va_get (D := (dC, dI)) (ci := 7) (v := .int v_twos) (C := R_Mod) (T := T_Mod) (N := 26) hx hb hw in_Mod hown hK hP 0 rfl rfl 21 (by decide) (hw _ wd_694) (fun _ h9 => h9) rfl d_Mod_compare_1 ?_
  refine lv_iload_n hx hb d_Mod_compare_4 rfl (lv_at hl 2 rfl) ?_
  refine lv_isub hx hb d_Mod_compare_5 ?_
  refine lv_topi (fun x4_1 e_x4_1 => ?_)
  have hf := zz_ltp hf x4_1 e_x4_1
  refine lv_istore hx hb d_Mod_compare_6 hl (by decide) rfl (fun ls hl => ?_)
  have hl : lv_has ls 6 [(4, .int x4_1), (0, .ref h_v), (1, .long x1), (3, .int x3)] := hl
  refine lv_iconst (v := 0) hx hb d_Mod_compare_8 (by decide) ?_
  refine lv_istore hx hb d_Mod_compare_9 hl (by decide) rfl (fun ls hl => ?_)
  have hl : lv_has ls 6 [(5, .int 0), (4, .int x4_1), (0, .ref h_v), (1, .long x1), (3, .int x3)] := hl
  exact hL_11 fu x4_1 0 v_leftMany v_rightMany v_left_a v_right_a ls _ _ (lv_sub hl [2, 3, 1, 0] rfl) hP hD hS hf
abbrev ws_Mod_mantissa : List Cond := .code y_Mod_mantissa prog_10_method_13_code 6 (some .long) :: zw
abbrev rm_Mod_mantissa : Room := { frames := 0, cells := 0, slots := 0, locals := 0 }
theorem hd_Mod_mantissa : y_Mod_mantissa.cls ≠ "java/lang/invoke/MethodHandle" ∧ y_Mod_mantissa.cls ≠ "java/lang/invoke/VarHandle" ∧ (parseMethodDescriptor y_Mod_mantissa.desc).map (fun d => d.parameters.length) = some 2 := by decide +kernel
theorem d_Mod_mantissa_0 : decode prog_10_method_13_code 0 = .ok (.iload_n 2, 1) := by decide +kernel
theorem d_Mod_mantissa_1 : decode prog_10_method_13_code 1 = .ok (.ifCond .eq 8, 3) := by decide +kernel
theorem d_Mod_mantissa_4 : decode prog_10_method_13_code 4 = .ok (.bipush 23, 2) := by decide +kernel
theorem d_Mod_mantissa_6 : decode prog_10_method_13_code 6 = .ok (.goto 5, 3) := by decide +kernel
theorem d_Mod_mantissa_9 : decode prog_10_method_13_code 9 = .ok (.bipush 52, 2) := by decide +kernel
theorem d_Mod_mantissa_11 : decode prog_10_method_13_code 11 = .ok (.istore_n 3, 1) := by decide +kernel
theorem d_Mod_mantissa_12 : decode prog_10_method_13_code 12 = .ok (.lload_n 0, 1) := by decide +kernel
theorem d_Mod_mantissa_13 : decode prog_10_method_13_code 13 = .ok (.lconst 1, 1) := by decide +kernel
theorem d_Mod_mantissa_14 : decode prog_10_method_13_code 14 = .ok (.iload_n 3, 1) := by decide +kernel
theorem d_Mod_mantissa_15 : decode prog_10_method_13_code 15 = .ok (.lshl, 1) := by decide +kernel
theorem d_Mod_mantissa_16 : decode prog_10_method_13_code 16 = .ok (.lconst 1, 1) := by decide +kernel
theorem d_Mod_mantissa_17 : decode prog_10_method_13_code 17 = .ok (.lsub, 1) := by decide +kernel
theorem d_Mod_mantissa_18 : decode prog_10_method_13_code 18 = .ok (.land, 1) := by decide +kernel
theorem d_Mod_mantissa_19 : decode prog_10_method_13_code 19 = .ok (.lstore 4, 2) := by decide +kernel
theorem d_Mod_mantissa_21 : decode prog_10_method_13_code 21 = .ok (.lload_n 0, 1) := by decide +kernel
theorem d_Mod_mantissa_22 : decode prog_10_method_13_code 22 = .ok (.iload_n 3, 1) := by decide +kernel
theorem d_Mod_mantissa_23 : decode prog_10_method_13_code 23 = .ok (.lshr, 1) := by decide +kernel
theorem d_Mod_mantissa_24 : decode prog_10_method_13_code 24 = .ok (.lconst 0, 1) := by decide +kernel
theorem d_Mod_mantissa_25 : decode prog_10_method_13_code 25 = .ok (.lcmp, 1) := by decide +kernel
theorem d_Mod_mantissa_26 : decode prog_10_method_13_code 26 = .ok (.ifCond .ne 8, 3) := by decide +kernel
theorem d_Mod_mantissa_29 : decode prog_10_method_13_code 29 = .ok (.lload 4, 2) := by decide +kernel
theorem d_Mod_mantissa_31 : decode prog_10_method_13_code 31 = .ok (.goto 9, 3) := by decide +kernel
theorem d_Mod_mantissa_34 : decode prog_10_method_13_code 34 = .ok (.lload 4, 2) := by decide +kernel
theorem d_Mod_mantissa_36 : decode prog_10_method_13_code 36 = .ok (.lconst 1, 1) := by decide +kernel
theorem d_Mod_mantissa_37 : decode prog_10_method_13_code 37 = .ok (.iload_n 3, 1) := by decide +kernel
theorem d_Mod_mantissa_38 : decode prog_10_method_13_code 38 = .ok (.lshl, 1) := by decide +kernel
theorem d_Mod_mantissa_39 : decode prog_10_method_13_code 39 = .ok (.ladd, 1) := by decide +kernel
theorem d_Mod_mantissa_40 : decode prog_10_method_13_code 40 = .ok (.lreturn, 1) := by decide +kernel
def f_Mod_mantissa_11 (x0 : Int64) (x2 : Int32)  (k0 : Int32) : Option (Int64) :=
  zz_lt (x0 &&& ((1 <<< (k0.toInt64 &&& 63)) - 1)) fun x4_1 =>
  (if (lg_cmp (x0 >>> (k0.toInt64 &&& 63)) 0) = 0 then
  some (x4_1)
  else
  some (x4_1 + (1 <<< (k0.toInt64 &&& 63))))
def f_Mod_mantissa (x0 : Int64) (x2 : Int32) : Option (Int64) :=
  (if x2 = 0 then
  f_Mod_mantissa_11 x0 x2 52
  else
  f_Mod_mantissa_11 x0 x2 23)
set_option maxHeartbeats 4000000 in
set_option maxRecDepth 100000 in
theorem c_Mod_mantissa (l : Launch) (dC : Nat → ClassId) (dI : Nat → Nat → Nat) (cI cC cB cJ : ClassId) (sz : Nat) (x0 : Int64) (x2 : Int32) (u : Int64) (hf : f_Mod_mantissa x0 x2 = some u) : Met l y_Mod_mantissa ws_Mod_mantissa rm_Mod_mantissa (zz_P zz_T (dC, dI) vwCl (zz_tys cI cC cB cJ) [.long x0, .int x2] [] sz) (zz_Ql (dC, dI) vwCl u [] (va_A [] sz)) 0 0 (va_A [] sz) := by
  refine Met.ofW (cc := prog_10_method_13_code) (maxL := 6) (ret := (some .long)) (by decide +kernel) rfl ?_
  intro p e s m args below meth c s₁ B hml hv
  obtain ⟨rfl, hsz, hP, hK, hD0, hX⟩ := hv
  have hx := B.exec
  have hb := B.bytes
  have hr := B.returns
  have hts := atoms_spec (ws := ws_Mod_mantissa) B.pre
  have hw : ∀ w ∈ zw, w.before [.long x0, .int x2].toArray s = true := fun w h => hts w (List.mem_cons_of_mem _ h)
  have hown : s.vm.findClass R_Mod = some m.cls := findClass_of_methodNamed B.named
  have hlocks := B.notSynchronized
  subst hsz
  have hD := hD0.self (sz := s.heap.size)
  generalize hAe : va_A [] s.heap.size = A at hD hX ⊢
  have hA : ∀ q : Nat, s.heap.size ≤ q → A q := fun q h => by rw [← hAe]; exact Or.inr h
  have hS : va_S A s.heap s.heap [] := va_S.rf
  have hl := lv_entry [.long x0, .int x2] (n := 6) (Nat.le_of_ble_eq_true rfl)
  rw [lg_entry_eq]
  generalize (lg_sl [.long x0, .int x2] ++ List.replicate (6 - (lg_sl [.long x0, .int x2]).length) Slot.unset).toArray = ls at hl ⊢
  have hl : lv_has ls 6 [(0, .long x0), (2, .int x2)] := hl
  refine zz_endl hx hb hr hlocks (fun Qq hend => ?_)
  have hL_11 : ∀ (k0 : Int32) (ls : Array Slot) (H : Heap) (locs : List Loc), lv_has ls 6 [(0, .long x0)] → va_P (dC, dI) vwCl [] H → va_D A [] → va_S A s.heap H locs → f_Mod_mantissa_11 x0 x2 k0 = some u → W p l e (headSpec ws_Mod_mantissa rm_Mod_mantissa).room s m [.long x0, .int x2].toArray below meth c H locs 0 0 Qq (F0 m 11 ls [.int k0]) := by
    intro k0 ls H locs hl hP hD hS hf
    unfold f_Mod_mantissa_11 at hf
    refine lv_istore_n hx hb d_Mod_mantissa_11 rfl hl (by decide) rfl (fun ls hl => ?_)
    have hl : lv_has ls 6 [(3, .int k0), (0, .long x0)] := hl
    refine lv_lload_n hx hb d_Mod_mantissa_12 rfl (lv_at hl 1 rfl) ?_
    refine lv_lconst (v := 1) hx hb d_Mod_mantissa_13 (by decide) ?_
    refine lv_iload_n hx hb d_Mod_mantissa_14 rfl (lv_at hl 0 rfl) ?_
    refine lv_lshl hx hb d_Mod_mantissa_15 rfl ?_
    refine lv_lconst (v := 1) hx hb d_Mod_mantissa_16 (by decide) ?_
    refine lv_lsub hx hb d_Mod_mantissa_17 ?_
    refine lv_land hx hb d_Mod_mantissa_18 ?_
    refine lv_topl (fun x4_1 e_x4_1 => ?_)
    have hf := zz_ltp hf x4_1 e_x4_1
    refine lv_lstore hx hb d_Mod_mantissa_19 hl (by decide) rfl (fun ls hl => ?_)
    have hl : lv_has ls 6 [(4, .long x4_1), (3, .int k0), (0, .long x0)] := hl
    refine lv_lload_n hx hb d_Mod_mantissa_21 rfl (lv_at hl 2 rfl) ?_
    refine lv_iload_n hx hb d_Mod_mantissa_22 rfl (lv_at hl 1 rfl) ?_
    refine lv_lshr hx hb d_Mod_mantissa_23 rfl ?_
    refine lv_lconst (v := 0) hx hb d_Mod_mantissa_24 (by decide) ?_
    refine W.lcmp hx hb d_Mod_mantissa_25 ?_
    refine lv_if_ne (tgt := 34) hx hb d_Mod_mantissa_26 (by decide) (fun hc => ?_) (fun hc => ?_)
    · have hf := zz_ifn hc hf
      refine lv_lload hx hb d_Mod_mantissa_34 (lv_at hl 0 rfl) ?_
      refine lv_lconst (v := 1) hx hb d_Mod_mantissa_36 (by decide) ?_
      refine lv_iload_n hx hb d_Mod_mantissa_37 rfl (lv_at hl 1 rfl) ?_
      refine lv_lshl hx hb d_Mod_mantissa_38 rfl ?_
      refine lv_ladd hx hb d_Mod_mantissa_39 ?_
      cases hf
      exact hend 40 ls _ _ d_Mod_mantissa_40 hP hD hS
    · have hf := zz_ifp hc hf
      refine lv_lload hx hb d_Mod_mantissa_29 (lv_at hl 0 rfl) ?_
      refine lv_goto (tgt := 40) hx hb d_Mod_mantissa_31 (by decide) ?_
      cases hf
      exact hend 40 ls _ _ d_Mod_mantissa_40 hP hD hS
  unfold f_Mod_mantissa at hf
  refine lv_iload_n hx hb d_Mod_mantissa_0 rfl (lv_at hl 1 rfl) ?_
  refine lv_if_eq (tgt := 9) hx hb d_Mod_mantissa_1 (by decide) (fun hc => ?_) (fun hc => ?_)
  · have hf := zz_ifp hc hf
    refine lv_bipush (v := 52) hx hb d_Mod_mantissa_9 (by decide) ?_
    exact hL_11 52 ls _ _ (lv_sub hl [0] rfl) hP hD hS hf
  · have hf := zz_ifn hc hf
    refine lv_bipush (v := 23) hx hb d_Mod_mantissa_4 (by decide) ?_
    refine lv_goto (tgt := 11) hx hb d_Mod_mantissa_6 (by decide) ?_
    exact hL_11 23 ls _ _ (lv_sub hl [0] rfl) hP hD hS hf
abbrev ws_Mod_exponent : List Cond := .code y_Mod_exponent prog_10_method_14_code 4 (some .int) :: zw
abbrev rm_Mod_exponent : Room := { frames := 0, cells := 0, slots := 0, locals := 0 }
theorem hd_Mod_exponent : y_Mod_exponent.cls ≠ "java/lang/invoke/MethodHandle" ∧ y_Mod_exponent.cls ≠ "java/lang/invoke/VarHandle" ∧ (parseMethodDescriptor y_Mod_exponent.desc).map (fun d => d.parameters.length) = some 2 := by decide +kernel
theorem d_Mod_exponent_0 : decode prog_10_method_14_code 0 = .ok (.lload_n 0, 1) := by decide +kernel
theorem d_Mod_exponent_1 : decode prog_10_method_14_code 1 = .ok (.iload_n 2, 1) := by decide +kernel
theorem d_Mod_exponent_2 : decode prog_10_method_14_code 2 = .ok (.ifCond .eq 8, 3) := by decide +kernel
theorem d_Mod_exponent_5 : decode prog_10_method_14_code 5 = .ok (.bipush 23, 2) := by decide +kernel
theorem d_Mod_exponent_7 : decode prog_10_method_14_code 7 = .ok (.goto 5, 3) := by decide +kernel
theorem d_Mod_exponent_10 : decode prog_10_method_14_code 10 = .ok (.bipush 52, 2) := by decide +kernel
theorem d_Mod_exponent_12 : decode prog_10_method_14_code 12 = .ok (.lshr, 1) := by decide +kernel
theorem d_Mod_exponent_13 : decode prog_10_method_14_code 13 = .ok (.l2i, 1) := by decide +kernel
theorem d_Mod_exponent_14 : decode prog_10_method_14_code 14 = .ok (.istore_n 3, 1) := by decide +kernel
theorem d_Mod_exponent_15 : decode prog_10_method_14_code 15 = .ok (.iload_n 3, 1) := by decide +kernel
theorem d_Mod_exponent_16 : decode prog_10_method_14_code 16 = .ok (.ifCond .ne 7, 3) := by decide +kernel
theorem d_Mod_exponent_19 : decode prog_10_method_14_code 19 = .ok (.iconst 1, 1) := by decide +kernel
theorem d_Mod_exponent_20 : decode prog_10_method_14_code 20 = .ok (.goto 4, 3) := by decide +kernel
theorem d_Mod_exponent_23 : decode prog_10_method_14_code 23 = .ok (.iload_n 3, 1) := by decide +kernel
theorem d_Mod_exponent_24 : decode prog_10_method_14_code 24 = .ok (.iload_n 2, 1) := by decide +kernel
theorem d_Mod_exponent_25 : decode prog_10_method_14_code 25 = .ok (.ifCond .eq 9, 3) := by decide +kernel
theorem d_Mod_exponent_28 : decode prog_10_method_14_code 28 = .ok (.sipush 150, 3) := by decide +kernel
theorem d_Mod_exponent_31 : decode prog_10_method_14_code 31 = .ok (.goto 6, 3) := by decide +kernel
theorem d_Mod_exponent_34 : decode prog_10_method_14_code 34 = .ok (.sipush 1075, 3) := by decide +kernel
theorem d_Mod_exponent_37 : decode prog_10_method_14_code 37 = .ok (.isub, 1) := by decide +kernel
theorem d_Mod_exponent_38 : decode prog_10_method_14_code 38 = .ok (.ireturn, 1) := by decide +kernel
def f_Mod_exponent_24 (x0 : Int64) (x2 : Int32)  (k0 : Int32) : Option (Int32) :=
  (if x2 = 0 then
  some (k0 - 1075)
  else
  some (k0 - 150))
def f_Mod_exponent_12 (x0 : Int64) (x2 : Int32)  (k0 : Int64) (k1 : Int32) : Option (Int32) :=
  zz_lt ((k0 >>> (k1.toInt64 &&& 63)).toInt32) fun x3_1 =>
  (if x3_1 = 0 then
  f_Mod_exponent_24 x0 x2 1
  else
  f_Mod_exponent_24 x0 x2 x3_1)
def f_Mod_exponent (x0 : Int64) (x2 : Int32) : Option (Int32) :=
  (if x2 = 0 then
  f_Mod_exponent_12 x0 x2 x0 52
  else
  f_Mod_exponent_12 x0 x2 x0 23)
set_option maxHeartbeats 4000000 in
set_option maxRecDepth 100000 in
theorem c_Mod_exponent (l : Launch) (dC : Nat → ClassId) (dI : Nat → Nat → Nat) (cI cC cB cJ : ClassId) (sz : Nat) (x0 : Int64) (x2 : Int32) (u : Int32) (hf : f_Mod_exponent x0 x2 = some u) : Met l y_Mod_exponent ws_Mod_exponent rm_Mod_exponent (zz_P zz_T (dC, dI) vwCl (zz_tys cI cC cB cJ) [.long x0, .int x2] [] sz) (zz_Qi (dC, dI) vwCl u [] (va_A [] sz)) 0 0 (va_A [] sz) := by
  refine Met.ofW (cc := prog_10_method_14_code) (maxL := 4) (ret := (some .int)) (by decide +kernel) rfl ?_
  intro p e s m args below meth c s₁ B hml hv
  obtain ⟨rfl, hsz, hP, hK, hD0, hX⟩ := hv
  have hx := B.exec
  have hb := B.bytes
  have hr := B.returns
  have hts := atoms_spec (ws := ws_Mod_exponent) B.pre
  have hw : ∀ w ∈ zw, w.before [.long x0, .int x2].toArray s = true := fun w h => hts w (List.mem_cons_of_mem _ h)
  have hown : s.vm.findClass R_Mod = some m.cls := findClass_of_methodNamed B.named
  have hlocks := B.notSynchronized
  subst hsz
  have hD := hD0.self (sz := s.heap.size)
  generalize hAe : va_A [] s.heap.size = A at hD hX ⊢
  have hA : ∀ q : Nat, s.heap.size ≤ q → A q := fun q h => by rw [← hAe]; exact Or.inr h
  have hS : va_S A s.heap s.heap [] := va_S.rf
  have hl := lv_entry [.long x0, .int x2] (n := 4) (Nat.le_of_ble_eq_true rfl)
  rw [lg_entry_eq]
  generalize (lg_sl [.long x0, .int x2] ++ List.replicate (4 - (lg_sl [.long x0, .int x2]).length) Slot.unset).toArray = ls at hl ⊢
  have hl : lv_has ls 4 [(0, .long x0), (2, .int x2)] := hl
  refine zz_endi hx hb hr hlocks (fun Qq hend => ?_)
  have hL_24 : ∀ (k0 : Int32) (ls : Array Slot) (H : Heap) (locs : List Loc), lv_has ls 4 [(2, .int x2)] → va_P (dC, dI) vwCl [] H → va_D A [] → va_S A s.heap H locs → f_Mod_exponent_24 x0 x2 k0 = some u → W p l e (headSpec ws_Mod_exponent rm_Mod_exponent).room s m [.long x0, .int x2].toArray below meth c H locs 0 0 Qq (F0 m 24 ls [.int k0]) := by
    intro k0 ls H locs hl hP hD hS hf
    unfold f_Mod_exponent_24 at hf
    refine lv_iload_n hx hb d_Mod_exponent_24 rfl (lv_at hl 0 rfl) ?_
    refine lv_if_eq (tgt := 34) hx hb d_Mod_exponent_25 (by decide) (fun hc => ?_) (fun hc => ?_)
    · have hf := zz_ifp hc hf
      refine lv_sipush (v := 1075) hx hb d_Mod_exponent_34 (by decide) ?_
      refine lv_isub hx hb d_Mod_exponent_37 ?_
      cases hf
      exact hend 38 ls _ _ d_Mod_exponent_38 hP hD hS
    · have hf := zz_ifn hc hf
      refine lv_sipush (v := 150) hx hb d_Mod_exponent_28 (by decide) ?_
      refine lv_goto (tgt := 37) hx hb d_Mod_exponent_31 (by decide) ?_
      refine lv_isub hx hb d_Mod_exponent_37 ?_
      cases hf
      exact hend 38 ls _ _ d_Mod_exponent_38 hP hD hS
  have hL_12 : ∀ (k0 : Int64) (k1 : Int32) (ls : Array Slot) (H : Heap) (locs : List Loc), lv_has ls 4 [(2, .int x2)] → va_P (dC, dI) vwCl [] H → va_D A [] → va_S A s.heap H locs → f_Mod_exponent_12 x0 x2 k0 k1 = some u → W p l e (headSpec ws_Mod_exponent rm_Mod_exponent).room s m [.long x0, .int x2].toArray below meth c H locs 0 0 Qq (F0 m 12 ls [.int k1, .long k0]) := by
    intro k0 k1 ls H locs hl hP hD hS hf
    unfold f_Mod_exponent_12 at hf
    refine lv_lshr hx hb d_Mod_exponent_12 rfl ?_
    refine lv_l2i hx hb d_Mod_exponent_13 rfl ?_
    refine lv_topi (fun x3_1 e_x3_1 => ?_)
    have hf := zz_ltp hf x3_1 e_x3_1
    refine lv_istore_n hx hb d_Mod_exponent_14 rfl hl (by decide) rfl (fun ls hl => ?_)
    have hl : lv_has ls 4 [(3, .int x3_1), (2, .int x2)] := hl
    refine lv_iload_n hx hb d_Mod_exponent_15 rfl (lv_at hl 0 rfl) ?_
    refine lv_if_ne (tgt := 23) hx hb d_Mod_exponent_16 (by decide) (fun hc => ?_) (fun hc => ?_)
    · have hf := zz_ifn hc hf
      refine lv_iload_n hx hb d_Mod_exponent_23 rfl (lv_at hl 0 rfl) ?_
      exact hL_24 x3_1 ls _ _ (lv_sub hl [1] rfl) hP hD hS hf
    · have hf := zz_ifp hc hf
      refine lv_iconst (v := 1) hx hb d_Mod_exponent_19 (by decide) ?_
      refine lv_goto (tgt := 24) hx hb d_Mod_exponent_20 (by decide) ?_
      exact hL_24 1 ls _ _ (lv_sub hl [1] rfl) hP hD hS hf
  unfold f_Mod_exponent at hf
  refine lv_lload_n hx hb d_Mod_exponent_0 rfl (lv_at hl 0 rfl) ?_
  refine lv_iload_n hx hb d_Mod_exponent_1 rfl (lv_at hl 1 rfl) ?_
  refine lv_if_eq (tgt := 10) hx hb d_Mod_exponent_2 (by decide) (fun hc => ?_) (fun hc => ?_)
  · have hf := zz_ifp hc hf
    refine lv_bipush (v := 52) hx hb d_Mod_exponent_10 (by decide) ?_
    exact hL_12 x0 52 ls _ _ (lv_sub hl [1] rfl) hP hD hS hf
  · have hf := zz_ifn hc hf
    refine lv_bipush (v := 23) hx hb d_Mod_exponent_5 (by decide) ?_
    refine lv_goto (tgt := 12) hx hb d_Mod_exponent_7 (by decide) ?_
    exact hL_12 x0 23 ls _ _ (lv_sub hl [1] rfl) hP hD hS hf
abbrev ws_Mod_greatest : List Cond := .code y_Mod_greatest prog_10_method_15_code 1 (some .long) :: zw
abbrev rm_Mod_greatest : Room := { frames := 0, cells := 0, slots := 0, locals := 0 }
theorem hd_Mod_greatest : y_Mod_greatest.cls ≠ "java/lang/invoke/MethodHandle" ∧ y_Mod_greatest.cls ≠ "java/lang/invoke/VarHandle" ∧ (parseMethodDescriptor y_Mod_greatest.desc).map (fun d => d.parameters.length) = some 1 := by decide +kernel
theorem d_Mod_greatest_0 : decode prog_10_method_15_code 0 = .ok (.iload_n 0, 1) := by decide +kernel
theorem d_Mod_greatest_1 : decode prog_10_method_15_code 1 = .ok (.ifCond .eq 9, 3) := by decide +kernel
theorem d_Mod_greatest_4 : decode prog_10_method_15_code 4 = .ok (.ldc2_w 82, 3) := by decide +kernel
theorem d_Mod_greatest_7 : decode prog_10_method_15_code 7 = .ok (.goto 6, 3) := by decide +kernel
theorem d_Mod_greatest_10 : decode prog_10_method_15_code 10 = .ok (.ldc2_w 84, 3) := by decide +kernel
theorem d_Mod_greatest_13 : decode prog_10_method_15_code 13 = .ok (.lreturn, 1) := by decide +kernel
def f_Mod_greatest (x0 : Int32) : Option (Int64) :=
  (if x0 = 0 then
  some (9218868437227405311)
  else
  some (2139095039))
set_option maxHeartbeats 4000000 in
set_option maxRecDepth 100000 in
theorem c_Mod_greatest (l : Launch) (dC : Nat → ClassId) (dI : Nat → Nat → Nat) (cI cC cB cJ : ClassId) (sz : Nat) (x0 : Int32) (u : Int64) (hf : f_Mod_greatest x0 = some u) : Met l y_Mod_greatest ws_Mod_greatest rm_Mod_greatest (zz_P zz_T (dC, dI) vwCl (zz_tys cI cC cB cJ) [.int x0] [] sz) (zz_Ql (dC, dI) vwCl u [] (va_A [] sz)) 0 0 (va_A [] sz) := by
  refine Met.ofW (cc := prog_10_method_15_code) (maxL := 1) (ret := (some .long)) (by decide +kernel) rfl ?_
  intro p e s m args below meth c s₁ B hml hv
  obtain ⟨rfl, hsz, hP, hK, hD0, hX⟩ := hv
  have hx := B.exec
  have hb := B.bytes
  have hr := B.returns
  have hts := atoms_spec (ws := ws_Mod_greatest) B.pre
  have hw : ∀ w ∈ zw, w.before [.int x0].toArray s = true := fun w h => hts w (List.mem_cons_of_mem _ h)
  have hown : s.vm.findClass R_Mod = some m.cls := findClass_of_methodNamed B.named
  have hlocks := B.notSynchronized
  subst hsz
  have hD := hD0.self (sz := s.heap.size)
  generalize hAe : va_A [] s.heap.size = A at hD hX ⊢
  have hA : ∀ q : Nat, s.heap.size ≤ q → A q := fun q h => by rw [← hAe]; exact Or.inr h
  have hS : va_S A s.heap s.heap [] := va_S.rf
  have hl := lv_entry [.int x0] (n := 1) (Nat.le_of_ble_eq_true rfl)
  rw [lg_entry_eq]
  generalize (lg_sl [.int x0] ++ List.replicate (1 - (lg_sl [.int x0]).length) Slot.unset).toArray = ls at hl ⊢
  have hl : lv_has ls 1 [(0, .int x0)] := hl
  refine zz_endl hx hb hr hlocks (fun Qq hend => ?_)
  unfold f_Mod_greatest at hf
  refine lv_iload_n hx hb d_Mod_greatest_0 rfl (lv_at hl 0 rfl) ?_
  refine lv_if_eq (tgt := 10) hx hb d_Mod_greatest_1 (by decide) (fun hc => ?_) (fun hc => ?_)
  · have hf := zz_ifp hc hf
    refine lv_ldc2 (v := 9218868437227405311) hx hb hown (hw _ wd_807) d_Mod_greatest_10 ?_
    cases hf
    exact hend 13 ls _ _ d_Mod_greatest_13 hP hD hS
  · have hf := zz_ifn hc hf
    refine lv_ldc2 (v := 2139095039) hx hb hown (hw _ wd_806) d_Mod_greatest_4 ?_
    refine lv_goto (tgt := 13) hx hb d_Mod_greatest_7 (by decide) ?_
    cases hf
    exact hend 13 ls _ _ d_Mod_greatest_13 hP hD hS
abbrev ws_Mod_above : List Cond := .code y_Mod_above prog_10_method_16_code 4 (some .int) :: zw
abbrev rm_Mod_above : Room := { frames := 4, cells := 0, slots := 0, locals := 100 }
theorem hd_Mod_above : y_Mod_above.cls = "RealTextModel" ∧ y_Mod_above.cls ≠ "java/lang/invoke/MethodHandle" ∧ y_Mod_above.cls ≠ "java/lang/invoke/VarHandle" ∧ (parseMethodDescriptor y_Mod_above.desc).map (fun d => d.parameters.length) = some 2 := by decide +kernel
theorem d_Mod_above_0 : decode prog_10_method_16_code 0 = .ok (.aload_n 0, 1) := by decide +kernel
theorem d_Mod_above_1 : decode prog_10_method_16_code 1 = .ok (.ldc2_w 86, 3) := by decide +kernel
theorem d_Mod_above_4 : decode prog_10_method_16_code 4 = .ok (.lload_n 1, 1) := by decide +kernel
theorem d_Mod_above_5 : decode prog_10_method_16_code 5 = .ok (.iload_n 3, 1) := by decide +kernel
theorem d_Mod_above_6 : decode prog_10_method_16_code 6 = .ok (.invokestatic 88, 3) := by decide +kernel
theorem d_Mod_above_9 : decode prog_10_method_16_code 9 = .ok (.lmul, 1) := by decide +kernel
theorem d_Mod_above_10 : decode prog_10_method_16_code 10 = .ok (.lconst 1, 1) := by decide +kernel
theorem d_Mod_above_11 : decode prog_10_method_16_code 11 = .ok (.ladd, 1) := by decide +kernel
theorem d_Mod_above_12 : decode prog_10_method_16_code 12 = .ok (.lload_n 1, 1) := by decide +kernel
theorem d_Mod_above_13 : decode prog_10_method_16_code 13 = .ok (.iload_n 3, 1) := by decide +kernel
theorem d_Mod_above_14 : decode prog_10_method_16_code 14 = .ok (.invokestatic 92, 3) := by decide +kernel
theorem d_Mod_above_17 : decode prog_10_method_16_code 17 = .ok (.iconst 1, 1) := by decide +kernel
theorem d_Mod_above_18 : decode prog_10_method_16_code 18 = .ok (.isub, 1) := by decide +kernel
theorem d_Mod_above_19 : decode prog_10_method_16_code 19 = .ok (.invokevirtual 96, 3) := by decide +kernel
theorem d_Mod_above_22 : decode prog_10_method_16_code 22 = .ok (.ireturn, 1) := by decide +kernel
def f_Mod_above (fu : Nat) (n_v_a : Nat) (n_v_b : Nat) (n_v_left : Nat) (n_v_right : Nat) (x1 : Int64) (x3 : Int32) (v_aMany : Int32) (v_bMany : Int32) (v_leftMany : Int32) (v_rightMany : Int32) (v_twos : Int32) (v_a_a : Nat → Int32) (v_b_a : Nat → Int32) (v_left_a : Nat → Int32) (v_right_a : Nat → Int32) : Option (Int32 × Int32 × Int32 × (Nat → Int32) × (Nat → Int32)) :=
  (f_Mod_mantissa x1 x3).bind fun u_1 =>
  (f_Mod_exponent x1 x3).bind fun u_2 =>
  (f_Mod_compare fu n_v_a n_v_b n_v_left n_v_right ((2 * u_1) + 1) (u_2 - 1) v_aMany v_bMany v_leftMany v_rightMany v_twos v_a_a v_b_a v_left_a v_right_a).bind fun u_3 =>
  some (u_3.1, u_3.2.1, u_3.2.2.1, u_3.2.2.2.1, u_3.2.2.2.2)
set_option maxHeartbeats 4000000 in
set_option maxRecDepth 100000 in
theorem c_Mod_above (l : Launch) (dC : Nat → ClassId) (dI : Nat → Nat → Nat) (cI cC cB cJ : ClassId) (fu : Nat) (sz : Nat) (h_v : Nat) (h_v_a : Nat) (h_v_b : Nat) (h_v_left : Nat) (h_v_right : Nat) (h_v_text : Nat) (h_v_written : Nat) (h_v_five : Nat) (h_v_part : Nat) (n_v_a : Nat) (n_v_b : Nat) (n_v_left : Nat) (n_v_right : Nat) (x1 : Int64) (x3 : Int32) (v_length : Int32) (v_laid : Int32) (v_gone : Int32) (v_thrown : Int32) (v_were : Int32) (v_none : Int32) (v_beyond : Int32) (v_aMany : Int32) (v_bMany : Int32) (v_fiveMany : Int32) (v_leftMany : Int32) (v_rightMany : Int32) (v_partMany : Int32) (v_twos : Int32) (v_at : Int32) (v_digits : Int32) (v_power : Int32) (v_good : Int32) (v_a_a : Nat → Int32) (v_b_a : Nat → Int32) (v_left_a : Nat → Int32) (v_right_a : Nat → Int32) (u : Int32 × Int32 × Int32 × (Nat → Int32) × (Nat → Int32)) (hf : f_Mod_above fu n_v_a n_v_b n_v_left n_v_right x1 x3 v_aMany v_bMany v_leftMany v_rightMany v_twos v_a_a v_b_a v_left_a v_right_a = some u) : Met l y_Mod_above ws_Mod_above rm_Mod_above (zz_P zz_T (dC, dI) vwCl (zz_tys cI cC cB cJ) [.ref h_v, .long x1, .int x3] [(h_v, .inr (7, [.ref h_v_text, .ref h_v_written, .int v_length, .int v_laid, .int v_gone, .int v_thrown, .int v_were, .int v_none, .int v_beyond, .ref h_v_a, .ref h_v_b, .ref h_v_five, .ref h_v_left, .ref h_v_right, .ref h_v_part, .int v_aMany, .int v_bMany, .int v_fiveMany, .int v_leftMany, .int v_rightMany, .int v_partMany, .int v_twos, .int v_at, .int v_digits, .int v_power, .int v_good])), (h_v_a, .inl (cI, n_v_a, .inl v_a_a)), (h_v_b, .inl (cI, n_v_b, .inl v_b_a)), (h_v_left, .inl (cI, n_v_left, .inl v_left_a)), (h_v_right, .inl (cI, n_v_right, .inl v_right_a))] sz) (zz_Qi (dC, dI) vwCl u.1 [(h_v, .inr (7, [.ref h_v_text, .ref h_v_written, .int v_length, .int v_laid, .int v_gone, .int v_thrown, .int v_were, .int v_none, .int v_beyond, .ref h_v_a, .ref h_v_b, .ref h_v_five, .ref h_v_left, .ref h_v_right, .ref h_v_part, .int v_aMany, .int v_bMany, .int v_fiveMany, .int u.2.1, .int u.2.2.1, .int v_partMany, .int v_twos, .int v_at, .int v_digits, .int v_power, .int v_good])), (h_v_a, .inl (cI, n_v_a, .inl v_a_a)), (h_v_b, .inl (cI, n_v_b, .inl v_b_a)), (h_v_left, .inl (cI, n_v_left, .inl u.2.2.2.1)), (h_v_right, .inl (cI, n_v_right, .inl u.2.2.2.2))] (va_A [(h_v, .inr (7, [.ref h_v_text, .ref h_v_written, .int v_length, .int v_laid, .int v_gone, .int v_thrown, .int v_were, .int v_none, .int v_beyond, .ref h_v_a, .ref h_v_b, .ref h_v_five, .ref h_v_left, .ref h_v_right, .ref h_v_part, .int v_aMany, .int v_bMany, .int v_fiveMany, .int v_leftMany, .int v_rightMany, .int v_partMany, .int v_twos, .int v_at, .int v_digits, .int v_power, .int v_good])), (h_v_a, .inl (cI, n_v_a, .inl v_a_a)), (h_v_b, .inl (cI, n_v_b, .inl v_b_a)), (h_v_left, .inl (cI, n_v_left, .inl v_left_a)), (h_v_right, .inl (cI, n_v_right, .inl v_right_a))] sz)) 0 0 (va_A [(h_v, .inr (7, [.ref h_v_text, .ref h_v_written, .int v_length, .int v_laid, .int v_gone, .int v_thrown, .int v_were, .int v_none, .int v_beyond, .ref h_v_a, .ref h_v_b, .ref h_v_five, .ref h_v_left, .ref h_v_right, .ref h_v_part, .int v_aMany, .int v_bMany, .int v_fiveMany, .int v_leftMany, .int v_rightMany, .int v_partMany, .int v_twos, .int v_at, .int v_digits, .int v_power, .int v_good])), (h_v_a, .inl (cI, n_v_a, .inl v_a_a)), (h_v_b, .inl (cI, n_v_b, .inl v_b_a)), (h_v_left, .inl (cI, n_v_left, .inl v_left_a)), (h_v_right, .inl (cI, n_v_right, .inl v_right_a))] sz) := by
  refine Met.ofW (cc := prog_10_method_16_code) (maxL := 4) (ret := (some .int)) (by decide +kernel) rfl ?_
  intro p e s m args below meth c s₁ B hml hv
  obtain ⟨rfl, hsz, hP, hK, hD0, hX⟩ := hv
  have hx := B.exec
  have hb := B.bytes
  have hr := B.returns
  have hts := atoms_spec (ws := ws_Mod_above) B.pre
  have hw : ∀ w ∈ zw, w.before [.ref h_v, .long x1, .int x3].toArray s = true := fun w h => hts w (List.mem_cons_of_mem _ h)
  have hown : s.vm.findClass R_Mod = some m.cls := findClass_of_methodNamed B.named
  have hlocks := B.notSynchronized
  subst hsz
  have hD := hD0.self (sz := s.heap.size)
  generalize hAe : va_A [(h_v, .inr (7, [.ref h_v_text, .ref h_v_written, .int v_length, .int v_laid, .int v_gone, .int v_thrown, .int v_were, .int v_none, .int v_beyond, .ref h_v_a, .ref h_v_b, .ref h_v_five, .ref h_v_left, .ref h_v_right, .ref h_v_part, .int v_aMany, .int v_bMany, .int v_fiveMany, .int v_leftMany, .int v_rightMany, .int v_partMany, .int v_twos, .int v_at, .int v_digits, .int v_power, .int v_good])), (h_v_a, .inl (cI, n_v_a, .inl v_a_a)), (h_v_b, .inl (cI, n_v_b, .inl v_b_a)), (h_v_left, .inl (cI, n_v_left, .inl v_left_a)), (h_v_right, .inl (cI, n_v_right, .inl v_right_a))] s.heap.size = A at hD hX ⊢
  have hA : ∀ q : Nat, s.heap.size ≤ q → A q := fun q h => by rw [← hAe]; exact Or.inr h
  have hS : va_S A s.heap s.heap [] := va_S.rf
  have hl := lv_entry [.ref h_v, .long x1, .int x3] (n := 4) (Nat.le_of_ble_eq_true rfl)
  rw [lg_entry_eq]
  generalize (lg_sl [.ref h_v, .long x1, .int x3] ++ List.replicate (4 - (lg_sl [.ref h_v, .long x1, .int x3]).length) Slot.unset).toArray = ls at hl ⊢
  have hl : lv_has ls 4 [(0, .ref h_v), (1, .long x1), (3, .int x3)] := hl
  refine zz_endi hx hb hr hlocks (fun Qq hend => ?_)
  unfold f_Mod_above at hf
  refine lv_aload_n hx hb d_Mod_above_0 rfl (lv_at hl 0 rfl) ?_
  refine lv_ldc2 (v := 2) hx hb hown (hw _ wd_822) d_Mod_above_1 ?_
  refine lv_lload_n hx hb d_Mod_above_4 rfl (lv_at hl 1 rfl) ?_
  refine lv_iload_n hx hb d_Mod_above_5 rfl (lv_at hl 2 rfl) ?_
  obtain ⟨u_1, hu_1, hf⟩ := zz_bd hf
  refine zz_cl (ws' := [(h_v, .inr (7, [.ref h_v_text, .ref h_v_written, .int v_length, .int v_laid, .int v_gone, .int v_thrown, .int v_were, .int v_none, .int v_beyond, .ref h_v_a, .ref h_v_b, .ref h_v_five, .ref h_v_left, .ref h_v_right, .ref h_v_part, .int v_aMany, .int v_bMany, .int v_fiveMany, .int v_leftMany, .int v_rightMany, .int v_partMany, .int v_twos, .int v_at, .int v_digits, .int v_power, .int v_good])), (h_v_a, .inl (cI, n_v_a, .inl v_a_a)), (h_v_b, .inl (cI, n_v_b, .inl v_b_a)), (h_v_left, .inl (cI, n_v_left, .inl v_left_a)), (h_v_right, .inl (cI, n_v_right, .inl v_right_a))]) (wc := []) (w' := []) hP hD hS hA [] [0, 1, 2, 3, 4] [0, 1, 2, 3, 4] rfl rfl (by decide) (by decide) rfl (by decide) (va_runS (As := [.long x1, .int x3]) (rest := [.long 2, .ref h_v]) ⟨hx, hb, hml, hown, hw⟩ (c_Mod_mantissa l dC dI cI cC cB cJ _ x1 x3 u_1 hu_1) (va_cwS 2 hw (zg_S wd_823 wd_824 wd_8 wd_825) rfl rfl rfl hd_Mod_mantissa ⟨Nat.le_of_ble_eq_true rfl, Nat.le_of_ble_eq_true rfl⟩) (zz_preS zz_TE hP hD hK hS hA trivial [] rfl (by decide)) rfl rfl hl.1 rfl (lv_room (Nat.le_of_ble_eq_true rfl)) d_Mod_above_6 ⟨Nat.zero_le _, Nat.zero_le _⟩) (fun H locs hP hD hS => ?_)
  refine lv_lmul hx hb d_Mod_above_9 ?_
  refine lv_lconst (v := 1) hx hb d_Mod_above_10 (by decide) ?_
  refine lv_ladd hx hb d_Mod_above_11 ?_
  refine lv_lload_n hx hb d_Mod_above_12 rfl (lv_at hl 1 rfl) ?_
  refine lv_iload_n hx hb d_Mod_above_13 rfl (lv_at hl 2 rfl) ?_
  obtain ⟨u_2, hu_2, hf⟩ := zz_bd hf
  refine zz_ci (ws' := [(h_v, .inr (7, [.ref h_v_text, .ref h_v_written, .int v_length, .int v_laid, .int v_gone, .int v_thrown, .int v_were, .int v_none, .int v_beyond, .ref h_v_a, .ref h_v_b, .ref h_v_five, .ref h_v_left, .ref h_v_right, .ref h_v_part, .int v_aMany, .int v_bMany, .int v_fiveMany, .int v_leftMany, .int v_rightMany, .int v_partMany, .int v_twos, .int v_at, .int v_digits, .int v_power, .int v_good])), (h_v_a, .inl (cI, n_v_a, .inl v_a_a)), (h_v_b, .inl (cI, n_v_b, .inl v_b_a)), (h_v_left, .inl (cI, n_v_left, .inl v_left_a)), (h_v_right, .inl (cI, n_v_right, .inl v_right_a))]) (wc := []) (w' := []) hP hD hS hA [] [0, 1, 2, 3, 4] [0, 1, 2, 3, 4] rfl rfl (by decide) (by decide) rfl (by decide) (va_runS (As := [.long x1, .int x3]) (rest := [.long ((2 * u_1) + 1), .ref h_v]) ⟨hx, hb, hml, hown, hw⟩ (c_Mod_exponent l dC dI cI cC cB cJ _ x1 x3 u_2 hu_2) (va_cwS 2 hw (zg_S wd_826 wd_827 wd_8 wd_828) rfl rfl rfl hd_Mod_exponent ⟨Nat.le_of_ble_eq_true rfl, Nat.le_of_ble_eq_true rfl⟩) (zz_preS zz_TE hP hD hK hS hA trivial [] rfl (by decide)) rfl rfl hl.1 rfl (lv_room (Nat.le_of_ble_eq_true rfl)) d_Mod_above_14 ⟨Nat.zero_le _, Nat.zero_le _⟩) (fun H locs hP hD hS => ?_)
  refine lv_iconst (v := 1) hx hb d_Mod_above_17 (by decide) ?_
  refine lv_isub hx hb d_Mod_above_18 ?_
  obtain ⟨u_3, hu_3, hf⟩ := zz_bd hf
  refine zz_ci (ws' := [(h_v, .inr (7, [.ref h_v_text, .ref h_v_written, .int v_length, .int v_laid, .int v_gone, .int v_thrown, .int v_were, .int v_none, .int v_beyond, .ref h_v_a, .ref h_v_b, .ref h_v_five, .ref h_v_left, .ref h_v_right, .ref h_v_part, .int v_aMany, .int v_bMany, .int v_fiveMany, .int u_3.2.1, .int u_3.2.2.1, .int v_partMany, .int v_twos, .int v_at, .int v_digits, .int v_power, .int v_good])), (h_v_a, .inl (cI, n_v_a, .inl v_a_a)), (h_v_b, .inl (cI, n_v_b, .inl v_b_a)), (h_v_left, .inl (cI, n_v_left, .inl u_3.2.2.2.1)), (h_v_right, .inl (cI, n_v_right, .inl u_3.2.2.2.2))]) (wc := [(h_v, .inr (7, [.ref h_v_text, .ref h_v_written, .int v_length, .int v_laid, .int v_gone, .int v_thrown, .int v_were, .int v_none, .int v_beyond, .ref h_v_a, .ref h_v_b, .ref h_v_five, .ref h_v_left, .ref h_v_right, .ref h_v_part, .int v_aMany, .int v_bMany, .int v_fiveMany, .int v_leftMany, .int v_rightMany, .int v_partMany, .int v_twos, .int v_at, .int v_digits, .int v_power, .int v_good])), (h_v_a, .inl (cI, n_v_a, .inl v_a_a)), (h_v_b, .inl (cI, n_v_b, .inl v_b_a)), (h_v_left, .inl (cI, n_v_left, .inl v_left_a)), (h_v_right, .inl (cI, n_v_right, .inl v_right_a))]) (w' := [(h_v, .inr (7, [.ref h_v_text, .ref h_v_written, .int v_length, .int v_laid, .int v_gone, .int v_thrown, .int v_were, .int v_none, .int v_beyond, .ref h_v_a, .ref h_v_b, .ref h_v_five, .ref h_v_left, .ref h_v_right, .ref h_v_part, .int v_aMany, .int v_bMany, .int v_fiveMany, .int u_3.2.1, .int u_3.2.2.1, .int v_partMany, .int v_twos, .int v_at, .int v_digits, .int v_power, .int v_good])), (h_v_a, .inl (cI, n_v_a, .inl v_a_a)), (h_v_b, .inl (cI, n_v_b, .inl v_b_a)), (h_v_left, .inl (cI, n_v_left, .inl u_3.2.2.2.1)), (h_v_right, .inl (cI, n_v_right, .inl u_3.2.2.2.2))]) hP hD hS hA [0, 1, 2, 3, 4] [] [0, 1, 2, 3, 4] rfl rfl (by decide) (by decide) rfl (by decide) (va_runV (As := [.long ((2 * u_1) + 1), .int (u_2 - 1)]) (rest := []) ⟨hx, hb, hml, hown, hw⟩ (c_Mod_compare l dC dI cI cC cB cJ fu _ h_v h_v_a h_v_b h_v_left h_v_right h_v_text h_v_written h_v_five h_v_part n_v_a n_v_b n_v_left n_v_right ((2 * u_1) + 1) (u_2 - 1) v_length v_laid v_gone v_thrown v_were v_none v_beyond v_aMany v_bMany v_fiveMany v_leftMany v_rightMany v_partMany v_twos v_at v_digits v_power v_good v_a_a v_b_a v_left_a v_right_a u_3 hu_3) (cwV 2 hw (zg_V wd_829 wd_831 we_2_1 wd_8 wd_832) rfl rfl rfl hd_Mod_compare ⟨Nat.le_of_ble_eq_true rfl, Nat.le_of_ble_eq_true rfl⟩) (zz_preV zz_TE (va_recv (q0 := 0) (ci := 7) hK hP rfl rfl) hP hD hK hS hA trivial [0, 1, 2, 3, 4] rfl (by decide)) rfl rfl hl.1 rfl (lv_room (Nat.le_of_ble_eq_true rfl)) d_Mod_above_19 ⟨Nat.zero_le _, Nat.zero_le _⟩) (fun H locs hP hD hS => ?_)
  cases hf
  exact hend 22 ls _ _ d_Mod_above_22 hP hD hS
abbrev ws_Mod_nearest : List Cond := .code y_Mod_nearest prog_10_method_17_code 9 (some .long) :: zw
abbrev rm_Mod_nearest : Room := { frames := 5, cells := 0, slots := 0, locals := 123 }
theorem hd_Mod_nearest : y_Mod_nearest.cls = "RealTextModel" ∧ y_Mod_nearest.cls ≠ "java/lang/invoke/MethodHandle" ∧ y_Mod_nearest.cls ≠ "java/lang/invoke/VarHandle" ∧ (parseMethodDescriptor y_Mod_nearest.desc).map (fun d => d.parameters.length) = some 1 := by decide +kernel
theorem d_Mod_nearest_0 : decode prog_10_method_17_code 0 = .ok (.lconst 0, 1) := by decide +kernel
theorem d_Mod_nearest_1 : decode prog_10_method_17_code 1 = .ok (.lstore_n 2, 1) := by decide +kernel
theorem d_Mod_nearest_2 : decode prog_10_method_17_code 2 = .ok (.iload_n 1, 1) := by decide +kernel
theorem d_Mod_nearest_3 : decode prog_10_method_17_code 3 = .ok (.invokestatic 100, 3) := by decide +kernel
theorem d_Mod_nearest_6 : decode prog_10_method_17_code 6 = .ok (.lstore 4, 2) := by decide +kernel
theorem d_Mod_nearest_8 : decode prog_10_method_17_code 8 = .ok (.iconst 0, 1) := by decide +kernel
theorem d_Mod_nearest_9 : decode prog_10_method_17_code 9 = .ok (.istore 6, 2) := by decide +kernel
theorem d_Mod_nearest_11 : decode prog_10_method_17_code 11 = .ok (.iload 6, 2) := by decide +kernel
theorem d_Mod_nearest_13 : decode prog_10_method_17_code 13 = .ok (.bipush 70, 2) := by decide +kernel
theorem d_Mod_nearest_15 : decode prog_10_method_17_code 15 = .ok (.if_icmp .ge 61, 3) := by decide +kernel
theorem d_Mod_nearest_18 : decode prog_10_method_17_code 18 = .ok (.lload_n 2, 1) := by decide +kernel
theorem d_Mod_nearest_19 : decode prog_10_method_17_code 19 = .ok (.lload 4, 2) := by decide +kernel
theorem d_Mod_nearest_21 : decode prog_10_method_17_code 21 = .ok (.lcmp, 1) := by decide +kernel
theorem d_Mod_nearest_22 : decode prog_10_method_17_code 22 = .ok (.ifCond .ge 54, 3) := by decide +kernel
theorem d_Mod_nearest_25 : decode prog_10_method_17_code 25 = .ok (.lload_n 2, 1) := by decide +kernel
theorem d_Mod_nearest_26 : decode prog_10_method_17_code 26 = .ok (.lload 4, 2) := by decide +kernel
theorem d_Mod_nearest_28 : decode prog_10_method_17_code 28 = .ok (.lload_n 2, 1) := by decide +kernel
theorem d_Mod_nearest_29 : decode prog_10_method_17_code 29 = .ok (.lsub, 1) := by decide +kernel
theorem d_Mod_nearest_30 : decode prog_10_method_17_code 30 = .ok (.lconst 1, 1) := by decide +kernel
theorem d_Mod_nearest_31 : decode prog_10_method_17_code 31 = .ok (.ladd, 1) := by decide +kernel
theorem d_Mod_nearest_32 : decode prog_10_method_17_code 32 = .ok (.ldc2_w 86, 3) := by decide +kernel
theorem d_Mod_nearest_35 : decode prog_10_method_17_code 35 = .ok (.ldiv, 1) := by decide +kernel
theorem d_Mod_nearest_36 : decode prog_10_method_17_code 36 = .ok (.ladd, 1) := by decide +kernel
theorem d_Mod_nearest_37 : decode prog_10_method_17_code 37 = .ok (.lstore 7, 2) := by decide +kernel
theorem d_Mod_nearest_39 : decode prog_10_method_17_code 39 = .ok (.aload_n 0, 1) := by decide +kernel
theorem d_Mod_nearest_40 : decode prog_10_method_17_code 40 = .ok (.lload 7, 2) := by decide +kernel
theorem d_Mod_nearest_42 : decode prog_10_method_17_code 42 = .ok (.iload_n 1, 1) := by decide +kernel
theorem d_Mod_nearest_43 : decode prog_10_method_17_code 43 = .ok (.invokestatic 88, 3) := by decide +kernel
theorem d_Mod_nearest_46 : decode prog_10_method_17_code 46 = .ok (.lload 7, 2) := by decide +kernel
theorem d_Mod_nearest_48 : decode prog_10_method_17_code 48 = .ok (.iload_n 1, 1) := by decide +kernel
theorem d_Mod_nearest_49 : decode prog_10_method_17_code 49 = .ok (.invokestatic 92, 3) := by decide +kernel
theorem d_Mod_nearest_52 : decode prog_10_method_17_code 52 = .ok (.invokevirtual 96, 3) := by decide +kernel
theorem d_Mod_nearest_55 : decode prog_10_method_17_code 55 = .ok (.ifCond .lt 9, 3) := by decide +kernel
theorem d_Mod_nearest_58 : decode prog_10_method_17_code 58 = .ok (.lload 7, 2) := by decide +kernel
theorem d_Mod_nearest_60 : decode prog_10_method_17_code 60 = .ok (.lstore_n 2, 1) := by decide +kernel
theorem d_Mod_nearest_61 : decode prog_10_method_17_code 61 = .ok (.goto 9, 3) := by decide +kernel
theorem d_Mod_nearest_64 : decode prog_10_method_17_code 64 = .ok (.lload 7, 2) := by decide +kernel
theorem d_Mod_nearest_66 : decode prog_10_method_17_code 66 = .ok (.lconst 1, 1) := by decide +kernel
theorem d_Mod_nearest_67 : decode prog_10_method_17_code 67 = .ok (.lsub, 1) := by decide +kernel
theorem d_Mod_nearest_68 : decode prog_10_method_17_code 68 = .ok (.lstore 4, 2) := by decide +kernel
theorem d_Mod_nearest_70 : decode prog_10_method_17_code 70 = .ok (.iinc 6 1, 3) := by decide +kernel
theorem d_Mod_nearest_73 : decode prog_10_method_17_code 73 = .ok (.goto (-62), 3) := by decide +kernel
theorem d_Mod_nearest_76 : decode prog_10_method_17_code 76 = .ok (.aload_n 0, 1) := by decide +kernel
theorem d_Mod_nearest_77 : decode prog_10_method_17_code 77 = .ok (.lload_n 2, 1) := by decide +kernel
theorem d_Mod_nearest_78 : decode prog_10_method_17_code 78 = .ok (.iload_n 1, 1) := by decide +kernel
theorem d_Mod_nearest_79 : decode prog_10_method_17_code 79 = .ok (.invokevirtual 104, 3) := by decide +kernel
theorem d_Mod_nearest_82 : decode prog_10_method_17_code 82 = .ok (.istore 6, 2) := by decide +kernel
theorem d_Mod_nearest_84 : decode prog_10_method_17_code 84 = .ok (.iload 6, 2) := by decide +kernel
theorem d_Mod_nearest_86 : decode prog_10_method_17_code 86 = .ok (.ifCond .gt 16, 3) := by decide +kernel
theorem d_Mod_nearest_89 : decode prog_10_method_17_code 89 = .ok (.iload 6, 2) := by decide +kernel
theorem d_Mod_nearest_91 : decode prog_10_method_17_code 91 = .ok (.ifCond .ne 17, 3) := by decide +kernel
theorem d_Mod_nearest_94 : decode prog_10_method_17_code 94 = .ok (.lload_n 2, 1) := by decide +kernel
theorem d_Mod_nearest_95 : decode prog_10_method_17_code 95 = .ok (.lconst 1, 1) := by decide +kernel
theorem d_Mod_nearest_96 : decode prog_10_method_17_code 96 = .ok (.land, 1) := by decide +kernel
theorem d_Mod_nearest_97 : decode prog_10_method_17_code 97 = .ok (.lconst 1, 1) := by decide +kernel
theorem d_Mod_nearest_98 : decode prog_10_method_17_code 98 = .ok (.lcmp, 1) := by decide +kernel
theorem d_Mod_nearest_99 : decode prog_10_method_17_code 99 = .ok (.ifCond .ne 9, 3) := by decide +kernel
theorem d_Mod_nearest_102 : decode prog_10_method_17_code 102 = .ok (.lload_n 2, 1) := by decide +kernel
theorem d_Mod_nearest_103 : decode prog_10_method_17_code 103 = .ok (.lconst 1, 1) := by decide +kernel
theorem d_Mod_nearest_104 : decode prog_10_method_17_code 104 = .ok (.ladd, 1) := by decide +kernel
theorem d_Mod_nearest_105 : decode prog_10_method_17_code 105 = .ok (.goto 4, 3) := by decide +kernel
theorem d_Mod_nearest_108 : decode prog_10_method_17_code 108 = .ok (.lload_n 2, 1) := by decide +kernel
theorem d_Mod_nearest_109 : decode prog_10_method_17_code 109 = .ok (.lreturn, 1) := by decide +kernel
def f_Mod_nearest_76 (fu : Nat) (n_v_a : Nat) (n_v_b : Nat) (n_v_left : Nat) (n_v_right : Nat) (x1 : Int32) (v_aMany : Int32) (v_bMany : Int32) (v_twos : Int32) (v_a_a : Nat → Int32) (v_b_a : Nat → Int32)  (y2 : Int64) (v_leftMany : Int32) (v_rightMany : Int32) (v_left_a : Nat → Int32) (v_right_a : Nat → Int32) : Option (Int64 × Int32 × Int32 × (Nat → Int32) × (Nat → Int32)) :=
  (f_Mod_above fu n_v_a n_v_b n_v_left n_v_right y2 x1 v_aMany v_bMany v_leftMany v_rightMany v_twos v_a_a v_b_a v_left_a v_right_a).bind fun u_2 =>
  (if 0 < u_2.1 then
  some (y2 + 1, u_2.2.1, u_2.2.2.1, u_2.2.2.2.1, u_2.2.2.2.2)
  else
  (if u_2.1 = 0 then
  (if (lg_cmp (y2 &&& 1) 1) = 0 then
  some (y2 + 1, u_2.2.1, u_2.2.2.1, u_2.2.2.2.1, u_2.2.2.2.2)
  else
  some (y2, u_2.2.1, u_2.2.2.1, u_2.2.2.2.1, u_2.2.2.2.2))
  else
  some (y2, u_2.2.1, u_2.2.2.1, u_2.2.2.2.1, u_2.2.2.2.2)))
def f_Mod_nearest_11 (fu : Nat) (n_v_a : Nat) (n_v_b : Nat) (n_v_left : Nat) (n_v_right : Nat) (x1 : Int32) (v_aMany : Int32) (v_bMany : Int32) (v_twos : Int32) (v_a_a : Nat → Int32) (v_b_a : Nat → Int32)  : Nat → Int64 → Int64 → Int32 → Int32 → Int32 → (Nat → Int32) → (Nat → Int32) → Option (Int64 × Int32 × Int32 × (Nat → Int32) × (Nat → Int32))
  | 0, _, _, _, _, _, _, _ => none
  | n + 1, y2, y4, y6, v_leftMany, v_rightMany, v_left_a, v_right_a =>
  (if 70 ≤ y6 then
  f_Mod_nearest_76 fu n_v_a n_v_b n_v_left n_v_right x1 v_aMany v_bMany v_twos v_a_a v_b_a y2 v_leftMany v_rightMany v_left_a v_right_a
  else
  (if 0 ≤ (lg_cmp y2 y4) then
  f_Mod_nearest_76 fu n_v_a n_v_b n_v_left n_v_right x1 v_aMany v_bMany v_twos v_a_a v_b_a y2 v_leftMany v_rightMany v_left_a v_right_a
  else
  zz_lt (y2 + (((y4 - y2) + 1) / 2)) fun x7_3 =>
  (f_Mod_mantissa x7_3 x1).bind fun u_4 =>
  (f_Mod_exponent x7_3 x1).bind fun u_5 =>
  (f_Mod_compare fu n_v_a n_v_b n_v_left n_v_right u_4 u_5 v_aMany v_bMany v_leftMany v_rightMany v_twos v_a_a v_b_a v_left_a v_right_a).bind fun u_6 =>
  (if u_6.1 < 0 then
  zz_lt (x7_3 - 1) fun x4_7 =>
  f_Mod_nearest_11 fu n_v_a n_v_b n_v_left n_v_right x1 v_aMany v_bMany v_twos v_a_a v_b_a n y2 x4_7 (y6 + 1) u_6.2.1 u_6.2.2.1 u_6.2.2.2.1 u_6.2.2.2.2
  else
  f_Mod_nearest_11 fu n_v_a n_v_b n_v_left n_v_right x1 v_aMany v_bMany v_twos v_a_a v_b_a n x7_3 y4 (y6 + 1) u_6.2.1 u_6.2.2.1 u_6.2.2.2.1 u_6.2.2.2.2)))
theorem f_Mod_nearest_11_s (fu : Nat) (n_v_a : Nat) (n_v_b : Nat) (n_v_left : Nat) (n_v_right : Nat) (x1 : Int32) (v_aMany : Int32) (v_bMany : Int32) (v_twos : Int32) (v_a_a : Nat → Int32) (v_b_a : Nat → Int32)  (n : Nat) (y2 : Int64) (y4 : Int64) (y6 : Int32) (v_leftMany : Int32) (v_rightMany : Int32) (v_left_a : Nat → Int32) (v_right_a : Nat → Int32) : f_Mod_nearest_11 fu n_v_a n_v_b n_v_left n_v_right x1 v_aMany v_bMany v_twos v_a_a v_b_a (n + 1) y2 y4 y6 v_leftMany v_rightMany v_left_a v_right_a =
  (if 70 ≤ y6 then
  f_Mod_nearest_76 fu n_v_a n_v_b n_v_left n_v_right x1 v_aMany v_bMany v_twos v_a_a v_b_a y2 v_leftMany v_rightMany v_left_a v_right_a
  else
  (if 0 ≤ (lg_cmp y2 y4) then
  f_Mod_nearest_76 fu n_v_a n_v_b n_v_left n_v_right x1 v_aMany v_bMany v_twos v_a_a v_b_a y2 v_leftMany v_rightMany v_left_a v_right_a
  else
  zz_lt (y2 + (((y4 - y2) + 1) / 2)) fun x7_3 =>
  (f_Mod_mantissa x7_3 x1).bind fun u_4 =>
  (f_Mod_exponent x7_3 x1).bind fun u_5 =>
  (f_Mod_compare fu n_v_a n_v_b n_v_left n_v_right u_4 u_5 v_aMany v_bMany v_leftMany v_rightMany v_twos v_a_a v_b_a v_left_a v_right_a).bind fun u_6 =>
  (if u_6.1 < 0 then
  zz_lt (x7_3 - 1) fun x4_7 =>
  f_Mod_nearest_11 fu n_v_a n_v_b n_v_left n_v_right x1 v_aMany v_bMany v_twos v_a_a v_b_a n y2 x4_7 (y6 + 1) u_6.2.1 u_6.2.2.1 u_6.2.2.2.1 u_6.2.2.2.2
  else
  f_Mod_nearest_11 fu n_v_a n_v_b n_v_left n_v_right x1 v_aMany v_bMany v_twos v_a_a v_b_a n x7_3 y4 (y6 + 1) u_6.2.1 u_6.2.2.1 u_6.2.2.2.1 u_6.2.2.2.2))) := rfl
def f_Mod_nearest (fu : Nat) (n_v_a : Nat) (n_v_b : Nat) (n_v_left : Nat) (n_v_right : Nat) (x1 : Int32) (v_aMany : Int32) (v_bMany : Int32) (v_leftMany : Int32) (v_rightMany : Int32) (v_twos : Int32) (v_a_a : Nat → Int32) (v_b_a : Nat → Int32) (v_left_a : Nat → Int32) (v_right_a : Nat → Int32) : Option (Int64 × Int32 × Int32 × (Nat → Int32) × (Nat → Int32)) :=
  (f_Mod_greatest x1).bind fun u_1 =>
  f_Mod_nearest_11 fu n_v_a n_v_b n_v_left n_v_right x1 v_aMany v_bMany v_twos v_a_a v_b_a fu 0 u_1 0 v_leftMany v_rightMany v_left_a v_right_a
set_option maxHeartbeats 4000000 in
set_option maxRecDepth 100000 in
theorem c_Mod_nearest (l : Launch) (dC : Nat → ClassId) (dI : Nat → Nat → Nat) (cI cC cB cJ : ClassId) (fu : Nat) (sz : Nat) (h_v : Nat) (h_v_a : Nat) (h_v_b : Nat) (h_v_left : Nat) (h_v_right : Nat) (h_v_text : Nat) (h_v_written : Nat) (h_v_five : Nat) (h_v_part : Nat) (n_v_a : Nat) (n_v_b : Nat) (n_v_left : Nat) (n_v_right : Nat) (x1 : Int32) (v_length : Int32) (v_laid : Int32) (v_gone : Int32) (v_thrown : Int32) (v_were : Int32) (v_none : Int32) (v_beyond : Int32) (v_aMany : Int32) (v_bMany : Int32) (v_fiveMany : Int32) (v_leftMany : Int32) (v_rightMany : Int32) (v_partMany : Int32) (v_twos : Int32) (v_at : Int32) (v_digits : Int32) (v_power : Int32) (v_good : Int32) (v_a_a : Nat → Int32) (v_b_a : Nat → Int32) (v_left_a : Nat → Int32) (v_right_a : Nat → Int32) (u : Int64 × Int32 × Int32 × (Nat → Int32) × (Nat → Int32)) (hf : f_Mod_nearest fu n_v_a n_v_b n_v_left n_v_right x1 v_aMany v_bMany v_leftMany v_rightMany v_twos v_a_a v_b_a v_left_a v_right_a = some u) : Met l y_Mod_nearest ws_Mod_nearest rm_Mod_nearest (zz_P zz_T (dC, dI) vwCl (zz_tys cI cC cB cJ) [.ref h_v, .int x1] [(h_v, .inr (7, [.ref h_v_text, .ref h_v_written, .int v_length, .int v_laid, .int v_gone, .int v_thrown, .int v_were, .int v_none, .int v_beyond, .ref h_v_a, .ref h_v_b, .ref h_v_five, .ref h_v_left, .ref h_v_right, .ref h_v_part, .int v_aMany, .int v_bMany, .int v_fiveMany, .int v_leftMany, .int v_rightMany, .int v_partMany, .int v_twos, .int v_at, .int v_digits, .int v_power, .int v_good])), (h_v_a, .inl (cI, n_v_a, .inl v_a_a)), (h_v_b, .inl (cI, n_v_b, .inl v_b_a)), (h_v_left, .inl (cI, n_v_left, .inl v_left_a)), (h_v_right, .inl (cI, n_v_right, .inl v_right_a))] sz) (zz_Ql (dC, dI) vwCl u.1 [(h_v, .inr (7, [.ref h_v_text, .ref h_v_written, .int v_length, .int v_laid, .int v_gone, .int v_thrown, .int v_were, .int v_none, .int v_beyond, .ref h_v_a, .ref h_v_b, .ref h_v_five, .ref h_v_left, .ref h_v_right, .ref h_v_part, .int v_aMany, .int v_bMany, .int v_fiveMany, .int u.2.1, .int u.2.2.1, .int v_partMany, .int v_twos, .int v_at, .int v_digits, .int v_power, .int v_good])), (h_v_a, .inl (cI, n_v_a, .inl v_a_a)), (h_v_b, .inl (cI, n_v_b, .inl v_b_a)), (h_v_left, .inl (cI, n_v_left, .inl u.2.2.2.1)), (h_v_right, .inl (cI, n_v_right, .inl u.2.2.2.2))] (va_A [(h_v, .inr (7, [.ref h_v_text, .ref h_v_written, .int v_length, .int v_laid, .int v_gone, .int v_thrown, .int v_were, .int v_none, .int v_beyond, .ref h_v_a, .ref h_v_b, .ref h_v_five, .ref h_v_left, .ref h_v_right, .ref h_v_part, .int v_aMany, .int v_bMany, .int v_fiveMany, .int v_leftMany, .int v_rightMany, .int v_partMany, .int v_twos, .int v_at, .int v_digits, .int v_power, .int v_good])), (h_v_a, .inl (cI, n_v_a, .inl v_a_a)), (h_v_b, .inl (cI, n_v_b, .inl v_b_a)), (h_v_left, .inl (cI, n_v_left, .inl v_left_a)), (h_v_right, .inl (cI, n_v_right, .inl v_right_a))] sz)) 0 0 (va_A [(h_v, .inr (7, [.ref h_v_text, .ref h_v_written, .int v_length, .int v_laid, .int v_gone, .int v_thrown, .int v_were, .int v_none, .int v_beyond, .ref h_v_a, .ref h_v_b, .ref h_v_five, .ref h_v_left, .ref h_v_right, .ref h_v_part, .int v_aMany, .int v_bMany, .int v_fiveMany, .int v_leftMany, .int v_rightMany, .int v_partMany, .int v_twos, .int v_at, .int v_digits, .int v_power, .int v_good])), (h_v_a, .inl (cI, n_v_a, .inl v_a_a)), (h_v_b, .inl (cI, n_v_b, .inl v_b_a)), (h_v_left, .inl (cI, n_v_left, .inl v_left_a)), (h_v_right, .inl (cI, n_v_right, .inl v_right_a))] sz) := by
  refine Met.ofW (cc := prog_10_method_17_code) (maxL := 9) (ret := (some .long)) (by decide +kernel) rfl ?_
  intro p e s m args below meth c s₁ B hml hv
  obtain ⟨rfl, hsz, hP, hK, hD0, hX⟩ := hv
  have hx := B.exec
  have hb := B.bytes
  have hr := B.returns
  have hts := atoms_spec (ws := ws_Mod_nearest) B.pre
  have hw : ∀ w ∈ zw, w.before [.ref h_v, .int x1].toArray s = true := fun w h => hts w (List.mem_cons_of_mem _ h)
  have hown : s.vm.findClass R_Mod = some m.cls := findClass_of_methodNamed B.named
  have hlocks := B.notSynchronized
  subst hsz
  have hD := hD0.self (sz := s.heap.size)
  generalize hAe : va_A [(h_v, .inr (7, [.ref h_v_text, .ref h_v_written, .int v_length, .int v_laid, .int v_gone, .int v_thrown, .int v_were, .int v_none, .int v_beyond, .ref h_v_a, .ref h_v_b, .ref h_v_five, .ref h_v_left, .ref h_v_right, .ref h_v_part, .int v_aMany, .int v_bMany, .int v_fiveMany, .int v_leftMany, .int v_rightMany, .int v_partMany, .int v_twos, .int v_at, .int v_digits, .int v_power, .int v_good])), (h_v_a, .inl (cI, n_v_a, .inl v_a_a)), (h_v_b, .inl (cI, n_v_b, .inl v_b_a)), (h_v_left, .inl (cI, n_v_left, .inl v_left_a)), (h_v_right, .inl (cI, n_v_right, .inl v_right_a))] s.heap.size = A at hD hX ⊢
  have hA : ∀ q : Nat, s.heap.size ≤ q → A q := fun q h => by rw [← hAe]; exact Or.inr h
  have hS : va_S A s.heap s.heap [] := va_S.rf
  have hl := lv_entry [.ref h_v, .int x1] (n := 9) (Nat.le_of_ble_eq_true rfl)
  rw [lg_entry_eq]
  generalize (lg_sl [.ref h_v, .int x1] ++ List.replicate (9 - (lg_sl [.ref h_v, .int x1]).length) Slot.unset).toArray = ls at hl ⊢
  have hl : lv_has ls 9 [(0, .ref h_v), (1, .int x1)] := hl
  refine zz_endl hx hb hr hlocks (fun Qq hend => ?_)
  have hL_76 : ∀ (y2 : Int64) (v_leftMany : Int32) (v_rightMany : Int32) (v_left_a : Nat → Int32) (v_right_a : Nat → Int32) (ls : Array Slot) (H : Heap) (locs : List Loc), lv_has ls 9 [(0, .ref h_v), (1, .int x1), (2, .long y2)] → va_P (dC, dI) vwCl [(h_v, .inr (7, [.ref h_v_text, .ref h_v_written, .int v_length, .int v_laid, .int v_gone, .int v_thrown, .int v_were, .int v_none, .int v_beyond, .ref h_v_a, .ref h_v_b, .ref h_v_five, .ref h_v_left, .ref h_v_right, .ref h_v_part, .int v_aMany, .int v_bMany, .int v_fiveMany, .int v_leftMany, .int v_rightMany, .int v_partMany, .int v_twos, .int v_at, .int v_digits, .int v_power, .int v_good])), (h_v_a, .inl (cI, n_v_a, .inl v_a_a)), (h_v_b, .inl (cI, n_v_b, .inl v_b_a)), (h_v_left, .inl (cI, n_v_left, .inl v_left_a)), (h_v_right, .inl (cI, n_v_right, .inl v_right_a))] H → va_D A [(h_v, .inr (7, [.ref h_v_text, .ref h_v_written, .int v_length, .int v_laid, .int v_gone, .int v_thrown, .int v_were, .int v_none, .int v_beyond, .ref h_v_a, .ref h_v_b, .ref h_v_five, .ref h_v_left, .ref h_v_right, .ref h_v_part, .int v_aMany, .int v_bMany, .int v_fiveMany, .int v_leftMany, .int v_rightMany, .int v_partMany, .int v_twos, .int v_at, .int v_digits, .int v_power, .int v_good])), (h_v_a, .inl (cI, n_v_a, .inl v_a_a)), (h_v_b, .inl (cI, n_v_b, .inl v_b_a)), (h_v_left, .inl (cI, n_v_left, .inl v_left_a)), (h_v_right, .inl (cI, n_v_right, .inl v_right_a))] → va_S A s.heap H locs → f_Mod_nearest_76 fu n_v_a n_v_b n_v_left n_v_right x1 v_aMany v_bMany v_twos v_a_a v_b_a y2 v_leftMany v_rightMany v_left_a v_right_a = some u → W p l e (headSpec ws_Mod_nearest rm_Mod_nearest).room s m [.ref h_v, .int x1].toArray below meth c H locs 0 0 Qq (F0 m 76 ls []) := by
    intro y2 v_leftMany v_rightMany v_left_a v_right_a ls H locs hl hP hD hS hf
    unfold f_Mod_nearest_76 at hf
    refine lv_aload_n hx hb d_Mod_nearest_76 rfl (lv_at hl 0 rfl) ?_
    refine lv_lload_n hx hb d_Mod_nearest_77 rfl (lv_at hl 2 rfl) ?_
    refine lv_iload_n hx hb d_Mod_nearest_78 rfl (lv_at hl 1 rfl) ?_
    obtain ⟨u_2, hu_2, hf⟩ := zz_bd hf
    refine zz_ci (ws' := [(h_v, .inr (7, [.ref h_v_text, .ref h_v_written, .int v_length, .int v_laid, .int v_gone, .int v_thrown, .int v_were, .int v_none, .int v_beyond, .ref h_v_a, .ref h_v_b, .ref h_v_five, .ref h_v_left, .ref h_v_right, .ref h_v_part, .int v_aMany, .int v_bMany, .int v_fiveMany, .int u_2.2.1, .int u_2.2.2.1, .int v_partMany, .int v_twos, .int v_at, .int v_digits, .int v_power, .int v_good])), (h_v_a, .inl (cI, n_v_a, .inl v_a_a)), (h_v_b, .inl (cI, n_v_b, .inl v_b_a)), (h_v_left, .inl (cI, n_v_left, .inl u_2.2.2.2.1)), (h_v_right, .inl (cI, n_v_right, .inl u_2.2.2.2.2))]) (wc := [(h_v, .inr (7, [.ref h_v_text, .ref h_v_written, .int v_length, .int v_laid, .int v_gone, .int v_thrown, .int v_were, .int v_none, .int v_beyond, .ref h_v_a, .ref h_v_b, .ref h_v_five, .ref h_v_left, .ref h_v_right, .ref h_v_part, .int v_aMany, .int v_bMany, .int v_fiveMany, .int v_leftMany, .int v_rightMany, .int v_partMany, .int v_twos, .int v_at, .int v_digits, .int v_power, .int v_good])), (h_v_a, .inl (cI, n_v_a, .inl v_a_a)), (h_v_b, .inl (cI, n_v_b, .inl v_b_a)), (h_v_left, .inl (cI, n_v_left, .inl v_left_a)), (h_v_right, .inl (cI, n_v_right, .inl v_right_a))]) (w' := [(h_v, .inr (7, [.ref h_v_text, .ref h_v_written, .int v_length, .int v_laid, .int v_gone, .int v_thrown, .int v_were, .int v_none, .int v_beyond, .ref h_v_a, .ref h_v_b, .ref h_v_five, .ref h_v_left, .ref h_v_right, .ref h_v_part, .int v_aMany, .int v_bMany, .int v_fiveMany, .int u_2.2.1, .int u_2.2.2.1, .int v_partMany, .int v_twos, .int v_at, .int v_digits, .int v_power, .int v_good])), (h_v_a, .inl (cI, n_v_a, .inl v_a_a)), (h_v_b, .inl (cI, n_v_b, .inl v_b_a)), (h_v_left, .inl (cI, n_v_left, .inl u_2.2.2.2.1)), (h_v_right, .inl (cI, n_v_right, .inl u_2.2.2.2.2))]) hP hD hS hA [0, 1, 2, 3, 4] [] [0, 1, 2, 3, 4] rfl rfl (by decide) (by decide) rfl (by decide) (va_runV (As := [.long y2, .int x1]) (rest := []) ⟨hx, hb, hml, hown, hw⟩ (c_Mod_above l dC dI cI cC cB cJ fu _ h_v h_v_a h_v_b h_v_left h_v_right h_v_text h_v_written h_v_five h_v_part n_v_a n_v_b n_v_left n_v_right y2 x1 v_length v_laid v_gone v_thrown v_were v_none v_beyond v_aMany v_bMany v_fiveMany v_leftMany v_rightMany v_partMany v_twos v_at v_digits v_power v_good v_a_a v_b_a v_left_a v_right_a u_2 hu_2) (cwV 2 hw (zg_V wd_840 wd_842 we_2_3 wd_8 wd_843) rfl rfl rfl hd_Mod_above ⟨Nat.le_of_ble_eq_true rfl, Nat.le_of_ble_eq_true rfl⟩) (zz_preV zz_TE (va_recv (q0 := 0) (ci := 7) hK hP rfl rfl) hP hD hK hS hA trivial [0, 1, 2, 3, 4] rfl (by decide)) rfl rfl hl.1 rfl (lv_room (Nat.le_of_ble_eq_true rfl)) d_Mod_nearest_79 ⟨Nat.zero_le _, Nat.zero_le _⟩) (fun H locs hP hD hS => ?_)
    refine lv_istore hx hb d_Mod_nearest_82 hl (by decide) rfl (fun ls hl => ?_)
    have hl : lv_has ls 9 [(6, .int u_2.1), (0, .ref h_v), (1, .int x1), (2, .long y2)] := hl
    refine lv_iload hx hb d_Mod_nearest_84 (lv_at hl 0 rfl) ?_
    refine lv_if_gt (tgt := 102) hx hb d_Mod_nearest_86 (by decide) (fun hc => ?_) (fun hc => ?_)
    · have hf := zz_ifp hc hf
      refine lv_lload_n hx hb d_Mod_nearest_102 rfl (lv_at hl 3 rfl) ?_
      refine lv_lconst (v := 1) hx hb d_Mod_nearest_103 (by decide) ?_
      refine lv_ladd hx hb d_Mod_nearest_104 ?_
      refine lv_goto (tgt := 109) hx hb d_Mod_nearest_105 (by decide) ?_
      cases hf
      exact hend 109 ls _ _ d_Mod_nearest_109 hP hD hS
    · have hf := zz_ifn hc hf
      refine lv_iload hx hb d_Mod_nearest_89 (lv_at hl 0 rfl) ?_
      refine lv_if_ne (tgt := 108) hx hb d_Mod_nearest_91 (by decide) (fun hc => ?_) (fun hc => ?_)
      · have hf := zz_ifn hc hf
        refine lv_lload_n hx hb d_Mod_nearest_108 rfl (lv_at hl 3 rfl) ?_
        cases hf
        exact hend 109 ls _ _ d_Mod_nearest_109 hP hD hS
      · have hf := zz_ifp hc hf
        refine lv_lload_n hx hb d_Mod_nearest_94 rfl (lv_at hl 3 rfl) ?_
        refine lv_lconst (v := 1) hx hb d_Mod_nearest_95 (by decide) ?_
        refine lv_land hx hb d_Mod_nearest_96 ?_
        refine lv_lconst (v := 1) hx hb d_Mod_nearest_97 (by decide) ?_
        refine W.lcmp hx hb d_Mod_nearest_98 ?_
        refine lv_if_ne (tgt := 108) hx hb d_Mod_nearest_99 (by decide) (fun hc => ?_) (fun hc => ?_)
        · have hf := zz_ifn hc hf
          refine lv_lload_n hx hb d_Mod_nearest_108 rfl (lv_at hl 3 rfl) ?_
          cases hf
          exact hend 109 ls _ _ d_Mod_nearest_109 hP hD hS
        · have hf := zz_ifp hc hf
          refine lv_lload_n hx hb d_Mod_nearest_102 rfl (lv_at hl 3 rfl) ?_
          refine lv_lconst (v := 1) hx hb d_Mod_nearest_103 (by decide) ?_
          refine lv_ladd hx hb d_Mod_nearest_104 ?_
          refine lv_goto (tgt := 109) hx hb d_Mod_nearest_105 (by decide) ?_
          cases hf
          exact hend 109 ls _ _ d_Mod_nearest_109 hP hD hS
  have hL_11 : ∀ (n : Nat), ∀ (y2 : Int64) (y4 : Int64) (y6 : Int32) (v_leftMany : Int32) (v_rightMany : Int32) (v_left_a : Nat → Int32) (v_right_a : Nat → Int32) (ls : Array Slot) (H : Heap) (locs : List Loc), lv_has ls 9 [(0, .ref h_v), (1, .int x1), (2, .long y2), (4, .long y4), (6, .int y6)] → va_P (dC, dI) vwCl [(h_v, .inr (7, [.ref h_v_text, .ref h_v_written, .int v_length, .int v_laid, .int v_gone, .int v_thrown, .int v_were, .int v_none, .int v_beyond, .ref h_v_a, .ref h_v_b, .ref h_v_five, .ref h_v_left, .ref h_v_right, .ref h_v_part, .int v_aMany, .int v_bMany, .int v_fiveMany, .int v_leftMany, .int v_rightMany, .int v_partMany, .int v_twos, .int v_at, .int v_digits, .int v_power, .int v_good])), (h_v_a, .inl (cI, n_v_a, .inl v_a_a)), (h_v_b, .inl (cI, n_v_b, .inl v_b_a)), (h_v_left, .inl (cI, n_v_left, .inl v_left_a)), (h_v_right, .inl (cI, n_v_right, .inl v_right_a))] H → va_D A [(h_v, .inr (7, [.ref h_v_text, .ref h_v_written, .int v_length, .int v_laid, .int v_gone, .int v_thrown, .int v_were, .int v_none, .int v_beyond, .ref h_v_a, .ref h_v_b, .ref h_v_five, .ref h_v_left, .ref h_v_right, .ref h_v_part, .int v_aMany, .int v_bMany, .int v_fiveMany, .int v_leftMany, .int v_rightMany, .int v_partMany, .int v_twos, .int v_at, .int v_digits, .int v_power, .int v_good])), (h_v_a, .inl (cI, n_v_a, .inl v_a_a)), (h_v_b, .inl (cI, n_v_b, .inl v_b_a)), (h_v_left, .inl (cI, n_v_left, .inl v_left_a)), (h_v_right, .inl (cI, n_v_right, .inl v_right_a))] → va_S A s.heap H locs → f_Mod_nearest_11 fu n_v_a n_v_b n_v_left n_v_right x1 v_aMany v_bMany v_twos v_a_a v_b_a n y2 y4 y6 v_leftMany v_rightMany v_left_a v_right_a = some u → W p l e (headSpec ws_Mod_nearest rm_Mod_nearest).room s m [.ref h_v, .int x1].toArray below meth c H locs 0 0 Qq (F0 m 11 ls []) := by
    intro n
    induction n with
    | zero =>
      intro y2 y4 y6 v_leftMany v_rightMany v_left_a v_right_a ls H locs hl hP hD hS hf
      exact zz_no hf
    | succ n ih =>
      intro y2 y4 y6 v_leftMany v_rightMany v_left_a v_right_a ls H locs hl hP hD hS hf
      rw [f_Mod_nearest_11_s] at hf
      refine lv_iload hx hb d_Mod_nearest_11 (lv_at hl 4 rfl) ?_
      refine lv_bipush (v := 70) hx hb d_Mod_nearest_13 (by decide) ?_
      refine lv_icmp_ge (tgt := 76) hx hb d_Mod_nearest_15 (by decide) (fun hc => ?_) (fun hc => ?_)
      · have hf := zz_ifp hc hf
        exact hL_76 y2 v_leftMany v_rightMany v_left_a v_right_a ls _ _ (lv_sub hl [0, 1, 2] rfl) hP hD hS hf
      · have hf := zz_ifn hc hf
        refine lv_lload_n hx hb d_Mod_nearest_18 rfl (lv_at hl 2 rfl) ?_
        refine lv_lload hx hb d_Mod_nearest_19 (lv_at hl 3 rfl) ?_
        refine W.lcmp hx hb d_Mod_nearest_21 ?_
        refine lv_if_ge (tgt := 76) hx hb d_Mod_nearest_22 (by decide) (fun hc => ?_) (fun hc => ?_)
        · have hf := zz_ifp hc hf
          exact hL_76 y2 v_leftMany v_rightMany v_left_a v_right_a ls _ _ (lv_sub hl [0, 1, 2] rfl) hP hD hS hf
        · have hf := zz_ifn hc hf
          refine lv_lload_n hx hb d_Mod_nearest_25 rfl (lv_at hl 2 rfl) ?_
          refine lv_lload hx hb d_Mod_nearest_26 (lv_at hl 3 rfl) ?_
          refine lv_lload_n hx hb d_Mod_nearest_28 rfl (lv_at hl 2 rfl) ?_
          refine lv_lsub hx hb d_Mod_nearest_29 ?_
          refine lv_lconst (v := 1) hx hb d_Mod_nearest_30 (by decide) ?_
          refine lv_ladd hx hb d_Mod_nearest_31 ?_
          refine lv_ldc2 (v := 2) hx hb hown (hw _ wd_822) d_Mod_nearest_32 ?_
          refine lv_ldiv hx hb d_Mod_nearest_35 (by decide) ?_
          refine lv_ladd hx hb d_Mod_nearest_36 ?_
          refine lv_topl (fun x7_3 e_x7_3 => ?_)
          have hf := zz_ltp hf x7_3 e_x7_3
          refine lv_lstore hx hb d_Mod_nearest_37 hl (by decide) rfl (fun ls hl => ?_)
          have hl : lv_has ls 9 [(7, .long x7_3), (0, .ref h_v), (1, .int x1), (2, .long y2), (4, .long y4), (6, .int y6)] := hl
          refine lv_aload_n hx hb d_Mod_nearest_39 rfl (lv_at hl 1 rfl) ?_
          refine lv_lload hx hb d_Mod_nearest_40 (lv_at hl 0 rfl) ?_
          refine lv_iload_n hx hb d_Mod_nearest_42 rfl (lv_at hl 2 rfl) ?_
          obtain ⟨u_4, hu_4, hf⟩ := zz_bd hf
          refine zz_cl (ws' := [(h_v, .inr (7, [.ref h_v_text, .ref h_v_written, .int v_length, .int v_laid, .int v_gone, .int v_thrown, .int v_were, .int v_none, .int v_beyond, .ref h_v_a, .ref h_v_b, .ref h_v_five, .ref h_v_left, .ref h_v_right, .ref h_v_part, .int v_aMany, .int v_bMany, .int v_fiveMany, .int v_leftMany, .int v_rightMany, .int v_partMany, .int v_twos, .int v_at, .int v_digits, .int v_power, .int v_good])), (h_v_a, .inl (cI, n_v_a, .inl v_a_a)), (h_v_b, .inl (cI, n_v_b, .inl v_b_a)), (h_v_left, .inl (cI, n_v_left, .inl v_left_a)), (h_v_right, .inl (cI, n_v_right, .inl v_right_a))]) (wc := []) (w' := []) hP hD hS hA [] [0, 1, 2, 3, 4] [0, 1, 2, 3, 4] rfl rfl (by decide) (by decide) rfl (by decide) (va_runS (As := [.long x7_3, .int x1]) (rest := [.ref h_v]) ⟨hx, hb, hml, hown, hw⟩ (c_Mod_mantissa l dC dI cI cC cB cJ _ x7_3 x1 u_4 hu_4) (va_cwS 2 hw (zg_S wd_823 wd_824 wd_8 wd_825) rfl rfl rfl hd_Mod_mantissa ⟨Nat.le_of_ble_eq_true rfl, Nat.le_of_ble_eq_true rfl⟩) (zz_preS zz_TE hP hD hK hS hA trivial [] rfl (by decide)) rfl rfl hl.1 rfl (lv_room (Nat.le_of_ble_eq_true rfl)) d_Mod_nearest_43 ⟨Nat.zero_le _, Nat.zero_le _⟩) (fun H locs hP hD hS => ?_)
          refine lv_lload hx hb d_Mod_nearest_46 (lv_at hl 0 rfl) ?_
          refine lv_iload_n hx hb d_Mod_nearest_48 rfl (lv_at hl 2 rfl) ?_
          obtain ⟨u_5, hu_5, hf⟩ := zz_bd hf
          refine zz_ci (ws' := [(h_v, .inr (7, [.ref h_v_text, .ref h_v_written, .int v_length, .int v_laid, .int v_gone, .int v_thrown, .int v_were, .int v_none, .int v_beyond, .ref h_v_a, .ref h_v_b, .ref h_v_five, .ref h_v_left, .ref h_v_right, .ref h_v_part, .int v_aMany, .int v_bMany, .int v_fiveMany, .int v_leftMany, .int v_rightMany, .int v_partMany, .int v_twos, .int v_at, .int v_digits, .int v_power, .int v_good])), (h_v_a, .inl (cI, n_v_a, .inl v_a_a)), (h_v_b, .inl (cI, n_v_b, .inl v_b_a)), (h_v_left, .inl (cI, n_v_left, .inl v_left_a)), (h_v_right, .inl (cI, n_v_right, .inl v_right_a))]) (wc := []) (w' := []) hP hD hS hA [] [0, 1, 2, 3, 4] [0, 1, 2, 3, 4] rfl rfl (by decide) (by decide) rfl (by decide) (va_runS (As := [.long x7_3, .int x1]) (rest := [.long u_4, .ref h_v]) ⟨hx, hb, hml, hown, hw⟩ (c_Mod_exponent l dC dI cI cC cB cJ _ x7_3 x1 u_5 hu_5) (va_cwS 2 hw (zg_S wd_826 wd_827 wd_8 wd_828) rfl rfl rfl hd_Mod_exponent ⟨Nat.le_of_ble_eq_true rfl, Nat.le_of_ble_eq_true rfl⟩) (zz_preS zz_TE hP hD hK hS hA trivial [] rfl (by decide)) rfl rfl hl.1 rfl (lv_room (Nat.le_of_ble_eq_true rfl)) d_Mod_nearest_49 ⟨Nat.zero_le _, Nat.zero_le _⟩) (fun H locs hP hD hS => ?_)
          obtain ⟨u_6, hu_6, hf⟩ := zz_bd hf
          refine zz_ci (ws' := [(h_v, .inr (7, [.ref h_v_text, .ref h_v_written, .int v_length, .int v_laid, .int v_gone, .int v_thrown, .int v_were, .int v_none, .int v_beyond, .ref h_v_a, .ref h_v_b, .ref h_v_five, .ref h_v_left, .ref h_v_right, .ref h_v_part, .int v_aMany, .int v_bMany, .int v_fiveMany, .int u_6.2.1, .int u_6.2.2.1, .int v_partMany, .int v_twos, .int v_at, .int v_digits, .int v_power, .int v_good])), (h_v_a, .inl (cI, n_v_a, .inl v_a_a)), (h_v_b, .inl (cI, n_v_b, .inl v_b_a)), (h_v_left, .inl (cI, n_v_left, .inl u_6.2.2.2.1)), (h_v_right, .inl (cI, n_v_right, .inl u_6.2.2.2.2))]) (wc := [(h_v, .inr (7, [.ref h_v_text, .ref h_v_written, .int v_length, .int v_laid, .int v_gone, .int v_thrown, .int v_were, .int v_none, .int v_beyond, .ref h_v_a, .ref h_v_b, .ref h_v_five, .ref h_v_left, .ref h_v_right, .ref h_v_part, .int v_aMany, .int v_bMany, .int v_fiveMany, .int v_leftMany, .int v_rightMany, .int v_partMany, .int v_twos, .int v_at, .int v_digits, .int v_power, .int v_good])), (h_v_a, .inl (cI, n_v_a, .inl v_a_a)), (h_v_b, .inl (cI, n_v_b, .inl v_b_a)), (h_v_left, .inl (cI, n_v_left, .inl v_left_a)), (h_v_right, .inl (cI, n_v_right, .inl v_right_a))]) (w' := [(h_v, .inr (7, [.ref h_v_text, .ref h_v_written, .int v_length, .int v_laid, .int v_gone, .int v_thrown, .int v_were, .int v_none, .int v_beyond, .ref h_v_a, .ref h_v_b, .ref h_v_five, .ref h_v_left, .ref h_v_right, .ref h_v_part, .int v_aMany, .int v_bMany, .int v_fiveMany, .int u_6.2.1, .int u_6.2.2.1, .int v_partMany, .int v_twos, .int v_at, .int v_digits, .int v_power, .int v_good])), (h_v_a, .inl (cI, n_v_a, .inl v_a_a)), (h_v_b, .inl (cI, n_v_b, .inl v_b_a)), (h_v_left, .inl (cI, n_v_left, .inl u_6.2.2.2.1)), (h_v_right, .inl (cI, n_v_right, .inl u_6.2.2.2.2))]) hP hD hS hA [0, 1, 2, 3, 4] [] [0, 1, 2, 3, 4] rfl rfl (by decide) (by decide) rfl (by decide) (va_runV (As := [.long u_4, .int u_5]) (rest := []) ⟨hx, hb, hml, hown, hw⟩ (c_Mod_compare l dC dI cI cC cB cJ fu _ h_v h_v_a h_v_b h_v_left h_v_right h_v_text h_v_written h_v_five h_v_part n_v_a n_v_b n_v_left n_v_right u_4 u_5 v_length v_laid v_gone v_thrown v_were v_none v_beyond v_aMany v_bMany v_fiveMany v_leftMany v_rightMany v_partMany v_twos v_at v_digits v_power v_good v_a_a v_b_a v_left_a v_right_a u_6 hu_6) (cwV 2 hw (zg_V wd_829 wd_831 we_2_1 wd_8 wd_832) rfl rfl rfl hd_Mod_compare ⟨Nat.le_of_ble_eq_true rfl, Nat.le_of_ble_eq_true rfl⟩) (zz_preV zz_TE (va_recv (q0 := 0) (ci := 7) hK hP rfl rfl) hP hD hK hS hA trivial [0, 1, 2, 3, 4] rfl (by decide)) rfl rfl hl.1 rfl (lv_room (Nat.le_of_ble_eq_true rfl)) d_Mod_nearest_52 ⟨Nat.zero_le _, Nat.zero_le _⟩) (fun H locs hP hD hS => ?_)
          refine lv_if_lt (tgt := 64) hx hb d_Mod_nearest_55 (by decide) (fun hc => ?_) (fun hc => ?_)
          · have hf := zz_ifp hc hf
            refine lv_lload hx hb d_Mod_nearest_64 (lv_at hl 0 rfl) ?_
            refine lv_lconst (v := 1) hx hb d_Mod_nearest_66 (by decide) ?_
            refine lv_lsub hx hb d_Mod_nearest_67 ?_
            refine lv_topl (fun x4_7 e_x4_7 => ?_)
            have hf := zz_ltp hf x4_7 e_x4_7
            refine lv_lstore hx hb d_Mod_nearest_68 hl (by decide) rfl (fun ls hl => ?_)
            have hl : lv_has ls 9 [(4, .long x4_7), (7, .long x7_3), (0, .ref h_v), (1, .int x1), (2, .long y2), (6, .int y6)] := hl
            refine lv_iinc (k := 5) (v := y6 + 1) hx hb d_Mod_nearest_70 hl rfl rfl (by decide) rfl (fun ls hl => ?_)
            have hl : lv_has ls 9 [(6, .int (y6 + 1)), (4, .long x4_7), (7, .long x7_3), (0, .ref h_v), (1, .int x1), (2, .long y2)] := hl
            refine lv_goto (tgt := 11) hx hb d_Mod_nearest_73 (by decide) ?_
            exact ih y2 x4_7 (y6 + 1) u_6.2.1 u_6.2.2.1 u_6.2.2.2.1 u_6.2.2.2.2 ls _ _ (lv_sub hl [3, 4, 5, 1, 0] rfl) hP hD hS hf
          · have hf := zz_ifn hc hf
            refine lv_lload hx hb d_Mod_nearest_58 (lv_at hl 0 rfl) ?_
            refine lv_lstore_n hx hb d_Mod_nearest_60 rfl hl (by decide) rfl (fun ls hl => ?_)
            have hl : lv_has ls 9 [(2, .long x7_3), (7, .long x7_3), (0, .ref h_v), (1, .int x1), (4, .long y4), (6, .int y6)] := hl
            refine lv_goto (tgt := 70) hx hb d_Mod_nearest_61 (by decide) ?_
            refine lv_iinc (k := 5) (v := y6 + 1) hx hb d_Mod_nearest_70 hl rfl rfl (by decide) rfl (fun ls hl => ?_)
            have hl : lv_has ls 9 [(6, .int (y6 + 1)), (2, .long x7_3), (7, .long x7_3), (0, .ref h_v), (1, .int x1), (4, .long y4)] := hl
            refine lv_goto (tgt := 11) hx hb d_Mod_nearest_73 (by decide) ?_
            exact ih x7_3 y4 (y6 + 1) u_6.2.1 u_6.2.2.1 u_6.2.2.2.1 u_6.2.2.2.2 ls _ _ (lv_sub hl [3, 4, 1, 5, 0] rfl) hP hD hS hf
  unfold f_Mod_nearest at hf
  refine lv_lconst (v := 0) hx hb d_Mod_nearest_0 (by decide) ?_
  refine lv_lstore_n hx hb d_Mod_nearest_1 rfl hl (by decide) rfl (fun ls hl => ?_)
  have hl : lv_has ls 9 [(2, .long 0), (0, .ref h_v), (1, .int x1)] := hl
  refine lv_iload_n hx hb d_Mod_nearest_2 rfl (lv_at hl 2 rfl) ?_
  obtain ⟨u_1, hu_1, hf⟩ := zz_bd hf
  refine zz_cl (ws' := [(h_v, .inr (7, [.ref h_v_text, .ref h_v_written, .int v_length, .int v_laid, .int v_gone, .int v_thrown, .int v_were, .int v_none, .int v_beyond, .ref h_v_a, .ref h_v_b, .ref h_v_five, .ref h_v_left, .ref h_v_right, .ref h_v_part, .int v_aMany, .int v_bMany, .int v_fiveMany, .int v_leftMany, .int v_rightMany, .int v_partMany, .int v_twos, .int v_at, .int v_digits, .int v_power, .int v_good])), (h_v_a, .inl (cI, n_v_a, .inl v_a_a)), (h_v_b, .inl (cI, n_v_b, .inl v_b_a)), (h_v_left, .inl (cI, n_v_left, .inl v_left_a)), (h_v_right, .inl (cI, n_v_right, .inl v_right_a))]) (wc := []) (w' := []) hP hD hS hA [] [0, 1, 2, 3, 4] [0, 1, 2, 3, 4] rfl rfl (by decide) (by decide) rfl (by decide) (va_runS (As := [.int x1]) (rest := []) ⟨hx, hb, hml, hown, hw⟩ (c_Mod_greatest l dC dI cI cC cB cJ _ x1 u_1 hu_1) (va_cwS 1 hw (zg_S wd_803 wd_804 wd_8 wd_805) rfl rfl rfl hd_Mod_greatest ⟨Nat.le_of_ble_eq_true rfl, Nat.le_of_ble_eq_true rfl⟩) (zz_preS zz_TE hP hD hK hS hA trivial [] rfl (by decide)) rfl rfl hl.1 rfl (lv_room (Nat.le_of_ble_eq_true rfl)) d_Mod_nearest_3 ⟨Nat.zero_le _, Nat.zero_le _⟩) (fun H locs hP hD hS => ?_)
  refine lv_lstore hx hb d_Mod_nearest_6 hl (by decide) rfl (fun ls hl => ?_)
  have hl : lv_has ls 9 [(4, .long u_1), (2, .long 0), (0, .ref h_v), (1, .int x1)] := hl
  refine lv_iconst (v := 0) hx hb d_Mod_nearest_8 (by decide) ?_
  refine lv_istore hx hb d_Mod_nearest_9 hl (by decide) rfl (fun ls hl => ?_)
  have hl : lv_has ls 9 [(6, .int 0), (4, .long u_1), (2, .long 0), (0, .ref h_v), (1, .int x1)] := hl
  exact hL_11 fu 0 u_1 0 v_leftMany v_rightMany v_left_a v_right_a ls _ _ (lv_sub hl [3, 4, 2, 1, 0] rfl) hP hD hS hf
