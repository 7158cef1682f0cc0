abbrev ws_Mat_max : List Cond := .code y_Mat_max prog_16_method_65_code 2 (some .int) :: zw
abbrev rm_Mat_max : Room := { frames := 0, cells := 0, slots := 0, locals := 0 }
theorem hd_Mat_max : y_Mat_max.cls ≠ "java/lang/invoke/MethodHandle" ∧ y_Mat_max.cls ≠ "java/lang/invoke/VarHandle" ∧ (parseMethodDescriptor y_Mat_max.desc).map (fun d => d.parameters.length) = some 2 := by decide +kernel
theorem d_Mat_max_0 : decode prog_16_method_65_code 0 = .ok (.iload_n 0, 1) := by decide +kernel
theorem d_Mat_max_1 : decode prog_16_method_65_code 1 = .ok (.iload_n 1, 1) := by decide +kernel
theorem d_Mat_max_2 : decode prog_16_method_65_code 2 = .ok (.if_icmp .lt 7, 3) := by decide +kernel
theorem d_Mat_max_5 : decode prog_16_method_65_code 5 = .ok (.iload_n 0, 1) := by decide +kernel
theorem d_Mat_max_6 : decode prog_16_method_65_code 6 = .ok (.goto 4, 3) := by decide +kernel
theorem d_Mat_max_9 : decode prog_16_method_65_code 9 = .ok (.iload_n 1, 1) := by decide +kernel
theorem d_Mat_max_10 : decode prog_16_method_65_code 10 = .ok (.ireturn, 1) := by decide +kernel
def f_Mat_max (x0 : Int32) (x1 : Int32) : Option (Int32) :=
  (if x0 < x1 then
  some (x1)
  else
  some (x0))
set_option maxHeartbeats 4000000 in
set_option maxRecDepth 100000 in
theorem c_Mat_max (l : Launch) (dC : Nat → ClassId) (dI : Nat → Nat → Nat) (cI cC cB cJ : ClassId) (sz : Nat) (x0 : Int32) (x1 : Int32) (u : Int32) (hf : f_Mat_max x0 x1 = some u) : Met l y_Mat_max ws_Mat_max rm_Mat_max (zz_P zz_T (dC, dI) vwCl (zz_tys cI cC cB cJ) [.int x0, .int x1] [] sz) (zz_Qi (dC, dI) vwCl u [] (va_A [] sz)) 0 0 (va_A [] sz) := by
  refine va_MetF (cc := prog_16_method_65_code) (maxL := 2) (ret := (some .int)) (by decide +kernel) rfl ?_
  intro p e s m args below meth c s₁ B hml hv
  obtain ⟨rfl, hsz, hP, hK, hD0, hX⟩ := hv
  have hx := B.exec
  have hb := B.bytes
  have hr := B.returns
  have hts := atoms_spec (ws := ws_Mat_max) B.pre
  have hw : ∀ w ∈ zw, w.before [.int x0, .int x1].toArray s = true := fun w h => hts w (List.mem_cons_of_mem _ h)
  have hown : s.vm.findClass R_Mat = some m.cls := findClass_of_methodNamed B.named
  have hlocks := B.notSynchronized
  subst hsz
  have hD := hD0.self (sz := s.heap.size)
  generalize hAe : va_A [] s.heap.size = A at hD hX ⊢
  have hA : ∀ q : Nat, s.heap.size ≤ q → A q := fun q h => by rw [← hAe]; exact Or.inr h
  have hS : va_S A s.heap s.heap [] := va_S.rf
  have hl := lv_entry [.int x0, .int x1] (n := 2) (Nat.le_of_ble_eq_true rfl)
  rw [lg_entry_eq]
  generalize (lg_sl [.int x0, .int x1] ++ List.replicate (2 - (lg_sl [.int x0, .int x1]).length) Slot.unset).toArray = ls at hl ⊢
  have hl : lv_has ls 2 [(0, .int x0), (1, .int x1)] := hl
  refine zz_endi hx hb hr hlocks (fun Qq hend => ?_)
  unfold f_Mat_max at hf
  refine lv_iload_n hx hb d_Mat_max_0 rfl (lv_at hl 0 rfl) ?_
  refine lv_iload_n hx hb d_Mat_max_1 rfl (lv_at hl 1 rfl) ?_
  refine lv_icmp_lt (tgt := 9) hx hb d_Mat_max_2 (by decide) (fun hc => ?_) (fun hc => ?_)
  · have hf := zz_ifp hc hf
    refine lv_iload_n hx hb d_Mat_max_9 rfl (lv_at hl 1 rfl) ?_
    cases hf
    exact hend 10 ls _ _ d_Mat_max_10 hP hD hS
  · have hf := zz_ifn hc hf
    refine lv_iload_n hx hb d_Mat_max_5 rfl (lv_at hl 0 rfl) ?_
    refine lv_goto (tgt := 10) hx hb d_Mat_max_6 (by decide) ?_
    cases hf
    exact hend 10 ls _ _ d_Mat_max_10 hP hD hS
abbrev ws_Mat_min : List Cond := .code y_Mat_min prog_16_method_69_code 2 (some .int) :: zw
abbrev rm_Mat_min : Room := { frames := 0, cells := 0, slots := 0, locals := 0 }
theorem hd_Mat_min : y_Mat_min.cls ≠ "java/lang/invoke/MethodHandle" ∧ y_Mat_min.cls ≠ "java/lang/invoke/VarHandle" ∧ (parseMethodDescriptor y_Mat_min.desc).map (fun d => d.parameters.length) = some 2 := by decide +kernel
theorem d_Mat_min_0 : decode prog_16_method_69_code 0 = .ok (.iload_n 0, 1) := by decide +kernel
theorem d_Mat_min_1 : decode prog_16_method_69_code 1 = .ok (.iload_n 1, 1) := by decide +kernel
theorem d_Mat_min_2 : decode prog_16_method_69_code 2 = .ok (.if_icmp .gt 7, 3) := by decide +kernel
theorem d_Mat_min_5 : decode prog_16_method_69_code 5 = .ok (.iload_n 0, 1) := by decide +kernel
theorem d_Mat_min_6 : decode prog_16_method_69_code 6 = .ok (.goto 4, 3) := by decide +kernel
theorem d_Mat_min_9 : decode prog_16_method_69_code 9 = .ok (.iload_n 1, 1) := by decide +kernel
theorem d_Mat_min_10 : decode prog_16_method_69_code 10 = .ok (.ireturn, 1) := by decide +kernel
def f_Mat_min (x0 : Int32) (x1 : Int32) : Option (Int32) :=
  (if x1 < x0 then
  some (x1)
  else
  some (x0))
set_option maxHeartbeats 4000000 in
set_option maxRecDepth 100000 in
theorem c_Mat_min (l : Launch) (dC : Nat → ClassId) (dI : Nat → Nat → Nat) (cI cC cB cJ : ClassId) (sz : Nat) (x0 : Int32) (x1 : Int32) (u : Int32) (hf : f_Mat_min x0 x1 = some u) : Met l y_Mat_min ws_Mat_min rm_Mat_min (zz_P zz_T (dC, dI) vwCl (zz_tys cI cC cB cJ) [.int x0, .int x1] [] sz) (zz_Qi (dC, dI) vwCl u [] (va_A [] sz)) 0 0 (va_A [] sz) := by
  refine va_MetF (cc := prog_16_method_69_code) (maxL := 2) (ret := (some .int)) (by decide +kernel) rfl ?_
  intro p e s m args below meth c s₁ B hml hv
  obtain ⟨rfl, hsz, hP, hK, hD0, hX⟩ := hv
  have hx := B.exec
  have hb := B.bytes
  have hr := B.returns
  have hts := atoms_spec (ws := ws_Mat_min) B.pre
  have hw : ∀ w ∈ zw, w.before [.int x0, .int x1].toArray s = true := fun w h => hts w (List.mem_cons_of_mem _ h)
  have hown : s.vm.findClass R_Mat = some m.cls := findClass_of_methodNamed B.named
  have hlocks := B.notSynchronized
  subst hsz
  have hD := hD0.self (sz := s.heap.size)
  generalize hAe : va_A [] s.heap.size = A at hD hX ⊢
  have hA : ∀ q : Nat, s.heap.size ≤ q → A q := fun q h => by rw [← hAe]; exact Or.inr h
  have hS : va_S A s.heap s.heap [] := va_S.rf
  have hl := lv_entry [.int x0, .int x1] (n := 2) (Nat.le_of_ble_eq_true rfl)
  rw [lg_entry_eq]
  generalize (lg_sl [.int x0, .int x1] ++ List.replicate (2 - (lg_sl [.int x0, .int x1]).length) Slot.unset).toArray = ls at hl ⊢
  have hl : lv_has ls 2 [(0, .int x0), (1, .int x1)] := hl
  refine zz_endi hx hb hr hlocks (fun Qq hend => ?_)
  unfold f_Mat_min at hf
  refine lv_iload_n hx hb d_Mat_min_0 rfl (lv_at hl 0 rfl) ?_
  refine lv_iload_n hx hb d_Mat_min_1 rfl (lv_at hl 1 rfl) ?_
  refine lv_icmp_gt (tgt := 9) hx hb d_Mat_min_2 (by decide) (fun hc => ?_) (fun hc => ?_)
  · have hf := zz_ifp hc hf
    refine lv_iload_n hx hb d_Mat_min_9 rfl (lv_at hl 1 rfl) ?_
    cases hf
    exact hend 10 ls _ _ d_Mat_min_10 hP hD hS
  · have hf := zz_ifn hc hf
    refine lv_iload_n hx hb d_Mat_min_5 rfl (lv_at hl 0 rfl) ?_
    refine lv_goto (tgt := 10) hx hb d_Mat_min_6 (by decide) ?_
    cases hf
    exact hend 10 ls _ _ d_Mat_min_10 hP hD hS
abbrev ws_Mat_abs : List Cond := .code y_Mat_abs prog_16_method_59_code 1 (some .int) :: zw
abbrev rm_Mat_abs : Room := { frames := 0, cells := 0, slots := 0, locals := 0 }
theorem hd_Mat_abs : y_Mat_abs.cls ≠ "java/lang/invoke/MethodHandle" ∧ y_Mat_abs.cls ≠ "java/lang/invoke/VarHandle" ∧ (parseMethodDescriptor y_Mat_abs.desc).map (fun d => d.parameters.length) = some 1 := by decide +kernel
theorem d_Mat_abs_0 : decode prog_16_method_59_code 0 = .ok (.iload_n 0, 1) := by decide +kernel
theorem d_Mat_abs_1 : decode prog_16_method_59_code 1 = .ok (.ifCond .ge 8, 3) := by decide +kernel
theorem d_Mat_abs_4 : decode prog_16_method_59_code 4 = .ok (.iload_n 0, 1) := by decide +kernel
theorem d_Mat_abs_5 : decode prog_16_method_59_code 5 = .ok (.ineg, 1) := by decide +kernel
theorem d_Mat_abs_6 : decode prog_16_method_59_code 6 = .ok (.goto 4, 3) := by decide +kernel
theorem d_Mat_abs_9 : decode prog_16_method_59_code 9 = .ok (.iload_n 0, 1) := by decide +kernel
theorem d_Mat_abs_10 : decode prog_16_method_59_code 10 = .ok (.ireturn, 1) := by decide +kernel
def f_Mat_abs (x0 : Int32) : Option (Int32) :=
  (if 0 ≤ x0 then
  some (x0)
  else
  some (-x0))
set_option maxHeartbeats 4000000 in
set_option maxRecDepth 100000 in
theorem c_Mat_abs (l : Launch) (dC : Nat → ClassId) (dI : Nat → Nat → Nat) (cI cC cB cJ : ClassId) (sz : Nat) (x0 : Int32) (u : Int32) (hf : f_Mat_abs x0 = some u) : Met l y_Mat_abs ws_Mat_abs rm_Mat_abs (zz_P zz_T (dC, dI) vwCl (zz_tys cI cC cB cJ) [.int x0] [] sz) (zz_Qi (dC, dI) vwCl u [] (va_A [] sz)) 0 0 (va_A [] sz) := by
  refine va_MetF (cc := prog_16_method_59_code) (maxL := 1) (ret := (some .int)) (by decide +kernel) rfl ?_
  intro p e s m args below meth c s₁ B hml hv
  obtain ⟨rfl, hsz, hP, hK, hD0, hX⟩ := hv
  have hx := B.exec
  have hb := B.bytes
  have hr := B.returns
  have hts := atoms_spec (ws := ws_Mat_abs) B.pre
  have hw : ∀ w ∈ zw, w.before [.int x0].toArray s = true := fun w h => hts w (List.mem_cons_of_mem _ h)
  have hown : s.vm.findClass R_Mat = some m.cls := findClass_of_methodNamed B.named
  have hlocks := B.notSynchronized
  subst hsz
  have hD := hD0.self (sz := s.heap.size)
  generalize hAe : va_A [] s.heap.size = A at hD hX ⊢
  have hA : ∀ q : Nat, s.heap.size ≤ q → A q := fun q h => by rw [← hAe]; exact Or.inr h
  have hS : va_S A s.heap s.heap [] := va_S.rf
  have hl := lv_entry [.int x0] (n := 1) (Nat.le_of_ble_eq_true rfl)
  rw [lg_entry_eq]
  generalize (lg_sl [.int x0] ++ List.replicate (1 - (lg_sl [.int x0]).length) Slot.unset).toArray = ls at hl ⊢
  have hl : lv_has ls 1 [(0, .int x0)] := hl
  refine zz_endi hx hb hr hlocks (fun Qq hend => ?_)
  unfold f_Mat_abs at hf
  refine lv_iload_n hx hb d_Mat_abs_0 rfl (lv_at hl 0 rfl) ?_
  refine lv_if_ge (tgt := 9) hx hb d_Mat_abs_1 (by decide) (fun hc => ?_) (fun hc => ?_)
  · have hf := zz_ifp hc hf
    refine lv_iload_n hx hb d_Mat_abs_9 rfl (lv_at hl 0 rfl) ?_
    cases hf
    exact hend 10 ls _ _ d_Mat_abs_10 hP hD hS
  · have hf := zz_ifn hc hf
    refine lv_iload_n hx hb d_Mat_abs_4 rfl (lv_at hl 0 rfl) ?_
    refine lv_ineg hx hb d_Mat_abs_5 ?_
    refine lv_goto (tgt := 10) hx hb d_Mat_abs_6 (by decide) ?_
    cases hf
    exact hend 10 ls _ _ d_Mat_abs_10 hP hD hS
abbrev ws_Mat_floorDiv : List Cond := .code y_Mat_floorDiv prog_16_method_47_code 3 (some .int) :: zw
abbrev rm_Mat_floorDiv : Room := { frames := 0, cells := 0, slots := 0, locals := 0 }
theorem hd_Mat_floorDiv : y_Mat_floorDiv.cls ≠ "java/lang/invoke/MethodHandle" ∧ y_Mat_floorDiv.cls ≠ "java/lang/invoke/VarHandle" ∧ (parseMethodDescriptor y_Mat_floorDiv.desc).map (fun d => d.parameters.length) = some 2 := by decide +kernel
theorem d_Mat_floorDiv_0 : decode prog_16_method_47_code 0 = .ok (.iload_n 0, 1) := by decide +kernel
theorem d_Mat_floorDiv_1 : decode prog_16_method_47_code 1 = .ok (.iload_n 1, 1) := by decide +kernel
theorem d_Mat_floorDiv_2 : decode prog_16_method_47_code 2 = .ok (.idiv, 1) := by decide +kernel
theorem d_Mat_floorDiv_3 : decode prog_16_method_47_code 3 = .ok (.istore_n 2, 1) := by decide +kernel
theorem d_Mat_floorDiv_4 : decode prog_16_method_47_code 4 = .ok (.iload_n 0, 1) := by decide +kernel
theorem d_Mat_floorDiv_5 : decode prog_16_method_47_code 5 = .ok (.iload_n 1, 1) := by decide +kernel
theorem d_Mat_floorDiv_6 : decode prog_16_method_47_code 6 = .ok (.ixor, 1) := by decide +kernel
theorem d_Mat_floorDiv_7 : decode prog_16_method_47_code 7 = .ok (.ifCond .ge 14, 3) := by decide +kernel
theorem d_Mat_floorDiv_10 : decode prog_16_method_47_code 10 = .ok (.iload_n 2, 1) := by decide +kernel
theorem d_Mat_floorDiv_11 : decode prog_16_method_47_code 11 = .ok (.iload_n 1, 1) := by decide +kernel
theorem d_Mat_floorDiv_12 : decode prog_16_method_47_code 12 = .ok (.imul, 1) := by decide +kernel
theorem d_Mat_floorDiv_13 : decode prog_16_method_47_code 13 = .ok (.iload_n 0, 1) := by decide +kernel
theorem d_Mat_floorDiv_14 : decode prog_16_method_47_code 14 = .ok (.if_icmp .eq 7, 3) := by decide +kernel
theorem d_Mat_floorDiv_17 : decode prog_16_method_47_code 17 = .ok (.iload_n 2, 1) := by decide +kernel
theorem d_Mat_floorDiv_18 : decode prog_16_method_47_code 18 = .ok (.iconst 1, 1) := by decide +kernel
theorem d_Mat_floorDiv_19 : decode prog_16_method_47_code 19 = .ok (.isub, 1) := by decide +kernel
theorem d_Mat_floorDiv_20 : decode prog_16_method_47_code 20 = .ok (.ireturn, 1) := by decide +kernel
theorem d_Mat_floorDiv_21 : decode prog_16_method_47_code 21 = .ok (.iload_n 2, 1) := by decide +kernel
theorem d_Mat_floorDiv_22 : decode prog_16_method_47_code 22 = .ok (.ireturn, 1) := by decide +kernel
def f_Mat_floorDiv (x0 : Int32) (x1 : Int32) : Option (Int32) :=
  if ¬ x1 = 0 then
  zz_lt (x0 / x1) fun x2_2 =>
  (if 0 ≤ (x0 ^^^ x1) then
  some (x2_2)
  else
  (if (x2_2 * x1) = x0 then
  some (x2_2)
  else
  some (x2_2 - 1)))
  else none
set_option maxHeartbeats 4000000 in
set_option maxRecDepth 100000 in
theorem c_Mat_floorDiv (l : Launch) (dC : Nat → ClassId) (dI : Nat → Nat → Nat) (cI cC cB cJ : ClassId) (sz : Nat) (x0 : Int32) (x1 : Int32) (u : Int32) (hf : f_Mat_floorDiv x0 x1 = some u) : Met l y_Mat_floorDiv ws_Mat_floorDiv rm_Mat_floorDiv (zz_P zz_T (dC, dI) vwCl (zz_tys cI cC cB cJ) [.int x0, .int x1] [] sz) (zz_Qi (dC, dI) vwCl u [] (va_A [] sz)) 0 0 (va_A [] sz) := by
  refine va_MetF (cc := prog_16_method_47_code) (maxL := 3) (ret := (some .int)) (by decide +kernel) rfl ?_
  intro p e s m args below meth c s₁ B hml hv
  obtain ⟨rfl, hsz, hP, hK, hD0, hX⟩ := hv
  have hx := B.exec
  have hb := B.bytes
  have hr := B.returns
  have hts := atoms_spec (ws := ws_Mat_floorDiv) B.pre
  have hw : ∀ w ∈ zw, w.before [.int x0, .int x1].toArray s = true := fun w h => hts w (List.mem_cons_of_mem _ h)
  have hown : s.vm.findClass R_Mat = some m.cls := findClass_of_methodNamed B.named
  have hlocks := B.notSynchronized
  subst hsz
  have hD := hD0.self (sz := s.heap.size)
  generalize hAe : va_A [] s.heap.size = A at hD hX ⊢
  have hA : ∀ q : Nat, s.heap.size ≤ q → A q := fun q h => by rw [← hAe]; exact Or.inr h
  have hS : va_S A s.heap s.heap [] := va_S.rf
  have hl := lv_entry [.int x0, .int x1] (n := 3) (Nat.le_of_ble_eq_true rfl)
  rw [lg_entry_eq]
  generalize (lg_sl [.int x0, .int x1] ++ List.replicate (3 - (lg_sl [.int x0, .int x1]).length) Slot.unset).toArray = ls at hl ⊢
  have hl : lv_has ls 3 [(0, .int x0), (1, .int x1)] := hl
  refine zz_endi hx hb hr hlocks (fun Qq hend => ?_)
  unfold f_Mat_floorDiv at hf
  refine lv_iload_n hx hb d_Mat_floorDiv_0 rfl (lv_at hl 0 rfl) ?_
  refine lv_iload_n hx hb d_Mat_floorDiv_1 rfl (lv_at hl 1 rfl) ?_
  obtain ⟨hz_1, hf⟩ := zz_gd hf
  refine lv_idiv hx hb d_Mat_floorDiv_2 hz_1 ?_
  refine lv_topi (fun x2_2 e_x2_2 => ?_)
  have hf := zz_ltp hf x2_2 e_x2_2
  refine lv_istore_n hx hb d_Mat_floorDiv_3 rfl hl (by decide) rfl (fun ls hl => ?_)
  have hl : lv_has ls 3 [(2, .int x2_2), (0, .int x0), (1, .int x1)] := hl
  refine lv_iload_n hx hb d_Mat_floorDiv_4 rfl (lv_at hl 1 rfl) ?_
  refine lv_iload_n hx hb d_Mat_floorDiv_5 rfl (lv_at hl 2 rfl) ?_
  refine lv_ixor hx hb d_Mat_floorDiv_6 ?_
  refine lv_if_ge (tgt := 21) hx hb d_Mat_floorDiv_7 (by decide) (fun hc => ?_) (fun hc => ?_)
  · have hf := zz_ifp hc hf
    refine lv_iload_n hx hb d_Mat_floorDiv_21 rfl (lv_at hl 0 rfl) ?_
    cases hf
    exact hend 22 ls _ _ d_Mat_floorDiv_22 hP hD hS
  · have hf := zz_ifn hc hf
    refine lv_iload_n hx hb d_Mat_floorDiv_10 rfl (lv_at hl 0 rfl) ?_
    refine lv_iload_n hx hb d_Mat_floorDiv_11 rfl (lv_at hl 2 rfl) ?_
    refine lv_imul hx hb d_Mat_floorDiv_12 ?_
    refine lv_iload_n hx hb d_Mat_floorDiv_13 rfl (lv_at hl 1 rfl) ?_
    refine lv_icmp_eq (tgt := 21) hx hb d_Mat_floorDiv_14 (by decide) (fun hc => ?_) (fun hc => ?_)
    · have hf := zz_ifp hc hf
      refine lv_iload_n hx hb d_Mat_floorDiv_21 rfl (lv_at hl 0 rfl) ?_
      cases hf
      exact hend 22 ls _ _ d_Mat_floorDiv_22 hP hD hS
    · have hf := zz_ifn hc hf
      refine lv_iload_n hx hb d_Mat_floorDiv_17 rfl (lv_at hl 0 rfl) ?_
      refine lv_iconst (v := 1) hx hb d_Mat_floorDiv_18 (by decide) ?_
      refine lv_isub hx hb d_Mat_floorDiv_19 ?_
      cases hf
      exact hend 20 ls _ _ d_Mat_floorDiv_20 hP hD hS
