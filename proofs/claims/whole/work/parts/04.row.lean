abbrev ws_Row_length : List Cond := .code y_Row_length prog_7_method_2_code 1 (some .int) :: zw
abbrev rm_Row_length : Room := { frames := 0, cells := 0, slots := 0, locals := 0 }
theorem hd_Row_length : y_Row_length.cls = "RealText$Row" ∧ y_Row_length.cls ≠ "java/lang/invoke/MethodHandle" ∧ y_Row_length.cls ≠ "java/lang/invoke/VarHandle" ∧ (parseMethodDescriptor y_Row_length.desc).map (fun d => d.parameters.length) = some 0 := by decide +kernel
theorem d_Row_length_0 : decode prog_7_method_2_code 0 = .ok (.aload_n 0, 1) := by decide +kernel
theorem d_Row_length_1 : decode prog_7_method_2_code 1 = .ok (.getfield 13, 3) := by decide +kernel
theorem d_Row_length_4 : decode prog_7_method_2_code 4 = .ok (.aload_n 0, 1) := by decide +kernel
theorem d_Row_length_5 : decode prog_7_method_2_code 5 = .ok (.getfield 17, 3) := by decide +kernel
theorem d_Row_length_8 : decode prog_7_method_2_code 8 = .ok (.isub, 1) := by decide +kernel
theorem d_Row_length_9 : decode prog_7_method_2_code 9 = .ok (.ireturn, 1) := by decide +kernel
def f_Row_length (v_start : Int32) (v_end : Int32) : Option (Int32) :=
  some (v_end - v_start)
set_option maxHeartbeats 4000000 in
set_option maxRecDepth 100000 in
theorem c_Row_length (l : Launch) (dC : Nat → ClassId) (dI : Nat → Nat → Nat) (cI cC cB cJ : ClassId) (sz : Nat) (h_v : Nat) (h_v_letters : Nat) (v_start : Int32) (v_end : Int32) (u : Int32) (hf : f_Row_length v_start v_end = some u) : Met l y_Row_length ws_Row_length rm_Row_length (zz_P zz_T (dC, dI) vwCl (zz_tys cI cC cB cJ) [.ref h_v] [(h_v, .inr (4, [.ref h_v_letters, .int v_start, .int v_end]))] sz) (zz_Qi (dC, dI) vwCl u [(h_v, .inr (4, [.ref h_v_letters, .int v_start, .int v_end]))] (va_A [(h_v, .inr (4, [.ref h_v_letters, .int v_start, .int v_end]))] sz)) 0 0 (va_A [(h_v, .inr (4, [.ref h_v_letters, .int v_start, .int v_end]))] sz) := by
  refine Met.ofW (cc := prog_7_method_2_code) (maxL := 1) (ret := (some .int)) (by decide +kernel) rfl ?_
  intro p e s m args below meth c s₁ B hml hv
  obtain ⟨rfl, hsz, hP, hK, hD0, hX⟩ := hv
  have hx := B.exec
  have hb := B.bytes
  have hr := B.returns
  have hts := atoms_spec (ws := ws_Row_length) B.pre
  have hw : ∀ w ∈ zw, w.before [.ref h_v].toArray s = true := fun w h => hts w (List.mem_cons_of_mem _ h)
  have hown : s.vm.findClass R_Row = some m.cls := findClass_of_methodNamed B.named
  have hlocks := B.notSynchronized
  subst hsz
  have hD := hD0.self (sz := s.heap.size)
  generalize hAe : va_A [(h_v, .inr (4, [.ref h_v_letters, .int v_start, .int v_end]))] s.heap.size = A at hD hX ⊢
  have hA : ∀ q : Nat, s.heap.size ≤ q → A q := fun q h => by rw [← hAe]; exact Or.inr h
  have hS : va_S A s.heap s.heap [] := va_S.rf
  have hl := lv_entry [.ref h_v] (n := 1) (Nat.le_of_ble_eq_true rfl)
  rw [lg_entry_eq]
  generalize (lg_sl [.ref h_v] ++ List.replicate (1 - (lg_sl [.ref h_v]).length) Slot.unset).toArray = ls at hl ⊢
  have hl : lv_has ls 1 [(0, .ref h_v)] := hl
  refine zz_endi hx hb hr hlocks (fun Qq hend => ?_)
  unfold f_Row_length at hf
  refine lv_aload_n hx hb d_Row_length_0 rfl (lv_at hl 0 rfl) ?_
  refine va_get (D := (dC, dI)) (ci := 4) (v := .int v_end) (C := R_Row) (T := T_Row) (N := 3) hx hb hw in_Row hown hK hP 0 rfl rfl 2 (by decide) (hw _ wd_39) (fun _ h9 => h9) rfl d_Row_length_1 ?_
  refine lv_aload_n hx hb d_Row_length_4 rfl (lv_at hl 0 rfl) ?_
  refine va_get (D := (dC, dI)) (ci := 4) (v := .int v_start) (C := R_Row) (T := T_Row) (N := 3) hx hb hw in_Row hown hK hP 0 rfl rfl 1 (by decide) (hw _ wd_38) (fun _ h9 => h9) rfl d_Row_length_5 ?_
  refine lv_isub hx hb d_Row_length_8 ?_
  cases hf
  exact hend 9 ls _ _ d_Row_length_9 hP hD hS
abbrev ws_Row_at : List Cond := .code y_Row_at prog_7_method_3_code 2 (some .char) :: zw
abbrev rm_Row_at : Room := { frames := 0, cells := 0, slots := 0, locals := 0 }
theorem hd_Row_at : y_Row_at.cls = "RealText$Row" ∧ y_Row_at.cls ≠ "java/lang/invoke/MethodHandle" ∧ y_Row_at.cls ≠ "java/lang/invoke/VarHandle" ∧ (parseMethodDescriptor y_Row_at.desc).map (fun d => d.parameters.length) = some 1 := by decide +kernel
theorem d_Row_at_0 : decode prog_7_method_3_code 0 = .ok (.iload_n 1, 1) := by decide +kernel
theorem d_Row_at_1 : decode prog_7_method_3_code 1 = .ok (.ifCond .lt 30, 3) := by decide +kernel
theorem d_Row_at_4 : decode prog_7_method_3_code 4 = .ok (.iload_n 1, 1) := by decide +kernel
theorem d_Row_at_5 : decode prog_7_method_3_code 5 = .ok (.aload_n 0, 1) := by decide +kernel
theorem d_Row_at_6 : decode prog_7_method_3_code 6 = .ok (.getfield 13, 3) := by decide +kernel
theorem d_Row_at_9 : decode prog_7_method_3_code 9 = .ok (.aload_n 0, 1) := by decide +kernel
theorem d_Row_at_10 : decode prog_7_method_3_code 10 = .ok (.getfield 17, 3) := by decide +kernel
theorem d_Row_at_13 : decode prog_7_method_3_code 13 = .ok (.isub, 1) := by decide +kernel
theorem d_Row_at_14 : decode prog_7_method_3_code 14 = .ok (.if_icmp .ge 17, 3) := by decide +kernel
theorem d_Row_at_17 : decode prog_7_method_3_code 17 = .ok (.aload_n 0, 1) := by decide +kernel
theorem d_Row_at_18 : decode prog_7_method_3_code 18 = .ok (.getfield 7, 3) := by decide +kernel
theorem d_Row_at_21 : decode prog_7_method_3_code 21 = .ok (.aload_n 0, 1) := by decide +kernel
theorem d_Row_at_22 : decode prog_7_method_3_code 22 = .ok (.getfield 17, 3) := by decide +kernel
theorem d_Row_at_25 : decode prog_7_method_3_code 25 = .ok (.iload_n 1, 1) := by decide +kernel
theorem d_Row_at_26 : decode prog_7_method_3_code 26 = .ok (.iadd, 1) := by decide +kernel
theorem d_Row_at_27 : decode prog_7_method_3_code 27 = .ok (.caload, 1) := by decide +kernel
theorem d_Row_at_28 : decode prog_7_method_3_code 28 = .ok (.goto 4, 3) := by decide +kernel
theorem d_Row_at_31 : decode prog_7_method_3_code 31 = .ok (.iconst 0, 1) := by decide +kernel
theorem d_Row_at_32 : decode prog_7_method_3_code 32 = .ok (.ireturn, 1) := by decide +kernel
def f_Row_at (n_v_letters : Nat) (x1 : Int32) (v_start : Int32) (v_end : Int32) (v_letters_a : Nat → Int32) : Option (Int32) :=
  (if x1 < 0 then
  some (0)
  else
  (if (v_end - v_start) ≤ x1 then
  some (0)
  else
  if zz_in (v_start + x1) n_v_letters = true then
  if zz_ch (v_letters_a (v_start + x1).toNatClampNeg) = true then
  some (v_letters_a (v_start + x1).toNatClampNeg)
  else none
  else none))
set_option maxHeartbeats 4000000 in
set_option maxRecDepth 100000 in
theorem c_Row_at (l : Launch) (dC : Nat → ClassId) (dI : Nat → Nat → Nat) (cI cC cB cJ : ClassId) (sz : Nat) (h_v : Nat) (h_v_letters : Nat) (n_v_letters : Nat) (x1 : Int32) (v_start : Int32) (v_end : Int32) (v_letters_a : Nat → Int32) (u : Int32) (hf : f_Row_at n_v_letters x1 v_start v_end v_letters_a = some u) : Met l y_Row_at ws_Row_at rm_Row_at (zz_P zz_T (dC, dI) vwCl (zz_tys cI cC cB cJ) [.ref h_v, .int x1] [(h_v, .inr (4, [.ref h_v_letters, .int v_start, .int v_end])), (h_v_letters, .inl (cC, n_v_letters, .inl v_letters_a))] sz) (zz_Qi (dC, dI) vwCl u [(h_v, .inr (4, [.ref h_v_letters, .int v_start, .int v_end])), (h_v_letters, .inl (cC, n_v_letters, .inl v_letters_a))] (va_A [(h_v, .inr (4, [.ref h_v_letters, .int v_start, .int v_end])), (h_v_letters, .inl (cC, n_v_letters, .inl v_letters_a))] sz)) 0 0 (va_A [(h_v, .inr (4, [.ref h_v_letters, .int v_start, .int v_end])), (h_v_letters, .inl (cC, n_v_letters, .inl v_letters_a))] sz) := by
  refine Met.ofW (cc := prog_7_method_3_code) (maxL := 2) (ret := (some .char)) (by decide +kernel) rfl ?_
  intro p e s m args below meth c s₁ B hml hv
  obtain ⟨rfl, hsz, hP, hK, hD0, hX⟩ := hv
  have hx := B.exec
  have hb := B.bytes
  have hr := B.returns
  have hts := atoms_spec (ws := ws_Row_at) B.pre
  have hw : ∀ w ∈ zw, w.before [.ref h_v, .int x1].toArray s = true := fun w h => hts w (List.mem_cons_of_mem _ h)
  have hown : s.vm.findClass R_Row = some m.cls := findClass_of_methodNamed B.named
  have hlocks := B.notSynchronized
  subst hsz
  have hD := hD0.self (sz := s.heap.size)
  generalize hAe : va_A [(h_v, .inr (4, [.ref h_v_letters, .int v_start, .int v_end])), (h_v_letters, .inl (cC, n_v_letters, .inl v_letters_a))] s.heap.size = A at hD hX ⊢
  have hA : ∀ q : Nat, s.heap.size ≤ q → A q := fun q h => by rw [← hAe]; exact Or.inr h
  have hS : va_S A s.heap s.heap [] := va_S.rf
  have hl := lv_entry [.ref h_v, .int x1] (n := 2) (Nat.le_of_ble_eq_true rfl)
  rw [lg_entry_eq]
  generalize (lg_sl [.ref h_v, .int x1] ++ List.replicate (2 - (lg_sl [.ref h_v, .int x1]).length) Slot.unset).toArray = ls at hl ⊢
  have hl : lv_has ls 2 [(0, .ref h_v), (1, .int x1)] := hl
  refine zz_endz hx hb hr hlocks (fun Qq hend => ?_)
  unfold f_Row_at at hf
  refine lv_iload_n hx hb d_Row_at_0 rfl (lv_at hl 1 rfl) ?_
  refine lv_if_lt (tgt := 31) hx hb d_Row_at_1 (by decide) (fun hc => ?_) (fun hc => ?_)
  · have hf := zz_ifp hc hf
    refine lv_iconst (v := 0) hx hb d_Row_at_31 (by decide) ?_
    cases hf
    exact hend 32 ls _ _ zz_nc0 d_Row_at_32 hP hD hS
  · have hf := zz_ifn hc hf
    refine lv_iload_n hx hb d_Row_at_4 rfl (lv_at hl 1 rfl) ?_
    refine lv_aload_n hx hb d_Row_at_5 rfl (lv_at hl 0 rfl) ?_
    refine va_get (D := (dC, dI)) (ci := 4) (v := .int v_end) (C := R_Row) (T := T_Row) (N := 3) hx hb hw in_Row hown hK hP 0 rfl rfl 2 (by decide) (hw _ wd_39) (fun _ h9 => h9) rfl d_Row_at_6 ?_
    refine lv_aload_n hx hb d_Row_at_9 rfl (lv_at hl 0 rfl) ?_
    refine va_get (D := (dC, dI)) (ci := 4) (v := .int v_start) (C := R_Row) (T := T_Row) (N := 3) hx hb hw in_Row hown hK hP 0 rfl rfl 1 (by decide) (hw _ wd_38) (fun _ h9 => h9) rfl d_Row_at_10 ?_
    refine lv_isub hx hb d_Row_at_13 ?_
    refine lv_icmp_ge (tgt := 31) hx hb d_Row_at_14 (by decide) (fun hc => ?_) (fun hc => ?_)
    · have hf := zz_ifp hc hf
      refine lv_iconst (v := 0) hx hb d_Row_at_31 (by decide) ?_
      cases hf
      exact hend 32 ls _ _ zz_nc0 d_Row_at_32 hP hD hS
    · have hf := zz_ifn hc hf
      refine lv_aload_n hx hb d_Row_at_17 rfl (lv_at hl 0 rfl) ?_
      refine va_get (D := (dC, dI)) (ci := 4) (v := .ref h_v_letters) (C := R_Row) (T := T_Row) (N := 3) hx hb hw in_Row hown hK hP 0 rfl rfl 0 (by decide) (hw _ wd_37) (fun _ h9 => h9) rfl d_Row_at_18 ?_
      refine lv_aload_n hx hb d_Row_at_21 rfl (lv_at hl 0 rfl) ?_
      refine va_get (D := (dC, dI)) (ci := 4) (v := .int v_start) (C := R_Row) (T := T_Row) (N := 3) hx hb hw in_Row hown hK hP 0 rfl rfl 1 (by decide) (hw _ wd_38) (fun _ h9 => h9) rfl d_Row_at_22 ?_
      refine lv_iload_n hx hb d_Row_at_25 rfl (lv_at hl 1 rfl) ?_
      refine lv_iadd hx hb d_Row_at_26 ?_
      obtain ⟨hb_1, hf⟩ := zz_gd hf
      refine va_cald hx hb hK hP 1 1 rfl rfl (zz_vp hb_1) d_Row_at_27 ?_
      refine lv_goto (tgt := 32) hx hb d_Row_at_28 (by decide) ?_
      obtain ⟨hn, hf⟩ := zz_gd hf
      cases hf
      exact hend 32 ls _ _ (zz_nar_char hn) d_Row_at_32 hP hD hS
abbrev ws_Row_put : List Cond := .code y_Row_put prog_7_method_4_code 2 none :: zw
abbrev rm_Row_put : Room := { frames := 0, cells := 0, slots := 0, locals := 0 }
theorem hd_Row_put : y_Row_put.cls = "RealText$Row" ∧ y_Row_put.cls ≠ "java/lang/invoke/MethodHandle" ∧ y_Row_put.cls ≠ "java/lang/invoke/VarHandle" ∧ (parseMethodDescriptor y_Row_put.desc).map (fun d => d.parameters.length) = some 1 := by decide +kernel
theorem d_Row_put_0 : decode prog_7_method_4_code 0 = .ok (.aload_n 0, 1) := by decide +kernel
theorem d_Row_put_1 : decode prog_7_method_4_code 1 = .ok (.getfield 13, 3) := by decide +kernel
theorem d_Row_put_4 : decode prog_7_method_4_code 4 = .ok (.aload_n 0, 1) := by decide +kernel
theorem d_Row_put_5 : decode prog_7_method_4_code 5 = .ok (.getfield 7, 3) := by decide +kernel
theorem d_Row_put_8 : decode prog_7_method_4_code 8 = .ok (.arraylength, 1) := by decide +kernel
theorem d_Row_put_9 : decode prog_7_method_4_code 9 = .ok (.if_icmp .ge 23, 3) := by decide +kernel
theorem d_Row_put_12 : decode prog_7_method_4_code 12 = .ok (.aload_n 0, 1) := by decide +kernel
theorem d_Row_put_13 : decode prog_7_method_4_code 13 = .ok (.getfield 7, 3) := by decide +kernel
theorem d_Row_put_16 : decode prog_7_method_4_code 16 = .ok (.aload_n 0, 1) := by decide +kernel
theorem d_Row_put_17 : decode prog_7_method_4_code 17 = .ok (.getfield 13, 3) := by decide +kernel
theorem d_Row_put_20 : decode prog_7_method_4_code 20 = .ok (.iload_n 1, 1) := by decide +kernel
theorem d_Row_put_21 : decode prog_7_method_4_code 21 = .ok (.castore, 1) := by decide +kernel
theorem d_Row_put_22 : decode prog_7_method_4_code 22 = .ok (.aload_n 0, 1) := by decide +kernel
theorem d_Row_put_23 : decode prog_7_method_4_code 23 = .ok (.dup, 1) := by decide +kernel
theorem d_Row_put_24 : decode prog_7_method_4_code 24 = .ok (.getfield 13, 3) := by decide +kernel
theorem d_Row_put_27 : decode prog_7_method_4_code 27 = .ok (.iconst 1, 1) := by decide +kernel
theorem d_Row_put_28 : decode prog_7_method_4_code 28 = .ok (.iadd, 1) := by decide +kernel
theorem d_Row_put_29 : decode prog_7_method_4_code 29 = .ok (.putfield 13, 3) := by decide +kernel
theorem d_Row_put_32 : decode prog_7_method_4_code 32 = .ok (.return_, 1) := by decide +kernel
def f_Row_put (n_v_letters : Nat) (x1 : Int32) (v_end : Int32) (v_letters_a : Nat → Int32) : Option (Int32 × (Nat → Int32)) :=
  (if (nI n_v_letters) ≤ v_end then
  some (v_end, v_letters_a)
  else
  if zz_in v_end n_v_letters = true then
  some (v_end + 1, upd v_letters_a v_end.toNatClampNeg (vp_nar .char x1))
  else none)
set_option maxHeartbeats 4000000 in
set_option maxRecDepth 100000 in
theorem c_Row_put (l : Launch) (dC : Nat → ClassId) (dI : Nat → Nat → Nat) (cI cC cB cJ : ClassId) (sz : Nat) (h_v : Nat) (h_v_letters : Nat) (n_v_letters : Nat) (x1 : Int32) (v_start : Int32) (v_end : Int32) (v_letters_a : Nat → Int32) (u : Int32 × (Nat → Int32)) (hf : f_Row_put n_v_letters x1 v_end v_letters_a = some u) : Met l y_Row_put ws_Row_put rm_Row_put (zz_P zz_T (dC, dI) vwCl (zz_tys cI cC cB cJ) [.ref h_v, .int x1] [(h_v, .inr (4, [.ref h_v_letters, .int v_start, .int v_end])), (h_v_letters, .inl (cC, n_v_letters, .inl v_letters_a))] sz) (zz_Qv (dC, dI) vwCl [(h_v, .inr (4, [.ref h_v_letters, .int v_start, .int u.1])), (h_v_letters, .inl (cC, n_v_letters, .inl u.2))] (va_A [(h_v, .inr (4, [.ref h_v_letters, .int v_start, .int v_end])), (h_v_letters, .inl (cC, n_v_letters, .inl v_letters_a))] sz)) 0 0 (va_A [(h_v, .inr (4, [.ref h_v_letters, .int v_start, .int v_end])), (h_v_letters, .inl (cC, n_v_letters, .inl v_letters_a))] sz) := by
  refine Met.ofW (cc := prog_7_method_4_code) (maxL := 2) (ret := none) (by decide +kernel) rfl ?_
  intro p e s m args below meth c s₁ B hml hv
  obtain ⟨rfl, hsz, hP, hK, hD0, hX⟩ := hv
  have hx := B.exec
  have hb := B.bytes
  have hr := B.returns
  have hts := atoms_spec (ws := ws_Row_put) B.pre
  have hw : ∀ w ∈ zw, w.before [.ref h_v, .int x1].toArray s = true := fun w h => hts w (List.mem_cons_of_mem _ h)
  have hown : s.vm.findClass R_Row = some m.cls := findClass_of_methodNamed B.named
  have hlocks := B.notSynchronized
  subst hsz
  have hD := hD0.self (sz := s.heap.size)
  generalize hAe : va_A [(h_v, .inr (4, [.ref h_v_letters, .int v_start, .int v_end])), (h_v_letters, .inl (cC, n_v_letters, .inl v_letters_a))] s.heap.size = A at hD hX ⊢
  have hA : ∀ q : Nat, s.heap.size ≤ q → A q := fun q h => by rw [← hAe]; exact Or.inr h
  have hS : va_S A s.heap s.heap [] := va_S.rf
  have hl := lv_entry [.ref h_v, .int x1] (n := 2) (Nat.le_of_ble_eq_true rfl)
  rw [lg_entry_eq]
  generalize (lg_sl [.ref h_v, .int x1] ++ List.replicate (2 - (lg_sl [.ref h_v, .int x1]).length) Slot.unset).toArray = ls at hl ⊢
  have hl : lv_has ls 2 [(0, .ref h_v), (1, .int x1)] := hl
  refine zz_endv hx hb hr hlocks (fun Qq hend => ?_)
  unfold f_Row_put at hf
  refine lv_aload_n hx hb d_Row_put_0 rfl (lv_at hl 0 rfl) ?_
  refine va_get (D := (dC, dI)) (ci := 4) (v := .int v_end) (C := R_Row) (T := T_Row) (N := 3) hx hb hw in_Row hown hK hP 0 rfl rfl 2 (by decide) (hw _ wd_39) (fun _ h9 => h9) rfl d_Row_put_1 ?_
  refine lv_aload_n hx hb d_Row_put_4 rfl (lv_at hl 0 rfl) ?_
  refine va_get (D := (dC, dI)) (ci := 4) (v := .ref h_v_letters) (C := R_Row) (T := T_Row) (N := 3) hx hb hw in_Row hown hK hP 0 rfl rfl 0 (by decide) (hw _ wd_37) (fun _ h9 => h9) rfl d_Row_put_5 ?_
  refine va_alen (v := nI n_v_letters) hx hb hK hP 1 1 rfl rfl rfl d_Row_put_8 ?_
  refine lv_icmp_ge (tgt := 32) hx hb d_Row_put_9 (by decide) (fun hc => ?_) (fun hc => ?_)
  · have hf := zz_ifp hc hf
    cases hf
    exact hend 32 ls _ _ d_Row_put_32 hP hD hS
  · have hf := zz_ifn hc hf
    refine lv_aload_n hx hb d_Row_put_12 rfl (lv_at hl 0 rfl) ?_
    refine va_get (D := (dC, dI)) (ci := 4) (v := .ref h_v_letters) (C := R_Row) (T := T_Row) (N := 3) hx hb hw in_Row hown hK hP 0 rfl rfl 0 (by decide) (hw _ wd_37) (fun _ h9 => h9) rfl d_Row_put_13 ?_
    refine lv_aload_n hx hb d_Row_put_16 rfl (lv_at hl 0 rfl) ?_
    refine va_get (D := (dC, dI)) (ci := 4) (v := .int v_end) (C := R_Row) (T := T_Row) (N := 3) hx hb hw in_Row hown hK hP 0 rfl rfl 2 (by decide) (hw _ wd_39) (fun _ h9 => h9) rfl d_Row_put_17 ?_
    refine lv_iload_n hx hb d_Row_put_20 rfl (lv_at hl 1 rfl) ?_
    obtain ⟨hb_1, hf⟩ := zz_gd hf
    refine va_cast hx hb hK hP hD hS 1 1 rfl rfl (zz_vp hb_1) d_Row_put_21 (fun H locs hP hD hS => ?_)
    have hP : va_P (dC, dI) vwCl [(h_v, .inr (4, [.ref h_v_letters, .int v_start, .int v_end])), (h_v_letters, .inl (cC, n_v_letters, .inl (upd v_letters_a v_end.toNatClampNeg (vp_nar .char x1))))] H := hP
    have hD : va_D A [(h_v, .inr (4, [.ref h_v_letters, .int v_start, .int v_end])), (h_v_letters, .inl (cC, n_v_letters, .inl (upd v_letters_a v_end.toNatClampNeg (vp_nar .char x1))))] := hD
    refine lv_aload_n hx hb d_Row_put_22 rfl (lv_at hl 0 rfl) ?_
    refine lv_dup hx hb d_Row_put_23 rfl ?_
    refine va_get (D := (dC, dI)) (ci := 4) (v := .int v_end) (C := R_Row) (T := T_Row) (N := 3) hx hb hw in_Row hown hK hP 0 rfl rfl 2 (by decide) (hw _ wd_39) (fun _ h9 => h9) rfl d_Row_put_24 ?_
    refine lv_iconst (v := 1) hx hb d_Row_put_27 (by decide) ?_
    refine lv_iadd hx hb d_Row_put_28 ?_
    refine va_put (D := (dC, dI)) (ci := 4) (v := .int (v_end + 1)) (ty := .int) (C := R_Row) (T := T_Row) (N := 3) hx hb hw in_Row ty_Row tyok_Row nm_Row hown hK hP hD hS 0 rfl rfl 2 (by decide) (hw _ wd_39) (fun _ h9 => h9) rfl (tyok_Row 2 (by decide)) rfl rfl (Nat.le_of_ble_eq_true rfl) d_Row_put_29 (fun H locs hP hD hS => ?_)
    have hP : va_P (dC, dI) vwCl [(h_v, .inr (4, [.ref h_v_letters, .int v_start, .int (v_end + 1)])), (h_v_letters, .inl (cC, n_v_letters, .inl (upd v_letters_a v_end.toNatClampNeg (vp_nar .char x1))))] H := hP
    have hD : va_D A [(h_v, .inr (4, [.ref h_v_letters, .int v_start, .int (v_end + 1)])), (h_v_letters, .inl (cC, n_v_letters, .inl (upd v_letters_a v_end.toNatClampNeg (vp_nar .char x1))))] := hD
    cases hf
    exact hend 32 ls _ _ d_Row_put_32 hP hD hS
abbrev ws_Row_takeFirst : List Cond := .code y_Row_takeFirst prog_7_method_6_code 2 (some .char) :: zw
abbrev rm_Row_takeFirst : Room := { frames := 1, cells := 0, slots := 0, locals := 21 }
theorem hd_Row_takeFirst : y_Row_takeFirst.cls = "RealText$Row" ∧ y_Row_takeFirst.cls ≠ "java/lang/invoke/MethodHandle" ∧ y_Row_takeFirst.cls ≠ "java/lang/invoke/VarHandle" ∧ (parseMethodDescriptor y_Row_takeFirst.desc).map (fun d => d.parameters.length) = some 0 := by decide +kernel
theorem d_Row_takeFirst_0 : decode prog_7_method_6_code 0 = .ok (.aload_n 0, 1) := by decide +kernel
theorem d_Row_takeFirst_1 : decode prog_7_method_6_code 1 = .ok (.iconst 0, 1) := by decide +kernel
theorem d_Row_takeFirst_2 : decode prog_7_method_6_code 2 = .ok (.invokevirtual 34, 3) := by decide +kernel
theorem d_Row_takeFirst_5 : decode prog_7_method_6_code 5 = .ok (.istore_n 1, 1) := by decide +kernel
theorem d_Row_takeFirst_6 : decode prog_7_method_6_code 6 = .ok (.aload_n 0, 1) := by decide +kernel
theorem d_Row_takeFirst_7 : decode prog_7_method_6_code 7 = .ok (.getfield 17, 3) := by decide +kernel
theorem d_Row_takeFirst_10 : decode prog_7_method_6_code 10 = .ok (.aload_n 0, 1) := by decide +kernel
theorem d_Row_takeFirst_11 : decode prog_7_method_6_code 11 = .ok (.getfield 13, 3) := by decide +kernel
theorem d_Row_takeFirst_14 : decode prog_7_method_6_code 14 = .ok (.if_icmp .ge 13, 3) := by decide +kernel
theorem d_Row_takeFirst_17 : decode prog_7_method_6_code 17 = .ok (.aload_n 0, 1) := by decide +kernel
theorem d_Row_takeFirst_18 : decode prog_7_method_6_code 18 = .ok (.dup, 1) := by decide +kernel
theorem d_Row_takeFirst_19 : decode prog_7_method_6_code 19 = .ok (.getfield 17, 3) := by decide +kernel
theorem d_Row_takeFirst_22 : decode prog_7_method_6_code 22 = .ok (.iconst 1, 1) := by decide +kernel
theorem d_Row_takeFirst_23 : decode prog_7_method_6_code 23 = .ok (.iadd, 1) := by decide +kernel
theorem d_Row_takeFirst_24 : decode prog_7_method_6_code 24 = .ok (.putfield 17, 3) := by decide +kernel
theorem d_Row_takeFirst_27 : decode prog_7_method_6_code 27 = .ok (.iload_n 1, 1) := by decide +kernel
theorem d_Row_takeFirst_28 : decode prog_7_method_6_code 28 = .ok (.ireturn, 1) := by decide +kernel
def f_Row_takeFirst (n_v_letters : Nat) (v_start : Int32) (v_end : Int32) (v_letters_a : Nat → Int32) : Option (Int32 × Int32) :=
  (f_Row_at n_v_letters 0 v_start v_end v_letters_a).bind fun u_1 =>
  (if v_end ≤ v_start then
  if zz_ch u_1 = true then
  some (u_1, v_start)
  else none
  else
  if zz_ch u_1 = true then
  some (u_1, v_start + 1)
  else none)
set_option maxHeartbeats 4000000 in
set_option maxRecDepth 100000 in
theorem c_Row_takeFirst (l : Launch) (dC : Nat → ClassId) (dI : Nat → Nat → Nat) (cI cC cB cJ : ClassId) (sz : Nat) (h_v : Nat) (h_v_letters : Nat) (n_v_letters : Nat) (v_start : Int32) (v_end : Int32) (v_letters_a : Nat → Int32) (u : Int32 × Int32) (hf : f_Row_takeFirst n_v_letters v_start v_end v_letters_a = some u) : Met l y_Row_takeFirst ws_Row_takeFirst rm_Row_takeFirst (zz_P zz_T (dC, dI) vwCl (zz_tys cI cC cB cJ) [.ref h_v] [(h_v, .inr (4, [.ref h_v_letters, .int v_start, .int v_end])), (h_v_letters, .inl (cC, n_v_letters, .inl v_letters_a))] sz) (zz_Qi (dC, dI) vwCl u.1 [(h_v, .inr (4, [.ref h_v_letters, .int u.2, .int v_end])), (h_v_letters, .inl (cC, n_v_letters, .inl v_letters_a))] (va_A [(h_v, .inr (4, [.ref h_v_letters, .int v_start, .int v_end])), (h_v_letters, .inl (cC, n_v_letters, .inl v_letters_a))] sz)) 0 0 (va_A [(h_v, .inr (4, [.ref h_v_letters, .int v_start, .int v_end])), (h_v_letters, .inl (cC, n_v_letters, .inl v_letters_a))] sz) := by
  refine Met.ofW (cc := prog_7_method_6_code) (maxL := 2) (ret := (some .char)) (by decide +kernel) rfl ?_
  intro p e s m args below meth c s₁ B hml hv
  obtain ⟨rfl, hsz, hP, hK, hD0, hX⟩ := hv
  have hx := B.exec
  have hb := B.bytes
  have hr := B.returns
  have hts := atoms_spec (ws := ws_Row_takeFirst) B.pre
  have hw : ∀ w ∈ zw, w.before [.ref h_v].toArray s = true := fun w h => hts w (List.mem_cons_of_mem _ h)
  have hown : s.vm.findClass R_Row = some m.cls := findClass_of_methodNamed B.named
  have hlocks := B.notSynchronized
  subst hsz
  have hD := hD0.self (sz := s.heap.size)
  generalize hAe : va_A [(h_v, .inr (4, [.ref h_v_letters, .int v_start, .int v_end])), (h_v_letters, .inl (cC, n_v_letters, .inl v_letters_a))] s.heap.size = A at hD hX ⊢
  have hA : ∀ q : Nat, s.heap.size ≤ q → A q := fun q h => by rw [← hAe]; exact Or.inr h
  have hS : va_S A s.heap s.heap [] := va_S.rf
  have hl := lv_entry [.ref h_v] (n := 2) (Nat.le_of_ble_eq_true rfl)
  rw [lg_entry_eq]
  generalize (lg_sl [.ref h_v] ++ List.replicate (2 - (lg_sl [.ref h_v]).length) Slot.unset).toArray = ls at hl ⊢
  have hl : lv_has ls 2 [(0, .ref h_v)] := hl
  refine zz_endz hx hb hr hlocks (fun Qq hend => ?_)
  unfold f_Row_takeFirst at hf
  refine lv_aload_n hx hb d_Row_takeFirst_0 rfl (lv_at hl 0 rfl) ?_
  refine lv_iconst (v := 0) hx hb d_Row_takeFirst_1 (by decide) ?_
  obtain ⟨u_1, hu_1, hf⟩ := zz_bd hf
  refine zz_ci (ws' := [(h_v, .inr (4, [.ref h_v_letters, .int v_start, .int v_end])), (h_v_letters, .inl (cC, n_v_letters, .inl v_letters_a))]) (wc := [(h_v, .inr (4, [.ref h_v_letters, .int v_start, .int v_end])), (h_v_letters, .inl (cC, n_v_letters, .inl v_letters_a))]) (w' := [(h_v, .inr (4, [.ref h_v_letters, .int v_start, .int v_end])), (h_v_letters, .inl (cC, n_v_letters, .inl v_letters_a))]) hP hD hS hA [0, 1] [] [0, 1] rfl rfl (by decide) (by decide) rfl (by decide) (va_runV (As := [.int 0]) (rest := []) ⟨hx, hb, hml, hown, hw⟩ (c_Row_at l dC dI cI cC cB cJ _ h_v h_v_letters n_v_letters 0 v_start v_end v_letters_a u_1 hu_1) (cwV 1 hw (zg_V wd_447 wd_448 wd_449 wd_2 wd_450) rfl rfl rfl hd_Row_at ⟨Nat.le_of_ble_eq_true rfl, Nat.le_of_ble_eq_true rfl⟩) (zz_preV zz_TE (va_recv (q0 := 0) (ci := 4) hK hP rfl rfl) hP hD hK hS hA trivial [0, 1] rfl (by decide)) rfl rfl hl.1 rfl (lv_room (Nat.le_of_ble_eq_true rfl)) d_Row_takeFirst_2 ⟨Nat.zero_le _, Nat.zero_le _⟩) (fun H locs hP hD hS => ?_)
  refine lv_istore_n hx hb d_Row_takeFirst_5 rfl hl (by decide) rfl (fun ls hl => ?_)
  have hl : lv_has ls 2 [(1, .int u_1), (0, .ref h_v)] := hl
  refine lv_aload_n hx hb d_Row_takeFirst_6 rfl (lv_at hl 1 rfl) ?_
  refine va_get (D := (dC, dI)) (ci := 4) (v := .int v_start) (C := R_Row) (T := T_Row) (N := 3) hx hb hw in_Row hown hK hP 0 rfl rfl 1 (by decide) (hw _ wd_38) (fun _ h9 => h9) rfl d_Row_takeFirst_7 ?_
  refine lv_aload_n hx hb d_Row_takeFirst_10 rfl (lv_at hl 1 rfl) ?_
  refine va_get (D := (dC, dI)) (ci := 4) (v := .int v_end) (C := R_Row) (T := T_Row) (N := 3) hx hb hw in_Row hown hK hP 0 rfl rfl 2 (by decide) (hw _ wd_39) (fun _ h9 => h9) rfl d_Row_takeFirst_11 ?_
  refine lv_icmp_ge (tgt := 27) hx hb d_Row_takeFirst_14 (by decide) (fun hc => ?_) (fun hc => ?_)
  · have hf := zz_ifp hc hf
    refine lv_iload_n hx hb d_Row_takeFirst_27 rfl (lv_at hl 0 rfl) ?_
    obtain ⟨hn, hf⟩ := zz_gd hf
    cases hf
    exact hend 28 ls _ _ (zz_nar_char hn) d_Row_takeFirst_28 hP hD hS
  · have hf := zz_ifn hc hf
    refine lv_aload_n hx hb d_Row_takeFirst_17 rfl (lv_at hl 1 rfl) ?_
    refine lv_dup hx hb d_Row_takeFirst_18 rfl ?_
    refine va_get (D := (dC, dI)) (ci := 4) (v := .int v_start) (C := R_Row) (T := T_Row) (N := 3) hx hb hw in_Row hown hK hP 0 rfl rfl 1 (by decide) (hw _ wd_38) (fun _ h9 => h9) rfl d_Row_takeFirst_19 ?_
    refine lv_iconst (v := 1) hx hb d_Row_takeFirst_22 (by decide) ?_
    refine lv_iadd hx hb d_Row_takeFirst_23 ?_
    refine va_put (D := (dC, dI)) (ci := 4) (v := .int (v_start + 1)) (ty := .int) (C := R_Row) (T := T_Row) (N := 3) hx hb hw in_Row ty_Row tyok_Row nm_Row hown hK hP hD hS 0 rfl rfl 1 (by decide) (hw _ wd_38) (fun _ h9 => h9) rfl (tyok_Row 1 (by decide)) rfl rfl (Nat.le_of_ble_eq_true rfl) d_Row_takeFirst_24 (fun H locs hP hD hS => ?_)
    have hP : va_P (dC, dI) vwCl [(h_v, .inr (4, [.ref h_v_letters, .int (v_start + 1), .int v_end])), (h_v_letters, .inl (cC, n_v_letters, .inl v_letters_a))] H := hP
    have hD : va_D A [(h_v, .inr (4, [.ref h_v_letters, .int (v_start + 1), .int v_end])), (h_v_letters, .inl (cC, n_v_letters, .inl v_letters_a))] := hD
    refine lv_iload_n hx hb d_Row_takeFirst_27 rfl (lv_at hl 0 rfl) ?_
    obtain ⟨hn, hf⟩ := zz_gd hf
    cases hf
    exact hend 28 ls _ _ (zz_nar_char hn) d_Row_takeFirst_28 hP hD hS
abbrev ws_Row_clear : List Cond := .code y_Row_clear prog_7_method_7_code 1 none :: zw
abbrev rm_Row_clear : Room := { frames := 0, cells := 0, slots := 0, locals := 0 }
theorem hd_Row_clear : y_Row_clear.cls = "RealText$Row" ∧ y_Row_clear.cls ≠ "java/lang/invoke/MethodHandle" ∧ y_Row_clear.cls ≠ "java/lang/invoke/VarHandle" ∧ (parseMethodDescriptor y_Row_clear.desc).map (fun d => d.parameters.length) = some 0 := by decide +kernel
theorem d_Row_clear_0 : decode prog_7_method_7_code 0 = .ok (.aload_n 0, 1) := by decide +kernel
theorem d_Row_clear_1 : decode prog_7_method_7_code 1 = .ok (.iconst 0, 1) := by decide +kernel
theorem d_Row_clear_2 : decode prog_7_method_7_code 2 = .ok (.putfield 17, 3) := by decide +kernel
theorem d_Row_clear_5 : decode prog_7_method_7_code 5 = .ok (.aload_n 0, 1) := by decide +kernel
theorem d_Row_clear_6 : decode prog_7_method_7_code 6 = .ok (.iconst 0, 1) := by decide +kernel
theorem d_Row_clear_7 : decode prog_7_method_7_code 7 = .ok (.putfield 13, 3) := by decide +kernel
theorem d_Row_clear_10 : decode prog_7_method_7_code 10 = .ok (.return_, 1) := by decide +kernel
def f_Row_clear (v_start : Int32) (v_end : Int32) : Option (Int32 × Int32) :=
  some (0, 0)
set_option maxHeartbeats 4000000 in
set_option maxRecDepth 100000 in
theorem c_Row_clear (l : Launch) (dC : Nat → ClassId) (dI : Nat → Nat → Nat) (cI cC cB cJ : ClassId) (sz : Nat) (h_v : Nat) (h_v_letters : Nat) (v_start : Int32) (v_end : Int32) (u : Int32 × Int32) (hf : f_Row_clear v_start v_end = some u) : Met l y_Row_clear ws_Row_clear rm_Row_clear (zz_P zz_T (dC, dI) vwCl (zz_tys cI cC cB cJ) [.ref h_v] [(h_v, .inr (4, [.ref h_v_letters, .int v_start, .int v_end]))] sz) (zz_Qv (dC, dI) vwCl [(h_v, .inr (4, [.ref h_v_letters, .int u.1, .int u.2]))] (va_A [(h_v, .inr (4, [.ref h_v_letters, .int v_start, .int v_end]))] sz)) 0 0 (va_A [(h_v, .inr (4, [.ref h_v_letters, .int v_start, .int v_end]))] sz) := by
  refine Met.ofW (cc := prog_7_method_7_code) (maxL := 1) (ret := none) (by decide +kernel) rfl ?_
  intro p e s m args below meth c s₁ B hml hv
  obtain ⟨rfl, hsz, hP, hK, hD0, hX⟩ := hv
  have hx := B.exec
  have hb := B.bytes
  have hr := B.returns
  have hts := atoms_spec (ws := ws_Row_clear) B.pre
  have hw : ∀ w ∈ zw, w.before [.ref h_v].toArray s = true := fun w h => hts w (List.mem_cons_of_mem _ h)
  have hown : s.vm.findClass R_Row = some m.cls := findClass_of_methodNamed B.named
  have hlocks := B.notSynchronized
  subst hsz
  have hD := hD0.self (sz := s.heap.size)
  generalize hAe : va_A [(h_v, .inr (4, [.ref h_v_letters, .int v_start, .int v_end]))] s.heap.size = A at hD hX ⊢
  have hA : ∀ q : Nat, s.heap.size ≤ q → A q := fun q h => by rw [← hAe]; exact Or.inr h
  have hS : va_S A s.heap s.heap [] := va_S.rf
  have hl := lv_entry [.ref h_v] (n := 1) (Nat.le_of_ble_eq_true rfl)
  rw [lg_entry_eq]
  generalize (lg_sl [.ref h_v] ++ List.replicate (1 - (lg_sl [.ref h_v]).length) Slot.unset).toArray = ls at hl ⊢
  have hl : lv_has ls 1 [(0, .ref h_v)] := hl
  refine zz_endv hx hb hr hlocks (fun Qq hend => ?_)
  unfold f_Row_clear at hf
  refine lv_aload_n hx hb d_Row_clear_0 rfl (lv_at hl 0 rfl) ?_
  refine lv_iconst (v := 0) hx hb d_Row_clear_1 (by decide) ?_
  refine va_put (D := (dC, dI)) (ci := 4) (v := .int 0) (ty := .int) (C := R_Row) (T := T_Row) (N := 3) hx hb hw in_Row ty_Row tyok_Row nm_Row hown hK hP hD hS 0 rfl rfl 1 (by decide) (hw _ wd_38) (fun _ h9 => h9) rfl (tyok_Row 1 (by decide)) rfl rfl (Nat.le_of_ble_eq_true rfl) d_Row_clear_2 (fun H locs hP hD hS => ?_)
  have hP : va_P (dC, dI) vwCl [(h_v, .inr (4, [.ref h_v_letters, .int 0, .int v_end]))] H := hP
  have hD : va_D A [(h_v, .inr (4, [.ref h_v_letters, .int 0, .int v_end]))] := hD
  refine lv_aload_n hx hb d_Row_clear_5 rfl (lv_at hl 0 rfl) ?_
  refine lv_iconst (v := 0) hx hb d_Row_clear_6 (by decide) ?_
  refine va_put (D := (dC, dI)) (ci := 4) (v := .int 0) (ty := .int) (C := R_Row) (T := T_Row) (N := 3) hx hb hw in_Row ty_Row tyok_Row nm_Row hown hK hP hD hS 0 rfl rfl 2 (by decide) (hw _ wd_39) (fun _ h9 => h9) rfl (tyok_Row 2 (by decide)) rfl rfl (Nat.le_of_ble_eq_true rfl) d_Row_clear_7 (fun H locs hP hD hS => ?_)
  have hP : va_P (dC, dI) vwCl [(h_v, .inr (4, [.ref h_v_letters, .int 0, .int 0]))] H := hP
  have hD : va_D A [(h_v, .inr (4, [.ref h_v_letters, .int 0, .int 0]))] := hD
  cases hf
  exact hend 10 ls _ _ d_Row_clear_10 hP hD hS
