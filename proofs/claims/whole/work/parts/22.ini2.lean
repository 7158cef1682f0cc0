abbrev ws_Quo_init : List Cond := .code y_Quo_init prog_6_method_1_code 1 none :: zw
abbrev rm_Quo_init : Room := { frames := 2, cells := 4, slots := 260, locals := 41 }
theorem hd_Quo_init : y_Quo_init.cls ≠ "java/lang/invoke/MethodHandle" ∧ y_Quo_init.cls ≠ "java/lang/invoke/VarHandle" ∧ (parseMethodDescriptor y_Quo_init.desc).map (fun d => d.parameters.length) = some 0 := by decide +kernel
theorem d_Quo_init_0 : decode prog_6_method_1_code 0 = .ok (.aload_n 0, 1) := by decide +kernel
theorem d_Quo_init_1 : decode prog_6_method_1_code 1 = .ok (.invokespecial 1, 3) := by decide +kernel
theorem d_Quo_init_4 : decode prog_6_method_1_code 4 = .ok (.aload_n 0, 1) := by decide +kernel
theorem d_Quo_init_5 : decode prog_6_method_1_code 5 = .ok (.new 7, 3) := by decide +kernel
theorem d_Quo_init_8 : decode prog_6_method_1_code 8 = .ok (.dup, 1) := by decide +kernel
theorem d_Quo_init_9 : decode prog_6_method_1_code 9 = .ok (.sipush 128, 3) := by decide +kernel
theorem d_Quo_init_12 : decode prog_6_method_1_code 12 = .ok (.invokespecial 11, 3) := by decide +kernel
theorem d_Quo_init_15 : decode prog_6_method_1_code 15 = .ok (.putfield 14, 3) := by decide +kernel
theorem d_Quo_init_18 : decode prog_6_method_1_code 18 = .ok (.aload_n 0, 1) := by decide +kernel
theorem d_Quo_init_19 : decode prog_6_method_1_code 19 = .ok (.new 7, 3) := by decide +kernel
theorem d_Quo_init_22 : decode prog_6_method_1_code 22 = .ok (.dup, 1) := by decide +kernel
theorem d_Quo_init_23 : decode prog_6_method_1_code 23 = .ok (.sipush 128, 3) := by decide +kernel
theorem d_Quo_init_26 : decode prog_6_method_1_code 26 = .ok (.invokespecial 11, 3) := by decide +kernel
theorem d_Quo_init_29 : decode prog_6_method_1_code 29 = .ok (.putfield 18, 3) := by decide +kernel
theorem d_Quo_init_32 : decode prog_6_method_1_code 32 = .ok (.return_, 1) := by decide +kernel
set_option maxHeartbeats 4000000 in
set_option maxRecDepth 100000 in
theorem c_Quo_init (l : Launch) (dC : Nat → ClassId) (dI : Nat → Nat → Nat) (cI cC cB cJ : ClassId) (sz : Nat) (h : Nat) : Met l y_Quo_init ws_Quo_init rm_Quo_init (zz_P zz_T (dC, dI) vwCl (zz_tys cI cC cB cJ) [.ref h] [(h, .inr (3, [.null, .null, .long 0, .int 0, .int 0]))] sz) (va_Qv (S := Nat × Nat × Nat × Nat) (fun _ => True) (fun u t => zz_B (dC, dI) vwCl (va_A [(h, .inr (3, [.null, .null, .long 0, .int 0, .int 0]))] sz) [(h, .inr (3, [.ref u.1, .ref u.2.2.1, .long 0, .int 0, .int 0])), (u.1, .inr (0, [.ref u.2.1, .int 0])), (u.2.1, .inl (cI, 128, .inl (fun _ => 0))), (u.2.2.1, .inr (0, [.ref u.2.2.2, .int 0])), (u.2.2.2, .inl (cI, 128, .inl (fun _ => 0)))] t) (va_A [(h, .inr (3, [.null, .null, .long 0, .int 0, .int 0]))] sz)) 4 (260) (va_A [(h, .inr (3, [.null, .null, .long 0, .int 0, .int 0]))] sz) := by
  refine Met.ofW (cc := prog_6_method_1_code) (maxL := 1) (ret := none) (by decide +kernel) rfl ?_
  intro p e s m args below meth c s₁ B hml hv
  obtain ⟨rfl, hsz, hP, hK, hD0, hX⟩ := hv
  have hx := B.exec
  have hb := B.bytes
  have hr := B.returns
  have hts := atoms_spec (ws := ws_Quo_init) B.pre
  have hw : ∀ w ∈ zw, w.before [.ref h].toArray s = true := fun w h => hts w (List.mem_cons_of_mem _ h)
  have hown : s.vm.findClass R_Quo = some m.cls := findClass_of_methodNamed B.named
  have hlocks := B.notSynchronized
  have hin : meth.name = "<init>" := (name_of_methodNamed B.named B.method).1
  subst hsz
  have hD := hD0.self (sz := s.heap.size)
  generalize hAe : va_A [(h, .inr (3, [.null, .null, .long 0, .int 0, .int 0]))] s.heap.size = A at hD hX ⊢
  have hA : ∀ q : Nat, s.heap.size ≤ q → A q := fun q h => by rw [← hAe]; exact Or.inr h
  have hS : va_S A s.heap s.heap [] := va_S.rf
  have hl := lv_entry [.ref h] (n := 1) (Nat.le_of_ble_eq_true rfl)
  rw [lg_entry_eq]
  generalize (lg_sl [.ref h] ++ List.replicate (1 - (lg_sl [.ref h]).length) Slot.unset).toArray = ls at hl ⊢
  have hl : lv_has ls 1 [(0, .ref h)] := hl
  refine lv_aload_n hx hb d_Quo_init_0 rfl (lv_at hl 0 rfl) ?_
  refine W.objInit hx hb hown (hw _ wd_83) (hw _ wd_29) (hw _ wd_30) rfl (by rw [hml]; exact hl.1) rfl d_Quo_init_1 (Nat.le_of_ble_eq_true rfl) (Nat.le_of_ble_eq_true rfl) ?_
  refine W.eq (g2 := F0 m 4 ls []) rfl ?_
  refine lv_aload_n hx hb d_Quo_init_4 rfl (lv_at hl 0 rfl) ?_
  have hsl : 0 + 2 ≤ 260 := by omega
  refine va_new (ci := 0) (fs := [.null, .int 0]) (C := R_Big) (T := T_Big) (N := 2) hx hb hw in_Big ty_Big tyok_Big hown (hw _ wd_84) (hw _ wd_85) (hw _ wd_5) hK hP hD hS hA rfl (fun j hj => by rcases (show j = 0 ∨ j = 1 by omega) with rfl | rfl <;> rfl) (Nat.le_of_ble_eq_true rfl) hsl d_Quo_init_5 (fun q5 H hP hD hS => ?_)
  have hP : va_P (dC, dI) vwCl [(h, .inr (3, [.null, .null, .long 0, .int 0, .int 0])), (q5, .inr (0, [.null, .int 0]))] H := hP
  have hD : va_D A [(h, .inr (3, [.null, .null, .long 0, .int 0, .int 0])), (q5, .inr (0, [.null, .int 0]))] := hD
  refine lv_dup hx hb d_Quo_init_8 rfl ?_
  refine lv_sipush (v := 128) hx hb d_Quo_init_9 (by decide) ?_
  have hsl : 0 + 2 + 128 ≤ 260 := by omega
  refine zz_cn (S := Nat) (ws' := fun u12 => [(h, .inr (3, [.null, .null, .long 0, .int 0, .int 0])), (q5, .inr (0, [.ref u12, .int 0])), (u12, .inl (cI, 128, .inl (fun _ => 0)))]) (wc := [(q5, .inr (0, [.null, .int 0]))]) (w' := fun u12 => [(q5, .inr (0, [.ref u12, .int 0])), (u12, .inl (cI, 128, .inl (fun _ => 0)))]) hP hD hS hA [1] [0] [0, 1, 2] rfl rfl (by decide) (by decide) (fun _ => rfl) (by decide) (va_runI (As := [.int 128]) (rest := [.ref q5, .ref h]) ⟨hx, hb, hml, hown, hw⟩ (c_Big_init l dC dI cI cC cB cJ _ q5 128 (by decide)) (cwI 1 hw (zg_C wd_88) rfl rfl rfl (hw _ wd_5) (hw _ wd_86) (hw _ wd_87) rfl hd_Big_init ⟨Nat.le_of_ble_eq_true rfl, Nat.le_of_ble_eq_true rfl⟩) (zz_preS zz_TE hP hD hK hS hA trivial [1] rfl (by decide)) rfl rfl hl.1 rfl (lv_room (Nat.le_of_ble_eq_true rfl)) d_Quo_init_12 ⟨Nat.le_of_ble_eq_true rfl, hsl⟩) (fun u12 H locs hP hD hS => ?_)
  refine va_putF (D := (dC, dI)) (ci := 3) (v := .ref q5) (ty := .object "RealText$Big") (C := R_Quo) (T := T_Quo) (N := 5) hx hb hw in_Quo ty_Quo tyok_Quo nm_Quo hown hK hP hD hS 0 rfl rfl 0 (by decide) (hw _ wd_98) (fun _ h9 => h9) rfl hin rfl (tyok_Quo 0 (by decide)) rfl rfl (Nat.le_of_ble_eq_true rfl) d_Quo_init_15 (fun H locs hP hD hS => ?_)
  have hP : va_P (dC, dI) vwCl [(h, .inr (3, [.ref q5, .null, .long 0, .int 0, .int 0])), (q5, .inr (0, [.ref u12, .int 0])), (u12, .inl (cI, 128, .inl (fun _ => 0)))] H := hP
  have hD : va_D A [(h, .inr (3, [.ref q5, .null, .long 0, .int 0, .int 0])), (q5, .inr (0, [.ref u12, .int 0])), (u12, .inl (cI, 128, .inl (fun _ => 0)))] := hD
  refine lv_aload_n hx hb d_Quo_init_18 rfl (lv_at hl 0 rfl) ?_
  have hsl : 0 + 2 + 128 + 2 ≤ 260 := by omega
  refine va_new (ci := 0) (fs := [.null, .int 0]) (C := R_Big) (T := T_Big) (N := 2) hx hb hw in_Big ty_Big tyok_Big hown (hw _ wd_84) (hw _ wd_85) (hw _ wd_5) hK hP hD hS hA rfl (fun j hj => by rcases (show j = 0 ∨ j = 1 by omega) with rfl | rfl <;> rfl) (Nat.le_of_ble_eq_true rfl) hsl d_Quo_init_19 (fun q19 H hP hD hS => ?_)
  have hP : va_P (dC, dI) vwCl [(h, .inr (3, [.ref q5, .null, .long 0, .int 0, .int 0])), (q5, .inr (0, [.ref u12, .int 0])), (u12, .inl (cI, 128, .inl (fun _ => 0))), (q19, .inr (0, [.null, .int 0]))] H := hP
  have hD : va_D A [(h, .inr (3, [.ref q5, .null, .long 0, .int 0, .int 0])), (q5, .inr (0, [.ref u12, .int 0])), (u12, .inl (cI, 128, .inl (fun _ => 0))), (q19, .inr (0, [.null, .int 0]))] := hD
  refine lv_dup hx hb d_Quo_init_22 rfl ?_
  refine lv_sipush (v := 128) hx hb d_Quo_init_23 (by decide) ?_
  have hsl : 0 + 2 + 128 + 2 + 128 ≤ 260 := by omega
  refine zz_cn (S := Nat) (ws' := fun u26 => [(h, .inr (3, [.ref q5, .null, .long 0, .int 0, .int 0])), (q5, .inr (0, [.ref u12, .int 0])), (u12, .inl (cI, 128, .inl (fun _ => 0))), (q19, .inr (0, [.ref u26, .int 0])), (u26, .inl (cI, 128, .inl (fun _ => 0)))]) (wc := [(q19, .inr (0, [.null, .int 0]))]) (w' := fun u26 => [(q19, .inr (0, [.ref u26, .int 0])), (u26, .inl (cI, 128, .inl (fun _ => 0)))]) hP hD hS hA [3] [0, 1, 2] [0, 1, 2, 3, 4] rfl rfl (by decide) (by decide) (fun _ => rfl) (by decide) (va_runI (As := [.int 128]) (rest := [.ref q19, .ref h]) ⟨hx, hb, hml, hown, hw⟩ (c_Big_init l dC dI cI cC cB cJ _ q19 128 (by decide)) (cwI 1 hw (zg_C wd_88) rfl rfl rfl (hw _ wd_5) (hw _ wd_86) (hw _ wd_87) rfl hd_Big_init ⟨Nat.le_of_ble_eq_true rfl, Nat.le_of_ble_eq_true rfl⟩) (zz_preS zz_TE hP hD hK hS hA trivial [3] rfl (by decide)) rfl rfl hl.1 rfl (lv_room (Nat.le_of_ble_eq_true rfl)) d_Quo_init_26 ⟨Nat.le_of_ble_eq_true rfl, hsl⟩) (fun u26 H locs hP hD hS => ?_)
  refine va_putF (D := (dC, dI)) (ci := 3) (v := .ref q19) (ty := .object "RealText$Big") (C := R_Quo) (T := T_Quo) (N := 5) hx hb hw in_Quo ty_Quo tyok_Quo nm_Quo hown hK hP hD hS 0 rfl rfl 1 (by decide) (hw _ wd_99) (fun _ h9 => h9) rfl hin rfl (tyok_Quo 1 (by decide)) rfl rfl (Nat.le_of_ble_eq_true rfl) d_Quo_init_29 (fun H locs hP hD hS => ?_)
  have hP : va_P (dC, dI) vwCl [(h, .inr (3, [.ref q5, .ref q19, .long 0, .int 0, .int 0])), (q5, .inr (0, [.ref u12, .int 0])), (u12, .inl (cI, 128, .inl (fun _ => 0))), (q19, .inr (0, [.ref u26, .int 0])), (u26, .inl (cI, 128, .inl (fun _ => 0)))] H := hP
  have hD : va_D A [(h, .inr (3, [.ref q5, .ref q19, .long 0, .int 0, .int 0])), (q5, .inr (0, [.ref u12, .int 0])), (u12, .inl (cI, 128, .inl (fun _ => 0))), (q19, .inr (0, [.ref u26, .int 0])), (u26, .inl (cI, 128, .inl (fun _ => 0)))] := hD
  refine W.widen (k := 4) (n := 260) (by omega) (by omega) ?_
  exact W.vret hx hb hr (fun t ht hW => ⟨⟨(q5, u12, q19, u26), rfl, trivial, by rw [ht]; exact hP, hD⟩, hS.F ht⟩) hS.2.2 d_Quo_init_32
abbrev ws_Sho_init : List Cond := .code y_Sho_init prog_8_method_1_code 1 none :: zw
abbrev rm_Sho_init : Room := { frames := 2, cells := 8, slots := 168, locals := 41 }
theorem hd_Sho_init : y_Sho_init.cls ≠ "java/lang/invoke/MethodHandle" ∧ y_Sho_init.cls ≠ "java/lang/invoke/VarHandle" ∧ (parseMethodDescriptor y_Sho_init.desc).map (fun d => d.parameters.length) = some 0 := by decide +kernel
theorem d_Sho_init_0 : decode prog_8_method_1_code 0 = .ok (.aload_n 0, 1) := by decide +kernel
theorem d_Sho_init_1 : decode prog_8_method_1_code 1 = .ok (.invokespecial 1, 3) := by decide +kernel
theorem d_Sho_init_4 : decode prog_8_method_1_code 4 = .ok (.aload_n 0, 1) := by decide +kernel
theorem d_Sho_init_5 : decode prog_8_method_1_code 5 = .ok (.new 7, 3) := by decide +kernel
theorem d_Sho_init_8 : decode prog_8_method_1_code 8 = .ok (.dup, 1) := by decide +kernel
theorem d_Sho_init_9 : decode prog_8_method_1_code 9 = .ok (.bipush 40, 2) := by decide +kernel
theorem d_Sho_init_11 : decode prog_8_method_1_code 11 = .ok (.invokespecial 11, 3) := by decide +kernel
theorem d_Sho_init_14 : decode prog_8_method_1_code 14 = .ok (.putfield 14, 3) := by decide +kernel
theorem d_Sho_init_17 : decode prog_8_method_1_code 17 = .ok (.aload_n 0, 1) := by decide +kernel
theorem d_Sho_init_18 : decode prog_8_method_1_code 18 = .ok (.new 7, 3) := by decide +kernel
theorem d_Sho_init_21 : decode prog_8_method_1_code 21 = .ok (.dup, 1) := by decide +kernel
theorem d_Sho_init_22 : decode prog_8_method_1_code 22 = .ok (.bipush 40, 2) := by decide +kernel
theorem d_Sho_init_24 : decode prog_8_method_1_code 24 = .ok (.invokespecial 11, 3) := by decide +kernel
theorem d_Sho_init_27 : decode prog_8_method_1_code 27 = .ok (.putfield 18, 3) := by decide +kernel
theorem d_Sho_init_30 : decode prog_8_method_1_code 30 = .ok (.aload_n 0, 1) := by decide +kernel
theorem d_Sho_init_31 : decode prog_8_method_1_code 31 = .ok (.new 7, 3) := by decide +kernel
theorem d_Sho_init_34 : decode prog_8_method_1_code 34 = .ok (.dup, 1) := by decide +kernel
theorem d_Sho_init_35 : decode prog_8_method_1_code 35 = .ok (.bipush 40, 2) := by decide +kernel
theorem d_Sho_init_37 : decode prog_8_method_1_code 37 = .ok (.invokespecial 11, 3) := by decide +kernel
theorem d_Sho_init_40 : decode prog_8_method_1_code 40 = .ok (.putfield 21, 3) := by decide +kernel
theorem d_Sho_init_43 : decode prog_8_method_1_code 43 = .ok (.aload_n 0, 1) := by decide +kernel
theorem d_Sho_init_44 : decode prog_8_method_1_code 44 = .ok (.new 7, 3) := by decide +kernel
theorem d_Sho_init_47 : decode prog_8_method_1_code 47 = .ok (.dup, 1) := by decide +kernel
theorem d_Sho_init_48 : decode prog_8_method_1_code 48 = .ok (.bipush 40, 2) := by decide +kernel
theorem d_Sho_init_50 : decode prog_8_method_1_code 50 = .ok (.invokespecial 11, 3) := by decide +kernel
theorem d_Sho_init_53 : decode prog_8_method_1_code 53 = .ok (.putfield 24, 3) := by decide +kernel
theorem d_Sho_init_56 : decode prog_8_method_1_code 56 = .ok (.return_, 1) := by decide +kernel
set_option maxHeartbeats 4000000 in
set_option maxRecDepth 100000 in
theorem c_Sho_init (l : Launch) (dC : Nat → ClassId) (dI : Nat → Nat → Nat) (cI cC cB cJ : ClassId) (sz : Nat) (h : Nat) : Met l y_Sho_init ws_Sho_init rm_Sho_init (zz_P zz_T (dC, dI) vwCl (zz_tys cI cC cB cJ) [.ref h] [(h, .inr (5, [.null, .null, .null, .null, .int 0, .int 0, .long 0, .int 0]))] sz) (va_Qv (S := Nat × Nat × Nat × Nat × Nat × Nat × Nat × Nat) (fun _ => True) (fun u t => zz_B (dC, dI) vwCl (va_A [(h, .inr (5, [.null, .null, .null, .null, .int 0, .int 0, .long 0, .int 0]))] sz) [(h, .inr (5, [.ref u.1, .ref u.2.2.1, .ref u.2.2.2.2.1, .ref u.2.2.2.2.2.2.1, .int 0, .int 0, .long 0, .int 0])), (u.1, .inr (0, [.ref u.2.1, .int 0])), (u.2.1, .inl (cI, 40, .inl (fun _ => 0))), (u.2.2.1, .inr (0, [.ref u.2.2.2.1, .int 0])), (u.2.2.2.1, .inl (cI, 40, .inl (fun _ => 0))), (u.2.2.2.2.1, .inr (0, [.ref u.2.2.2.2.2.1, .int 0])), (u.2.2.2.2.2.1, .inl (cI, 40, .inl (fun _ => 0))), (u.2.2.2.2.2.2.1, .inr (0, [.ref u.2.2.2.2.2.2.2, .int 0])), (u.2.2.2.2.2.2.2, .inl (cI, 40, .inl (fun _ => 0)))] t) (va_A [(h, .inr (5, [.null, .null, .null, .null, .int 0, .int 0, .long 0, .int 0]))] sz)) 8 (168) (va_A [(h, .inr (5, [.null, .null, .null, .null, .int 0, .int 0, .long 0, .int 0]))] sz) := by
  refine Met.ofW (cc := prog_8_method_1_code) (maxL := 1) (ret := none) (by decide +kernel) rfl ?_
  intro p e s m args below meth c s₁ B hml hv
  obtain ⟨rfl, hsz, hP, hK, hD0, hX⟩ := hv
  have hx := B.exec
  have hb := B.bytes
  have hr := B.returns
  have hts := atoms_spec (ws := ws_Sho_init) B.pre
  have hw : ∀ w ∈ zw, w.before [.ref h].toArray s = true := fun w h => hts w (List.mem_cons_of_mem _ h)
  have hown : s.vm.findClass R_Sho = some m.cls := findClass_of_methodNamed B.named
  have hlocks := B.notSynchronized
  have hin : meth.name = "<init>" := (name_of_methodNamed B.named B.method).1
  subst hsz
  have hD := hD0.self (sz := s.heap.size)
  generalize hAe : va_A [(h, .inr (5, [.null, .null, .null, .null, .int 0, .int 0, .long 0, .int 0]))] s.heap.size = A at hD hX ⊢
  have hA : ∀ q : Nat, s.heap.size ≤ q → A q := fun q h => by rw [← hAe]; exact Or.inr h
  have hS : va_S A s.heap s.heap [] := va_S.rf
  have hl := lv_entry [.ref h] (n := 1) (Nat.le_of_ble_eq_true rfl)
  rw [lg_entry_eq]
  generalize (lg_sl [.ref h] ++ List.replicate (1 - (lg_sl [.ref h]).length) Slot.unset).toArray = ls at hl ⊢
  have hl : lv_has ls 1 [(0, .ref h)] := hl
  refine lv_aload_n hx hb d_Sho_init_0 rfl (lv_at hl 0 rfl) ?_
  refine W.objInit hx hb hown (hw _ wd_122) (hw _ wd_29) (hw _ wd_30) rfl (by rw [hml]; exact hl.1) rfl d_Sho_init_1 (Nat.le_of_ble_eq_true rfl) (Nat.le_of_ble_eq_true rfl) ?_
  refine W.eq (g2 := F0 m 4 ls []) rfl ?_
  refine lv_aload_n hx hb d_Sho_init_4 rfl (lv_at hl 0 rfl) ?_
  have hsl : 0 + 2 ≤ 168 := by omega
  refine va_new (ci := 0) (fs := [.null, .int 0]) (C := R_Big) (T := T_Big) (N := 2) hx hb hw in_Big ty_Big tyok_Big hown (hw _ wd_123) (hw _ wd_85) (hw _ wd_5) hK hP hD hS hA rfl (fun j hj => by rcases (show j = 0 ∨ j = 1 by omega) with rfl | rfl <;> rfl) (Nat.le_of_ble_eq_true rfl) hsl d_Sho_init_5 (fun q5 H hP hD hS => ?_)
  have hP : va_P (dC, dI) vwCl [(h, .inr (5, [.null, .null, .null, .null, .int 0, .int 0, .long 0, .int 0])), (q5, .inr (0, [.null, .int 0]))] H := hP
  have hD : va_D A [(h, .inr (5, [.null, .null, .null, .null, .int 0, .int 0, .long 0, .int 0])), (q5, .inr (0, [.null, .int 0]))] := hD
  refine lv_dup hx hb d_Sho_init_8 rfl ?_
  refine lv_bipush (v := 40) hx hb d_Sho_init_9 (by decide) ?_
  have hsl : 0 + 2 + 40 ≤ 168 := by omega
  refine zz_cn (S := Nat) (ws' := fun u11 => [(h, .inr (5, [.null, .null, .null, .null, .int 0, .int 0, .long 0, .int 0])), (q5, .inr (0, [.ref u11, .int 0])), (u11, .inl (cI, 40, .inl (fun _ => 0)))]) (wc := [(q5, .inr (0, [.null, .int 0]))]) (w' := fun u11 => [(q5, .inr (0, [.ref u11, .int 0])), (u11, .inl (cI, 40, .inl (fun _ => 0)))]) hP hD hS hA [1] [0] [0, 1, 2] rfl rfl (by decide) (by decide) (fun _ => rfl) (by decide) (va_runI (As := [.int 40]) (rest := [.ref q5, .ref h]) ⟨hx, hb, hml, hown, hw⟩ (c_Big_init l dC dI cI cC cB cJ _ q5 40 (by decide)) (cwI 1 hw (zg_C wd_88) rfl rfl rfl (hw _ wd_5) (hw _ wd_124) (hw _ wd_87) rfl hd_Big_init ⟨Nat.le_of_ble_eq_true rfl, Nat.le_of_ble_eq_true rfl⟩) (zz_preS zz_TE hP hD hK hS hA trivial [1] rfl (by decide)) rfl rfl hl.1 rfl (lv_room (Nat.le_of_ble_eq_true rfl)) d_Sho_init_11 ⟨Nat.le_of_ble_eq_true rfl, hsl⟩) (fun u11 H locs hP hD hS => ?_)
  refine va_putF (D := (dC, dI)) (ci := 5) (v := .ref q5) (ty := .object "RealText$Big") (C := R_Sho) (T := T_Sho) (N := 8) hx hb hw in_Sho ty_Sho tyok_Sho nm_Sho hown hK hP hD hS 0 rfl rfl 0 (by decide) (hw _ wd_125) (fun _ h9 => h9) rfl hin rfl (tyok_Sho 0 (by decide)) rfl rfl (Nat.le_of_ble_eq_true rfl) d_Sho_init_14 (fun H locs hP hD hS => ?_)
  have hP : va_P (dC, dI) vwCl [(h, .inr (5, [.ref q5, .null, .null, .null, .int 0, .int 0, .long 0, .int 0])), (q5, .inr (0, [.ref u11, .int 0])), (u11, .inl (cI, 40, .inl (fun _ => 0)))] H := hP
  have hD : va_D A [(h, .inr (5, [.ref q5, .null, .null, .null, .int 0, .int 0, .long 0, .int 0])), (q5, .inr (0, [.ref u11, .int 0])), (u11, .inl (cI, 40, .inl (fun _ => 0)))] := hD
  refine lv_aload_n hx hb d_Sho_init_17 rfl (lv_at hl 0 rfl) ?_
  have hsl : 0 + 2 + 40 + 2 ≤ 168 := by omega
  refine va_new (ci := 0) (fs := [.null, .int 0]) (C := R_Big) (T := T_Big) (N := 2) hx hb hw in_Big ty_Big tyok_Big hown (hw _ wd_123) (hw _ wd_85) (hw _ wd_5) hK hP hD hS hA rfl (fun j hj => by rcases (show j = 0 ∨ j = 1 by omega) with rfl | rfl <;> rfl) (Nat.le_of_ble_eq_true rfl) hsl d_Sho_init_18 (fun q18 H hP hD hS => ?_)
  have hP : va_P (dC, dI) vwCl [(h, .inr (5, [.ref q5, .null, .null, .null, .int 0, .int 0, .long 0, .int 0])), (q5, .inr (0, [.ref u11, .int 0])), (u11, .inl (cI, 40, .inl (fun _ => 0))), (q18, .inr (0, [.null, .int 0]))] H := hP
  have hD : va_D A [(h, .inr (5, [.ref q5, .null, .null, .null, .int 0, .int 0, .long 0, .int 0])), (q5, .inr (0, [.ref u11, .int 0])), (u11, .inl (cI, 40, .inl (fun _ => 0))), (q18, .inr (0, [.null, .int 0]))] := hD
  refine lv_dup hx hb d_Sho_init_21 rfl ?_
  refine lv_bipush (v := 40) hx hb d_Sho_init_22 (by decide) ?_
  have hsl : 0 + 2 + 40 + 2 + 40 ≤ 168 := by omega
  refine zz_cn (S := Nat) (ws' := fun u24 => [(h, .inr (5, [.ref q5, .null, .null, .null, .int 0, .int 0, .long 0, .int 0])), (q5, .inr (0, [.ref u11, .int 0])), (u11, .inl (cI, 40, .inl (fun _ => 0))), (q18, .inr (0, [.ref u24, .int 0])), (u24, .inl (cI, 40, .inl (fun _ => 0)))]) (wc := [(q18, .inr (0, [.null, .int 0]))]) (w' := fun u24 => [(q18, .inr (0, [.ref u24, .int 0])), (u24, .inl (cI, 40, .inl (fun _ => 0)))]) hP hD hS hA [3] [0, 1, 2] [0, 1, 2, 3, 4] rfl rfl (by decide) (by decide) (fun _ => rfl) (by decide) (va_runI (As := [.int 40]) (rest := [.ref q18, .ref h]) ⟨hx, hb, hml, hown, hw⟩ (c_Big_init l dC dI cI cC cB cJ _ q18 40 (by decide)) (cwI 1 hw (zg_C wd_88) rfl rfl rfl (hw _ wd_5) (hw _ wd_124) (hw _ wd_87) rfl hd_Big_init ⟨Nat.le_of_ble_eq_true rfl, Nat.le_of_ble_eq_true rfl⟩) (zz_preS zz_TE hP hD hK hS hA trivial [3] rfl (by decide)) rfl rfl hl.1 rfl (lv_room (Nat.le_of_ble_eq_true rfl)) d_Sho_init_24 ⟨Nat.le_of_ble_eq_true rfl, hsl⟩) (fun u24 H locs hP hD hS => ?_)
  refine va_putF (D := (dC, dI)) (ci := 5) (v := .ref q18) (ty := .object "RealText$Big") (C := R_Sho) (T := T_Sho) (N := 8) hx hb hw in_Sho ty_Sho tyok_Sho nm_Sho hown hK hP hD hS 0 rfl rfl 1 (by decide) (hw _ wd_126) (fun _ h9 => h9) rfl hin rfl (tyok_Sho 1 (by decide)) rfl rfl (Nat.le_of_ble_eq_true rfl) d_Sho_init_27 (fun H locs hP hD hS => ?_)
  have hP : va_P (dC, dI) vwCl [(h, .inr (5, [.ref q5, .ref q18, .null, .null, .int 0, .int 0, .long 0, .int 0])), (q5, .inr (0, [.ref u11, .int 0])), (u11, .inl (cI, 40, .inl (fun _ => 0))), (q18, .inr (0, [.ref u24, .int 0])), (u24, .inl (cI, 40, .inl (fun _ => 0)))] H := hP
  have hD : va_D A [(h, .inr (5, [.ref q5, .ref q18, .null, .null, .int 0, .int 0, .long 0, .int 0])), (q5, .inr (0, [.ref u11, .int 0])), (u11, .inl (cI, 40, .inl (fun _ => 0))), (q18, .inr (0, [.ref u24, .int 0])), (u24, .inl (cI, 40, .inl (fun _ => 0)))] := hD
  refine lv_aload_n hx hb d_Sho_init_30 rfl (lv_at hl 0 rfl) ?_
  have hsl : 0 + 2 + 40 + 2 + 40 + 2 ≤ 168 := by omega
  refine va_new (ci := 0) (fs := [.null, .int 0]) (C := R_Big) (T := T_Big) (N := 2) hx hb hw in_Big ty_Big tyok_Big hown (hw _ wd_123) (hw _ wd_85) (hw _ wd_5) hK hP hD hS hA rfl (fun j hj => by rcases (show j = 0 ∨ j = 1 by omega) with rfl | rfl <;> rfl) (Nat.le_of_ble_eq_true rfl) hsl d_Sho_init_31 (fun q31 H hP hD hS => ?_)
  have hP : va_P (dC, dI) vwCl [(h, .inr (5, [.ref q5, .ref q18, .null, .null, .int 0, .int 0, .long 0, .int 0])), (q5, .inr (0, [.ref u11, .int 0])), (u11, .inl (cI, 40, .inl (fun _ => 0))), (q18, .inr (0, [.ref u24, .int 0])), (u24, .inl (cI, 40, .inl (fun _ => 0))), (q31, .inr (0, [.null, .int 0]))] H := hP
  have hD : va_D A [(h, .inr (5, [.ref q5, .ref q18, .null, .null, .int 0, .int 0, .long 0, .int 0])), (q5, .inr (0, [.ref u11, .int 0])), (u11, .inl (cI, 40, .inl (fun _ => 0))), (q18, .inr (0, [.ref u24, .int 0])), (u24, .inl (cI, 40, .inl (fun _ => 0))), (q31, .inr (0, [.null, .int 0]))] := hD
  refine lv_dup hx hb d_Sho_init_34 rfl ?_
  refine lv_bipush (v := 40) hx hb d_Sho_init_35 (by decide) ?_
  have hsl : 0 + 2 + 40 + 2 + 40 + 2 + 40 ≤ 168 := by omega
  refine zz_cn (S := Nat) (ws' := fun u37 => [(h, .inr (5, [.ref q5, .ref q18, .null, .null, .int 0, .int 0, .long 0, .int 0])), (q5, .inr (0, [.ref u11, .int 0])), (u11, .inl (cI, 40, .inl (fun _ => 0))), (q18, .inr (0, [.ref u24, .int 0])), (u24, .inl (cI, 40, .inl (fun _ => 0))), (q31, .inr (0, [.ref u37, .int 0])), (u37, .inl (cI, 40, .inl (fun _ => 0)))]) (wc := [(q31, .inr (0, [.null, .int 0]))]) (w' := fun u37 => [(q31, .inr (0, [.ref u37, .int 0])), (u37, .inl (cI, 40, .inl (fun _ => 0)))]) hP hD hS hA [5] [0, 1, 2, 3, 4] [0, 1, 2, 3, 4, 5, 6] rfl rfl (by decide) (by decide) (fun _ => rfl) (by decide) (va_runI (As := [.int 40]) (rest := [.ref q31, .ref h]) ⟨hx, hb, hml, hown, hw⟩ (c_Big_init l dC dI cI cC cB cJ _ q31 40 (by decide)) (cwI 1 hw (zg_C wd_88) rfl rfl rfl (hw _ wd_5) (hw _ wd_124) (hw _ wd_87) rfl hd_Big_init ⟨Nat.le_of_ble_eq_true rfl, Nat.le_of_ble_eq_true rfl⟩) (zz_preS zz_TE hP hD hK hS hA trivial [5] rfl (by decide)) rfl rfl hl.1 rfl (lv_room (Nat.le_of_ble_eq_true rfl)) d_Sho_init_37 ⟨Nat.le_of_ble_eq_true rfl, hsl⟩) (fun u37 H locs hP hD hS => ?_)
  refine va_putF (D := (dC, dI)) (ci := 5) (v := .ref q31) (ty := .object "RealText$Big") (C := R_Sho) (T := T_Sho) (N := 8) hx hb hw in_Sho ty_Sho tyok_Sho nm_Sho hown hK hP hD hS 0 rfl rfl 2 (by decide) (hw _ wd_127) (fun _ h9 => h9) rfl hin rfl (tyok_Sho 2 (by decide)) rfl rfl (Nat.le_of_ble_eq_true rfl) d_Sho_init_40 (fun H locs hP hD hS => ?_)
  have hP : va_P (dC, dI) vwCl [(h, .inr (5, [.ref q5, .ref q18, .ref q31, .null, .int 0, .int 0, .long 0, .int 0])), (q5, .inr (0, [.ref u11, .int 0])), (u11, .inl (cI, 40, .inl (fun _ => 0))), (q18, .inr (0, [.ref u24, .int 0])), (u24, .inl (cI, 40, .inl (fun _ => 0))), (q31, .inr (0, [.ref u37, .int 0])), (u37, .inl (cI, 40, .inl (fun _ => 0)))] H := hP
  have hD : va_D A [(h, .inr (5, [.ref q5, .ref q18, .ref q31, .null, .int 0, .int 0, .long 0, .int 0])), (q5, .inr (0, [.ref u11, .int 0])), (u11, .inl (cI, 40, .inl (fun _ => 0))), (q18, .inr (0, [.ref u24, .int 0])), (u24, .inl (cI, 40, .inl (fun _ => 0))), (q31, .inr (0, [.ref u37, .int 0])), (u37, .inl (cI, 40, .inl (fun _ => 0)))] := hD
  refine lv_aload_n hx hb d_Sho_init_43 rfl (lv_at hl 0 rfl) ?_
  have hsl : 0 + 2 + 40 + 2 + 40 + 2 + 40 + 2 ≤ 168 := by omega
  refine va_new (ci := 0) (fs := [.null, .int 0]) (C := R_Big) (T := T_Big) (N := 2) hx hb hw in_Big ty_Big tyok_Big hown (hw _ wd_123) (hw _ wd_85) (hw _ wd_5) hK hP hD hS hA rfl (fun j hj => by rcases (show j = 0 ∨ j = 1 by omega) with rfl | rfl <;> rfl) (Nat.le_of_ble_eq_true rfl) hsl d_Sho_init_44 (fun q44 H hP hD hS => ?_)
  have hP : va_P (dC, dI) vwCl [(h, .inr (5, [.ref q5, .ref q18, .ref q31, .null, .int 0, .int 0, .long 0, .int 0])), (q5, .inr (0, [.ref u11, .int 0])), (u11, .inl (cI, 40, .inl (fun _ => 0))), (q18, .inr (0, [.ref u24, .int 0])), (u24, .inl (cI, 40, .inl (fun _ => 0))), (q31, .inr (0, [.ref u37, .int 0])), (u37, .inl (cI, 40, .inl (fun _ => 0))), (q44, .inr (0, [.null, .int 0]))] H := hP
  have hD : va_D A [(h, .inr (5, [.ref q5, .ref q18, .ref q31, .null, .int 0, .int 0, .long 0, .int 0])), (q5, .inr (0, [.ref u11, .int 0])), (u11, .inl (cI, 40, .inl (fun _ => 0))), (q18, .inr (0, [.ref u24, .int 0])), (u24, .inl (cI, 40, .inl (fun _ => 0))), (q31, .inr (0, [.ref u37, .int 0])), (u37, .inl (cI, 40, .inl (fun _ => 0))), (q44, .inr (0, [.null, .int 0]))] := hD
  refine lv_dup hx hb d_Sho_init_47 rfl ?_
  refine lv_bipush (v := 40) hx hb d_Sho_init_48 (by decide) ?_
  have hsl : 0 + 2 + 40 + 2 + 40 + 2 + 40 + 2 + 40 ≤ 168 := by omega
  refine zz_cn (S := Nat) (ws' := fun u50 => [(h, .inr (5, [.ref q5, .ref q18, .ref q31, .null, .int 0, .int 0, .long 0, .int 0])), (q5, .inr (0, [.ref u11, .int 0])), (u11, .inl (cI, 40, .inl (fun _ => 0))), (q18, .inr (0, [.ref u24, .int 0])), (u24, .inl (cI, 40, .inl (fun _ => 0))), (q31, .inr (0, [.ref u37, .int 0])), (u37, .inl (cI, 40, .inl (fun _ => 0))), (q44, .inr (0, [.ref u50, .int 0])), (u50, .inl (cI, 40, .inl (fun _ => 0)))]) (wc := [(q44, .inr (0, [.null, .int 0]))]) (w' := fun u50 => [(q44, .inr (0, [.ref u50, .int 0])), (u50, .inl (cI, 40, .inl (fun _ => 0)))]) hP hD hS hA [7] [0, 1, 2, 3, 4, 5, 6] [0, 1, 2, 3, 4, 5, 6, 7, 8] rfl rfl (by decide) (by decide) (fun _ => rfl) (by decide) (va_runI (As := [.int 40]) (rest := [.ref q44, .ref h]) ⟨hx, hb, hml, hown, hw⟩ (c_Big_init l dC dI cI cC cB cJ _ q44 40 (by decide)) (cwI 1 hw (zg_C wd_88) rfl rfl rfl (hw _ wd_5) (hw _ wd_124) (hw _ wd_87) rfl hd_Big_init ⟨Nat.le_of_ble_eq_true rfl, Nat.le_of_ble_eq_true rfl⟩) (zz_preS zz_TE hP hD hK hS hA trivial [7] rfl (by decide)) rfl rfl hl.1 rfl (lv_room (Nat.le_of_ble_eq_true rfl)) d_Sho_init_50 ⟨Nat.le_of_ble_eq_true rfl, hsl⟩) (fun u50 H locs hP hD hS => ?_)
  refine va_putF (D := (dC, dI)) (ci := 5) (v := .ref q44) (ty := .object "RealText$Big") (C := R_Sho) (T := T_Sho) (N := 8) hx hb hw in_Sho ty_Sho tyok_Sho nm_Sho hown hK hP hD hS 0 rfl rfl 3 (by decide) (hw _ wd_128) (fun _ h9 => h9) rfl hin rfl (tyok_Sho 3 (by decide)) rfl rfl (Nat.le_of_ble_eq_true rfl) d_Sho_init_53 (fun H locs hP hD hS => ?_)
  have hP : va_P (dC, dI) vwCl [(h, .inr (5, [.ref q5, .ref q18, .ref q31, .ref q44, .int 0, .int 0, .long 0, .int 0])), (q5, .inr (0, [.ref u11, .int 0])), (u11, .inl (cI, 40, .inl (fun _ => 0))), (q18, .inr (0, [.ref u24, .int 0])), (u24, .inl (cI, 40, .inl (fun _ => 0))), (q31, .inr (0, [.ref u37, .int 0])), (u37, .inl (cI, 40, .inl (fun _ => 0))), (q44, .inr (0, [.ref u50, .int 0])), (u50, .inl (cI, 40, .inl (fun _ => 0)))] H := hP
  have hD : va_D A [(h, .inr (5, [.ref q5, .ref q18, .ref q31, .ref q44, .int 0, .int 0, .long 0, .int 0])), (q5, .inr (0, [.ref u11, .int 0])), (u11, .inl (cI, 40, .inl (fun _ => 0))), (q18, .inr (0, [.ref u24, .int 0])), (u24, .inl (cI, 40, .inl (fun _ => 0))), (q31, .inr (0, [.ref u37, .int 0])), (u37, .inl (cI, 40, .inl (fun _ => 0))), (q44, .inr (0, [.ref u50, .int 0])), (u50, .inl (cI, 40, .inl (fun _ => 0)))] := hD
  refine W.widen (k := 8) (n := 168) (by omega) (by omega) ?_
  exact W.vret hx hb hr (fun t ht hW => ⟨⟨(q5, u11, q18, u24, q31, u37, q44, u50), rfl, trivial, by rw [ht]; exact hP, hD⟩, hS.F ht⟩) hS.2.2 d_Sho_init_56
