abbrev ws_Big_limbAt : List Cond := .code y_Big_limbAt prog_2_method_13_code 2 (some .long) :: zw
abbrev rm_Big_limbAt : Room := { frames := 0, cells := 0, slots := 0, locals := 0 }
theorem hd_Big_limbAt : y_Big_limbAt.cls = "RealText$Big" ∧ y_Big_limbAt.cls ≠ "java/lang/invoke/MethodHandle" ∧ y_Big_limbAt.cls ≠ "java/lang/invoke/VarHandle" ∧ (parseMethodDescriptor y_Big_limbAt.desc).map (fun d => d.parameters.length) = some 1 := by decide +kernel
theorem d_Big_limbAt_0 : decode prog_2_method_13_code 0 = .ok (.iload_n 1, 1) := by decide +kernel
theorem d_Big_limbAt_1 : decode prog_2_method_13_code 1 = .ok (.ifCond .lt 25, 3) := by decide +kernel
theorem d_Big_limbAt_4 : decode prog_2_method_13_code 4 = .ok (.iload_n 1, 1) := by decide +kernel
theorem d_Big_limbAt_5 : decode prog_2_method_13_code 5 = .ok (.aload_n 0, 1) := by decide +kernel
theorem d_Big_limbAt_6 : decode prog_2_method_13_code 6 = .ok (.getfield 13, 3) := by decide +kernel
theorem d_Big_limbAt_9 : decode prog_2_method_13_code 9 = .ok (.if_icmp .ge 17, 3) := by decide +kernel
theorem d_Big_limbAt_12 : decode prog_2_method_13_code 12 = .ok (.aload_n 0, 1) := by decide +kernel
theorem d_Big_limbAt_13 : decode prog_2_method_13_code 13 = .ok (.getfield 7, 3) := by decide +kernel
theorem d_Big_limbAt_16 : decode prog_2_method_13_code 16 = .ok (.iload_n 1, 1) := by decide +kernel
theorem d_Big_limbAt_17 : decode prog_2_method_13_code 17 = .ok (.iaload, 1) := by decide +kernel
theorem d_Big_limbAt_18 : decode prog_2_method_13_code 18 = .ok (.i2l, 1) := by decide +kernel
theorem d_Big_limbAt_19 : decode prog_2_method_13_code 19 = .ok (.ldc2_w 17, 3) := by decide +kernel
theorem d_Big_limbAt_22 : decode prog_2_method_13_code 22 = .ok (.land, 1) := by decide +kernel
theorem d_Big_limbAt_23 : decode prog_2_method_13_code 23 = .ok (.goto 4, 3) := by decide +kernel
theorem d_Big_limbAt_26 : decode prog_2_method_13_code 26 = .ok (.lconst 0, 1) := by decide +kernel
theorem d_Big_limbAt_27 : decode prog_2_method_13_code 27 = .ok (.lreturn, 1) := by decide +kernel
def f_Big_limbAt (n_v_limbs : Nat) (x1 : Int32) (v_size : Int32) (v_limbs_a : Nat → Int32) : Option (Int64) :=
  (if x1 < 0 then
  some (0)
  else
  (if v_size ≤ x1 then
  some (0)
  else
  if zz_in x1 n_v_limbs = true then
  some (((v_limbs_a x1.toNatClampNeg).toInt64) &&& 4294967295)
  else none))
set_option maxHeartbeats 4000000 in
set_option maxRecDepth 100000 in
theorem c_Big_limbAt (l : Launch) (dC : Nat → ClassId) (dI : Nat → Nat → Nat) (cI cC cB cJ : ClassId) (sz : Nat) (h_v : Nat) (h_v_limbs : Nat) (n_v_limbs : Nat) (x1 : Int32) (v_size : Int32) (v_limbs_a : Nat → Int32) (u : Int64) (hf : f_Big_limbAt n_v_limbs x1 v_size v_limbs_a = some u) : Met l y_Big_limbAt ws_Big_limbAt rm_Big_limbAt (zz_P zz_T (dC, dI) vwCl (zz_tys cI cC cB cJ) [.ref h_v, .int x1] [(h_v, .inr (0, [.ref h_v_limbs, .int v_size])), (h_v_limbs, .inl (cI, n_v_limbs, .inl v_limbs_a))] sz) (zz_Ql (dC, dI) vwCl u [(h_v, .inr (0, [.ref h_v_limbs, .int v_size])), (h_v_limbs, .inl (cI, n_v_limbs, .inl v_limbs_a))] (va_A [(h_v, .inr (0, [.ref h_v_limbs, .int v_size])), (h_v_limbs, .inl (cI, n_v_limbs, .inl v_limbs_a))] sz)) 0 0 (va_A [(h_v, .inr (0, [.ref h_v_limbs, .int v_size])), (h_v_limbs, .inl (cI, n_v_limbs, .inl v_limbs_a))] sz) := by
  refine Met.ofW (cc := prog_2_method_13_code) (maxL := 2) (ret := (some .long)) (by decide +kernel) rfl ?_
  intro p e s m args below meth c s₁ B hml hv
  obtain ⟨rfl, hsz, hP, hK, hD0, hX⟩ := hv
  have hx := B.exec
  have hb := B.bytes
  have hr := B.returns
  have hts := atoms_spec (ws := ws_Big_limbAt) B.pre
  have hw : ∀ w ∈ zw, w.before [.ref h_v, .int x1].toArray s = true := fun w h => hts w (List.mem_cons_of_mem _ h)
  have hown : s.vm.findClass R_Big = some m.cls := findClass_of_methodNamed B.named
  have hlocks := B.notSynchronized
  subst hsz
  have hD := hD0.self (sz := s.heap.size)
  generalize hAe : va_A [(h_v, .inr (0, [.ref h_v_limbs, .int v_size])), (h_v_limbs, .inl (cI, n_v_limbs, .inl v_limbs_a))] s.heap.size = A at hD hX ⊢
  have hA : ∀ q : Nat, s.heap.size ≤ q → A q := fun q h => by rw [← hAe]; exact Or.inr h
  have hS : va_S A s.heap s.heap [] := va_S.rf
  have hl := lv_entry [.ref h_v, .int x1] (n := 2) (Nat.le_of_ble_eq_true rfl)
  rw [lg_entry_eq]
  generalize (lg_sl [.ref h_v, .int x1] ++ List.replicate (2 - (lg_sl [.ref h_v, .int x1]).length) Slot.unset).toArray = ls at hl ⊢
  have hl : lv_has ls 2 [(0, .ref h_v), (1, .int x1)] := hl
  refine zz_endl hx hb hr hlocks (fun Qq hend => ?_)
  unfold f_Big_limbAt at hf
  refine lv_iload_n hx hb d_Big_limbAt_0 rfl (lv_at hl 1 rfl) ?_
  refine lv_if_lt (tgt := 26) hx hb d_Big_limbAt_1 (by decide) (fun hc => ?_) (fun hc => ?_)
  · have hf := zz_ifp hc hf
    refine lv_lconst (v := 0) hx hb d_Big_limbAt_26 (by decide) ?_
    cases hf
    exact hend 27 ls _ _ d_Big_limbAt_27 hP hD hS
  · have hf := zz_ifn hc hf
    refine lv_iload_n hx hb d_Big_limbAt_4 rfl (lv_at hl 1 rfl) ?_
    refine lv_aload_n hx hb d_Big_limbAt_5 rfl (lv_at hl 0 rfl) ?_
    refine va_get (D := (dC, dI)) (ci := 0) (v := .int v_size) (C := R_Big) (T := T_Big) (N := 2) hx hb hw in_Big hown hK hP 0 rfl rfl 1 (by decide) (hw _ wd_91) (fun _ h9 => h9) rfl d_Big_limbAt_6 ?_
    refine lv_icmp_ge (tgt := 26) hx hb d_Big_limbAt_9 (by decide) (fun hc => ?_) (fun hc => ?_)
    · have hf := zz_ifp hc hf
      refine lv_lconst (v := 0) hx hb d_Big_limbAt_26 (by decide) ?_
      cases hf
      exact hend 27 ls _ _ d_Big_limbAt_27 hP hD hS
    · have hf := zz_ifn hc hf
      refine lv_aload_n hx hb d_Big_limbAt_12 rfl (lv_at hl 0 rfl) ?_
      refine va_get (D := (dC, dI)) (ci := 0) (v := .ref h_v_limbs) (C := R_Big) (T := T_Big) (N := 2) hx hb hw in_Big hown hK hP 0 rfl rfl 0 (by decide) (hw _ wd_90) (fun _ h9 => h9) rfl d_Big_limbAt_13 ?_
      refine lv_iload_n hx hb d_Big_limbAt_16 rfl (lv_at hl 1 rfl) ?_
      obtain ⟨hb_1, hf⟩ := zz_gd hf
      refine va_iald hx hb hK hP 1 0 rfl rfl (zz_vp hb_1) d_Big_limbAt_17 ?_
      refine lv_i2l hx hb d_Big_limbAt_18 rfl ?_
      refine lv_ldc2 (v := 4294967295) hx hb hown (hw _ wd_326) d_Big_limbAt_19 ?_
      refine lv_land hx hb d_Big_limbAt_22 ?_
      refine lv_goto (tgt := 27) hx hb d_Big_limbAt_23 (by decide) ?_
      cases hf
      exact hend 27 ls _ _ d_Big_limbAt_27 hP hD hS
abbrev ws_Big_addLimb : List Cond := .code y_Big_addLimb prog_2_method_15_code 3 none :: zw
abbrev rm_Big_addLimb : Room := { frames := 0, cells := 0, slots := 0, locals := 0 }
theorem hd_Big_addLimb : y_Big_addLimb.cls = "RealText$Big" ∧ y_Big_addLimb.cls ≠ "java/lang/invoke/MethodHandle" ∧ y_Big_addLimb.cls ≠ "java/lang/invoke/VarHandle" ∧ (parseMethodDescriptor y_Big_addLimb.desc).map (fun d => d.parameters.length) = some 1 := by decide +kernel
theorem d_Big_addLimb_0 : decode prog_2_method_15_code 0 = .ok (.aload_n 0, 1) := by decide +kernel
theorem d_Big_addLimb_1 : decode prog_2_method_15_code 1 = .ok (.getfield 13, 3) := by decide +kernel
theorem d_Big_addLimb_4 : decode prog_2_method_15_code 4 = .ok (.aload_n 0, 1) := by decide +kernel
theorem d_Big_addLimb_5 : decode prog_2_method_15_code 5 = .ok (.getfield 7, 3) := by decide +kernel
theorem d_Big_addLimb_8 : decode prog_2_method_15_code 8 = .ok (.arraylength, 1) := by decide +kernel
theorem d_Big_addLimb_9 : decode prog_2_method_15_code 9 = .ok (.if_icmp .ge 24, 3) := by decide +kernel
theorem d_Big_addLimb_12 : decode prog_2_method_15_code 12 = .ok (.aload_n 0, 1) := by decide +kernel
theorem d_Big_addLimb_13 : decode prog_2_method_15_code 13 = .ok (.getfield 7, 3) := by decide +kernel
theorem d_Big_addLimb_16 : decode prog_2_method_15_code 16 = .ok (.aload_n 0, 1) := by decide +kernel
theorem d_Big_addLimb_17 : decode prog_2_method_15_code 17 = .ok (.getfield 13, 3) := by decide +kernel
theorem d_Big_addLimb_20 : decode prog_2_method_15_code 20 = .ok (.lload_n 1, 1) := by decide +kernel
theorem d_Big_addLimb_21 : decode prog_2_method_15_code 21 = .ok (.l2i, 1) := by decide +kernel
theorem d_Big_addLimb_22 : decode prog_2_method_15_code 22 = .ok (.iastore, 1) := by decide +kernel
theorem d_Big_addLimb_23 : decode prog_2_method_15_code 23 = .ok (.aload_n 0, 1) := by decide +kernel
theorem d_Big_addLimb_24 : decode prog_2_method_15_code 24 = .ok (.dup, 1) := by decide +kernel
theorem d_Big_addLimb_25 : decode prog_2_method_15_code 25 = .ok (.getfield 13, 3) := by decide +kernel
theorem d_Big_addLimb_28 : decode prog_2_method_15_code 28 = .ok (.iconst 1, 1) := by decide +kernel
theorem d_Big_addLimb_29 : decode prog_2_method_15_code 29 = .ok (.iadd, 1) := by decide +kernel
theorem d_Big_addLimb_30 : decode prog_2_method_15_code 30 = .ok (.putfield 13, 3) := by decide +kernel
theorem d_Big_addLimb_33 : decode prog_2_method_15_code 33 = .ok (.return_, 1) := by decide +kernel
def f_Big_addLimb (n_v_limbs : Nat) (x1 : Int64) (v_size : Int32) (v_limbs_a : Nat → Int32) : Option (Int32 × (Nat → Int32)) :=
  (if (nI n_v_limbs) ≤ v_size then
  some (v_size, v_limbs_a)
  else
  if zz_in v_size n_v_limbs = true then
  some (v_size + 1, upd v_limbs_a v_size.toNatClampNeg x1.toInt32)
  else none)
set_option maxHeartbeats 4000000 in
set_option maxRecDepth 100000 in
theorem c_Big_addLimb (l : Launch) (dC : Nat → ClassId) (dI : Nat → Nat → Nat) (cI cC cB cJ : ClassId) (sz : Nat) (h_v : Nat) (h_v_limbs : Nat) (n_v_limbs : Nat) (x1 : Int64) (v_size : Int32) (v_limbs_a : Nat → Int32) (u : Int32 × (Nat → Int32)) (hf : f_Big_addLimb n_v_limbs x1 v_size v_limbs_a = some u) : Met l y_Big_addLimb ws_Big_addLimb rm_Big_addLimb (zz_P zz_T (dC, dI) vwCl (zz_tys cI cC cB cJ) [.ref h_v, .long x1] [(h_v, .inr (0, [.ref h_v_limbs, .int v_size])), (h_v_limbs, .inl (cI, n_v_limbs, .inl v_limbs_a))] sz) (zz_Qv (dC, dI) vwCl [(h_v, .inr (0, [.ref h_v_limbs, .int u.1])), (h_v_limbs, .inl (cI, n_v_limbs, .inl u.2))] (va_A [(h_v, .inr (0, [.ref h_v_limbs, .int v_size])), (h_v_limbs, .inl (cI, n_v_limbs, .inl v_limbs_a))] sz)) 0 0 (va_A [(h_v, .inr (0, [.ref h_v_limbs, .int v_size])), (h_v_limbs, .inl (cI, n_v_limbs, .inl v_limbs_a))] sz) := by
  refine Met.ofW (cc := prog_2_method_15_code) (maxL := 3) (ret := none) (by decide +kernel) rfl ?_
  intro p e s m args below meth c s₁ B hml hv
  obtain ⟨rfl, hsz, hP, hK, hD0, hX⟩ := hv
  have hx := B.exec
  have hb := B.bytes
  have hr := B.returns
  have hts := atoms_spec (ws := ws_Big_addLimb) B.pre
  have hw : ∀ w ∈ zw, w.before [.ref h_v, .long x1].toArray s = true := fun w h => hts w (List.mem_cons_of_mem _ h)
  have hown : s.vm.findClass R_Big = some m.cls := findClass_of_methodNamed B.named
  have hlocks := B.notSynchronized
  subst hsz
  have hD := hD0.self (sz := s.heap.size)
  generalize hAe : va_A [(h_v, .inr (0, [.ref h_v_limbs, .int v_size])), (h_v_limbs, .inl (cI, n_v_limbs, .inl v_limbs_a))] s.heap.size = A at hD hX ⊢
  have hA : ∀ q : Nat, s.heap.size ≤ q → A q := fun q h => by rw [← hAe]; exact Or.inr h
  have hS : va_S A s.heap s.heap [] := va_S.rf
  have hl := lv_entry [.ref h_v, .long x1] (n := 3) (Nat.le_of_ble_eq_true rfl)
  rw [lg_entry_eq]
  generalize (lg_sl [.ref h_v, .long x1] ++ List.replicate (3 - (lg_sl [.ref h_v, .long x1]).length) Slot.unset).toArray = ls at hl ⊢
  have hl : lv_has ls 3 [(0, .ref h_v), (1, .long x1)] := hl
  refine zz_endv hx hb hr hlocks (fun Qq hend => ?_)
  unfold f_Big_addLimb at hf
  refine lv_aload_n hx hb d_Big_addLimb_0 rfl (lv_at hl 0 rfl) ?_
  refine va_get (D := (dC, dI)) (ci := 0) (v := .int v_size) (C := R_Big) (T := T_Big) (N := 2) hx hb hw in_Big hown hK hP 0 rfl rfl 1 (by decide) (hw _ wd_91) (fun _ h9 => h9) rfl d_Big_addLimb_1 ?_
  refine lv_aload_n hx hb d_Big_addLimb_4 rfl (lv_at hl 0 rfl) ?_
  refine va_get (D := (dC, dI)) (ci := 0) (v := .ref h_v_limbs) (C := R_Big) (T := T_Big) (N := 2) hx hb hw in_Big hown hK hP 0 rfl rfl 0 (by decide) (hw _ wd_90) (fun _ h9 => h9) rfl d_Big_addLimb_5 ?_
  refine va_alen (v := nI n_v_limbs) hx hb hK hP 1 0 rfl rfl rfl d_Big_addLimb_8 ?_
  refine lv_icmp_ge (tgt := 33) hx hb d_Big_addLimb_9 (by decide) (fun hc => ?_) (fun hc => ?_)
  · have hf := zz_ifp hc hf
    cases hf
    exact hend 33 ls _ _ d_Big_addLimb_33 hP hD hS
  · have hf := zz_ifn hc hf
    refine lv_aload_n hx hb d_Big_addLimb_12 rfl (lv_at hl 0 rfl) ?_
    refine va_get (D := (dC, dI)) (ci := 0) (v := .ref h_v_limbs) (C := R_Big) (T := T_Big) (N := 2) hx hb hw in_Big hown hK hP 0 rfl rfl 0 (by decide) (hw _ wd_90) (fun _ h9 => h9) rfl d_Big_addLimb_13 ?_
    refine lv_aload_n hx hb d_Big_addLimb_16 rfl (lv_at hl 0 rfl) ?_
    refine va_get (D := (dC, dI)) (ci := 0) (v := .int v_size) (C := R_Big) (T := T_Big) (N := 2) hx hb hw in_Big hown hK hP 0 rfl rfl 1 (by decide) (hw _ wd_91) (fun _ h9 => h9) rfl d_Big_addLimb_17 ?_
    refine lv_lload_n hx hb d_Big_addLimb_20 rfl (lv_at hl 1 rfl) ?_
    refine lv_l2i hx hb d_Big_addLimb_21 rfl ?_
    obtain ⟨hb_1, hf⟩ := zz_gd hf
    refine va_iast hx hb hK hP hD hS 1 0 rfl rfl (zz_vp hb_1) d_Big_addLimb_22 (fun H locs hP hD hS => ?_)
    have hP : va_P (dC, dI) vwCl [(h_v, .inr (0, [.ref h_v_limbs, .int v_size])), (h_v_limbs, .inl (cI, n_v_limbs, .inl (upd v_limbs_a v_size.toNatClampNeg x1.toInt32)))] H := hP
    have hD : va_D A [(h_v, .inr (0, [.ref h_v_limbs, .int v_size])), (h_v_limbs, .inl (cI, n_v_limbs, .inl (upd v_limbs_a v_size.toNatClampNeg x1.toInt32)))] := hD
    refine lv_aload_n hx hb d_Big_addLimb_23 rfl (lv_at hl 0 rfl) ?_
    refine lv_dup hx hb d_Big_addLimb_24 rfl ?_
    refine va_get (D := (dC, dI)) (ci := 0) (v := .int v_size) (C := R_Big) (T := T_Big) (N := 2) hx hb hw in_Big hown hK hP 0 rfl rfl 1 (by decide) (hw _ wd_91) (fun _ h9 => h9) rfl d_Big_addLimb_25 ?_
    refine lv_iconst (v := 1) hx hb d_Big_addLimb_28 (by decide) ?_
    refine lv_iadd hx hb d_Big_addLimb_29 ?_
    refine va_put (D := (dC, dI)) (ci := 0) (v := .int (v_size + 1)) (ty := .int) (C := R_Big) (T := T_Big) (N := 2) hx hb hw in_Big ty_Big tyok_Big nm_Big hown hK hP hD hS 0 rfl rfl 1 (by decide) (hw _ wd_91) (fun _ h9 => h9) rfl (tyok_Big 1 (by decide)) rfl rfl (Nat.le_of_ble_eq_true rfl) d_Big_addLimb_30 (fun H locs hP hD hS => ?_)
    have hP : va_P (dC, dI) vwCl [(h_v, .inr (0, [.ref h_v_limbs, .int (v_size + 1)])), (h_v_limbs, .inl (cI, n_v_limbs, .inl (upd v_limbs_a v_size.toNatClampNeg x1.toInt32)))] H := hP
    have hD : va_D A [(h_v, .inr (0, [.ref h_v_limbs, .int (v_size + 1)])), (h_v_limbs, .inl (cI, n_v_limbs, .inl (upd v_limbs_a v_size.toNatClampNeg x1.toInt32)))] := hD
    cases hf
    exact hend 33 ls _ _ d_Big_addLimb_33 hP hD hS
abbrev ws_Big_trim : List Cond := .code y_Big_trim prog_2_method_16_code 1 none :: zw
abbrev rm_Big_trim : Room := { frames := 0, cells := 0, slots := 0, locals := 0 }
theorem hd_Big_trim : y_Big_trim.cls = "RealText$Big" ∧ y_Big_trim.cls ≠ "java/lang/invoke/MethodHandle" ∧ y_Big_trim.cls ≠ "java/lang/invoke/VarHandle" ∧ (parseMethodDescriptor y_Big_trim.desc).map (fun d => d.parameters.length) = some 0 := by decide +kernel
theorem d_Big_trim_0 : decode prog_2_method_16_code 0 = .ok (.aload_n 0, 1) := by decide +kernel
theorem d_Big_trim_1 : decode prog_2_method_16_code 1 = .ok (.getfield 13, 3) := by decide +kernel
theorem d_Big_trim_4 : decode prog_2_method_16_code 4 = .ok (.ifCond .le 30, 3) := by decide +kernel
theorem d_Big_trim_7 : decode prog_2_method_16_code 7 = .ok (.aload_n 0, 1) := by decide +kernel
theorem d_Big_trim_8 : decode prog_2_method_16_code 8 = .ok (.getfield 7, 3) := by decide +kernel
theorem d_Big_trim_11 : decode prog_2_method_16_code 11 = .ok (.aload_n 0, 1) := by decide +kernel
theorem d_Big_trim_12 : decode prog_2_method_16_code 12 = .ok (.getfield 13, 3) := by decide +kernel
theorem d_Big_trim_15 : decode prog_2_method_16_code 15 = .ok (.iconst 1, 1) := by decide +kernel
theorem d_Big_trim_16 : decode prog_2_method_16_code 16 = .ok (.isub, 1) := by decide +kernel
theorem d_Big_trim_17 : decode prog_2_method_16_code 17 = .ok (.iaload, 1) := by decide +kernel
theorem d_Big_trim_18 : decode prog_2_method_16_code 18 = .ok (.ifCond .ne 16, 3) := by decide +kernel
theorem d_Big_trim_21 : decode prog_2_method_16_code 21 = .ok (.aload_n 0, 1) := by decide +kernel
theorem d_Big_trim_22 : decode prog_2_method_16_code 22 = .ok (.dup, 1) := by decide +kernel
theorem d_Big_trim_23 : decode prog_2_method_16_code 23 = .ok (.getfield 13, 3) := by decide +kernel
theorem d_Big_trim_26 : decode prog_2_method_16_code 26 = .ok (.iconst 1, 1) := by decide +kernel
theorem d_Big_trim_27 : decode prog_2_method_16_code 27 = .ok (.isub, 1) := by decide +kernel
theorem d_Big_trim_28 : decode prog_2_method_16_code 28 = .ok (.putfield 13, 3) := by decide +kernel
theorem d_Big_trim_31 : decode prog_2_method_16_code 31 = .ok (.goto (-31), 3) := by decide +kernel
theorem d_Big_trim_34 : decode prog_2_method_16_code 34 = .ok (.return_, 1) := by decide +kernel
def f_Big_trim_0 (fu : Nat) (n_v_limbs : Nat) (v_limbs_a : Nat → Int32)  : Nat → Int32 → Option (Int32)
  | 0, _ => none
  | n + 1, v_size =>
  (if v_size ≤ 0 then
  some (v_size)
  else
  if zz_in (v_size - 1) n_v_limbs = true then
  (if (v_limbs_a (v_size - 1).toNatClampNeg) = 0 then
  f_Big_trim_0 fu n_v_limbs v_limbs_a n (v_size - 1)
  else
  some (v_size))
  else none)
theorem f_Big_trim_0_s (fu : Nat) (n_v_limbs : Nat) (v_limbs_a : Nat → Int32)  (n : Nat) (v_size : Int32) : f_Big_trim_0 fu n_v_limbs v_limbs_a (n + 1) v_size =
  (if v_size ≤ 0 then
  some (v_size)
  else
  if zz_in (v_size - 1) n_v_limbs = true then
  (if (v_limbs_a (v_size - 1).toNatClampNeg) = 0 then
  f_Big_trim_0 fu n_v_limbs v_limbs_a n (v_size - 1)
  else
  some (v_size))
  else none) := rfl
def f_Big_trim (fu : Nat) (n_v_limbs : Nat) (v_size : Int32) (v_limbs_a : Nat → Int32) : Option (Int32) :=
  f_Big_trim_0 fu n_v_limbs v_limbs_a fu v_size
set_option maxHeartbeats 4000000 in
set_option maxRecDepth 100000 in
theorem c_Big_trim (l : Launch) (dC : Nat → ClassId) (dI : Nat → Nat → Nat) (cI cC cB cJ : ClassId) (fu : Nat) (sz : Nat) (h_v : Nat) (h_v_limbs : Nat) (n_v_limbs : Nat) (v_size : Int32) (v_limbs_a : Nat → Int32) (u : Int32) (hf : f_Big_trim fu n_v_limbs v_size v_limbs_a = some u) : Met l y_Big_trim ws_Big_trim rm_Big_trim (zz_P zz_T (dC, dI) vwCl (zz_tys cI cC cB cJ) [.ref h_v] [(h_v, .inr (0, [.ref h_v_limbs, .int v_size])), (h_v_limbs, .inl (cI, n_v_limbs, .inl v_limbs_a))] sz) (zz_Qv (dC, dI) vwCl [(h_v, .inr (0, [.ref h_v_limbs, .int u])), (h_v_limbs, .inl (cI, n_v_limbs, .inl v_limbs_a))] (va_A [(h_v, .inr (0, [.ref h_v_limbs, .int v_size])), (h_v_limbs, .inl (cI, n_v_limbs, .inl v_limbs_a))] sz)) 0 0 (va_A [(h_v, .inr (0, [.ref h_v_limbs, .int v_size])), (h_v_limbs, .inl (cI, n_v_limbs, .inl v_limbs_a))] sz) := by
  refine Met.ofW (cc := prog_2_method_16_code) (maxL := 1) (ret := none) (by decide +kernel) rfl ?_
  intro p e s m args below meth c s₁ B hml hv
  obtain ⟨rfl, hsz, hP, hK, hD0, hX⟩ := hv
  have hx := B.exec
  have hb := B.bytes
  have hr := B.returns
  have hts := atoms_spec (ws := ws_Big_trim) B.pre
  have hw : ∀ w ∈ zw, w.before [.ref h_v].toArray s = true := fun w h => hts w (List.mem_cons_of_mem _ h)
  have hown : s.vm.findClass R_Big = some m.cls := findClass_of_methodNamed B.named
  have hlocks := B.notSynchronized
  subst hsz
  have hD := hD0.self (sz := s.heap.size)
  generalize hAe : va_A [(h_v, .inr (0, [.ref h_v_limbs, .int v_size])), (h_v_limbs, .inl (cI, n_v_limbs, .inl v_limbs_a))] s.heap.size = A at hD hX ⊢
  have hA : ∀ q : Nat, s.heap.size ≤ q → A q := fun q h => by rw [← hAe]; exact Or.inr h
  have hS : va_S A s.heap s.heap [] := va_S.rf
  have hl := lv_entry [.ref h_v] (n := 1) (Nat.le_of_ble_eq_true rfl)
  rw [lg_entry_eq]
  generalize (lg_sl [.ref h_v] ++ List.replicate (1 - (lg_sl [.ref h_v]).length) Slot.unset).toArray = ls at hl ⊢
  have hl : lv_has ls 1 [(0, .ref h_v)] := hl
  refine zz_endv hx hb hr hlocks (fun Qq hend => ?_)
  have hL_0 : ∀ (n : Nat), ∀ (v_size : Int32) (ls : Array Slot) (H : Heap) (locs : List Loc), lv_has ls 1 [(0, .ref h_v)] → va_P (dC, dI) vwCl [(h_v, .inr (0, [.ref h_v_limbs, .int v_size])), (h_v_limbs, .inl (cI, n_v_limbs, .inl v_limbs_a))] H → va_D A [(h_v, .inr (0, [.ref h_v_limbs, .int v_size])), (h_v_limbs, .inl (cI, n_v_limbs, .inl v_limbs_a))] → va_S A s.heap H locs → f_Big_trim_0 fu n_v_limbs v_limbs_a n v_size = some u → W p l e (headSpec ws_Big_trim rm_Big_trim).room s m [.ref h_v].toArray below meth c H locs 0 0 Qq (F0 m 0 ls []) := by
    intro n
    induction n with
    | zero =>
      intro v_size ls H locs hl hP hD hS hf
      exact zz_no hf
    | succ n ih =>
      intro v_size ls H locs hl hP hD hS hf
      rw [f_Big_trim_0_s] at hf
      refine lv_aload_n hx hb d_Big_trim_0 rfl (lv_at hl 0 rfl) ?_
      refine va_get (D := (dC, dI)) (ci := 0) (v := .int v_size) (C := R_Big) (T := T_Big) (N := 2) hx hb hw in_Big hown hK hP 0 rfl rfl 1 (by decide) (hw _ wd_91) (fun _ h9 => h9) rfl d_Big_trim_1 ?_
      refine lv_if_le (tgt := 34) hx hb d_Big_trim_4 (by decide) (fun hc => ?_) (fun hc => ?_)
      · have hf := zz_ifp hc hf
        cases hf
        exact hend 34 ls _ _ d_Big_trim_34 hP hD hS
      · have hf := zz_ifn hc hf
        refine lv_aload_n hx hb d_Big_trim_7 rfl (lv_at hl 0 rfl) ?_
        refine va_get (D := (dC, dI)) (ci := 0) (v := .ref h_v_limbs) (C := R_Big) (T := T_Big) (N := 2) hx hb hw in_Big hown hK hP 0 rfl rfl 0 (by decide) (hw _ wd_90) (fun _ h9 => h9) rfl d_Big_trim_8 ?_
        refine lv_aload_n hx hb d_Big_trim_11 rfl (lv_at hl 0 rfl) ?_
        refine va_get (D := (dC, dI)) (ci := 0) (v := .int v_size) (C := R_Big) (T := T_Big) (N := 2) hx hb hw in_Big hown hK hP 0 rfl rfl 1 (by decide) (hw _ wd_91) (fun _ h9 => h9) rfl d_Big_trim_12 ?_
        refine lv_iconst (v := 1) hx hb d_Big_trim_15 (by decide) ?_
        refine lv_isub hx hb d_Big_trim_16 ?_
        obtain ⟨hb_1, hf⟩ := zz_gd hf
        refine va_iald hx hb hK hP 1 0 rfl rfl (zz_vp hb_1) d_Big_trim_17 ?_
        refine lv_if_ne (tgt := 34) hx hb d_Big_trim_18 (by decide) (fun hc => ?_) (fun hc => ?_)
        · have hf := zz_ifn hc hf
          cases hf
          exact hend 34 ls _ _ d_Big_trim_34 hP hD hS
        · have hf := zz_ifp hc hf
          refine lv_aload_n hx hb d_Big_trim_21 rfl (lv_at hl 0 rfl) ?_
          refine lv_dup hx hb d_Big_trim_22 rfl ?_
          refine va_get (D := (dC, dI)) (ci := 0) (v := .int v_size) (C := R_Big) (T := T_Big) (N := 2) hx hb hw in_Big hown hK hP 0 rfl rfl 1 (by decide) (hw _ wd_91) (fun _ h9 => h9) rfl d_Big_trim_23 ?_
          refine lv_iconst (v := 1) hx hb d_Big_trim_26 (by decide) ?_
          refine lv_isub hx hb d_Big_trim_27 ?_
          refine va_put (D := (dC, dI)) (ci := 0) (v := .int (v_size - 1)) (ty := .int) (C := R_Big) (T := T_Big) (N := 2) hx hb hw in_Big ty_Big tyok_Big nm_Big hown hK hP hD hS 0 rfl rfl 1 (by decide) (hw _ wd_91) (fun _ h9 => h9) rfl (tyok_Big 1 (by decide)) rfl rfl (Nat.le_of_ble_eq_true rfl) d_Big_trim_28 (fun H locs hP hD hS => ?_)
          have hP : va_P (dC, dI) vwCl [(h_v, .inr (0, [.ref h_v_limbs, .int (v_size - 1)])), (h_v_limbs, .inl (cI, n_v_limbs, .inl v_limbs_a))] H := hP
          have hD : va_D A [(h_v, .inr (0, [.ref h_v_limbs, .int (v_size - 1)])), (h_v_limbs, .inl (cI, n_v_limbs, .inl v_limbs_a))] := hD
          refine lv_goto (tgt := 0) hx hb d_Big_trim_31 (by decide) ?_
          exact ih (v_size - 1) ls _ _ (lv_sub hl [0] rfl) hP hD hS hf
  unfold f_Big_trim at hf
  exact hL_0 fu v_size ls _ _ (lv_sub hl [0] rfl) hP hD hS hf
abbrev ws_Big_setLimb : List Cond := .code y_Big_setLimb prog_2_method_14_code 4 none :: zw
abbrev rm_Big_setLimb : Room := { frames := 1, cells := 0, slots := 0, locals := 22 }
theorem hd_Big_setLimb : y_Big_setLimb.cls = "RealText$Big" ∧ y_Big_setLimb.cls ≠ "java/lang/invoke/MethodHandle" ∧ y_Big_setLimb.cls ≠ "java/lang/invoke/VarHandle" ∧ (parseMethodDescriptor y_Big_setLimb.desc).map (fun d => d.parameters.length) = some 2 := by decide +kernel
theorem d_Big_setLimb_0 : decode prog_2_method_14_code 0 = .ok (.iload_n 1, 1) := by decide +kernel
theorem d_Big_setLimb_1 : decode prog_2_method_14_code 1 = .ok (.aload_n 0, 1) := by decide +kernel
theorem d_Big_setLimb_2 : decode prog_2_method_14_code 2 = .ok (.getfield 13, 3) := by decide +kernel
theorem d_Big_setLimb_5 : decode prog_2_method_14_code 5 = .ok (.if_icmp .ge 14, 3) := by decide +kernel
theorem d_Big_setLimb_8 : decode prog_2_method_14_code 8 = .ok (.aload_n 0, 1) := by decide +kernel
theorem d_Big_setLimb_9 : decode prog_2_method_14_code 9 = .ok (.getfield 7, 3) := by decide +kernel
theorem d_Big_setLimb_12 : decode prog_2_method_14_code 12 = .ok (.iload_n 1, 1) := by decide +kernel
theorem d_Big_setLimb_13 : decode prog_2_method_14_code 13 = .ok (.lload_n 2, 1) := by decide +kernel
theorem d_Big_setLimb_14 : decode prog_2_method_14_code 14 = .ok (.l2i, 1) := by decide +kernel
theorem d_Big_setLimb_15 : decode prog_2_method_14_code 15 = .ok (.iastore, 1) := by decide +kernel
theorem d_Big_setLimb_16 : decode prog_2_method_14_code 16 = .ok (.goto 8, 3) := by decide +kernel
theorem d_Big_setLimb_19 : decode prog_2_method_14_code 19 = .ok (.aload_n 0, 1) := by decide +kernel
theorem d_Big_setLimb_20 : decode prog_2_method_14_code 20 = .ok (.lload_n 2, 1) := by decide +kernel
theorem d_Big_setLimb_21 : decode prog_2_method_14_code 21 = .ok (.invokevirtual 19, 3) := by decide +kernel
theorem d_Big_setLimb_24 : decode prog_2_method_14_code 24 = .ok (.return_, 1) := by decide +kernel
def f_Big_setLimb (n_v_limbs : Nat) (x1 : Int32) (x2 : Int64) (v_size : Int32) (v_limbs_a : Nat → Int32) : Option (Int32 × (Nat → Int32)) :=
  (if v_size ≤ x1 then
  (f_Big_addLimb n_v_limbs x2 v_size v_limbs_a).bind fun u_1 =>
  some (u_1.1, u_1.2)
  else
  if zz_in x1 n_v_limbs = true then
  some (v_size, upd v_limbs_a x1.toNatClampNeg x2.toInt32)
  else none)
set_option maxHeartbeats 4000000 in
set_option maxRecDepth 100000 in
theorem c_Big_setLimb (l : Launch) (dC : Nat → ClassId) (dI : Nat → Nat → Nat) (cI cC cB cJ : ClassId) (sz : Nat) (h_v : Nat) (h_v_limbs : Nat) (n_v_limbs : Nat) (x1 : Int32) (x2 : Int64) (v_size : Int32) (v_limbs_a : Nat → Int32) (u : Int32 × (Nat → Int32)) (hf : f_Big_setLimb n_v_limbs x1 x2 v_size v_limbs_a = some u) : Met l y_Big_setLimb ws_Big_setLimb rm_Big_setLimb (zz_P zz_T (dC, dI) vwCl (zz_tys cI cC cB cJ) [.ref h_v, .int x1, .long x2] [(h_v, .inr (0, [.ref h_v_limbs, .int v_size])), (h_v_limbs, .inl (cI, n_v_limbs, .inl v_limbs_a))] sz) (zz_Qv (dC, dI) vwCl [(h_v, .inr (0, [.ref h_v_limbs, .int u.1])), (h_v_limbs, .inl (cI, n_v_limbs, .inl u.2))] (va_A [(h_v, .inr (0, [.ref h_v_limbs, .int v_size])), (h_v_limbs, .inl (cI, n_v_limbs, .inl v_limbs_a))] sz)) 0 0 (va_A [(h_v, .inr (0, [.ref h_v_limbs, .int v_size])), (h_v_limbs, .inl (cI, n_v_limbs, .inl v_limbs_a))] sz) := by
  refine Met.ofW (cc := prog_2_method_14_code) (maxL := 4) (ret := none) (by decide +kernel) rfl ?_
  intro p e s m args below meth c s₁ B hml hv
  obtain ⟨rfl, hsz, hP, hK, hD0, hX⟩ := hv
  have hx := B.exec
  have hb := B.bytes
  have hr := B.returns
  have hts := atoms_spec (ws := ws_Big_setLimb) B.pre
  have hw : ∀ w ∈ zw, w.before [.ref h_v, .int x1, .long x2].toArray s = true := fun w h => hts w (List.mem_cons_of_mem _ h)
  have hown : s.vm.findClass R_Big = some m.cls := findClass_of_methodNamed B.named
  have hlocks := B.notSynchronized
  subst hsz
  have hD := hD0.self (sz := s.heap.size)
  generalize hAe : va_A [(h_v, .inr (0, [.ref h_v_limbs, .int v_size])), (h_v_limbs, .inl (cI, n_v_limbs, .inl v_limbs_a))] s.heap.size = A at hD hX ⊢
  have hA : ∀ q : Nat, s.heap.size ≤ q → A q := fun q h => by rw [← hAe]; exact Or.inr h
  have hS : va_S A s.heap s.heap [] := va_S.rf
  have hl := lv_entry [.ref h_v, .int x1, .long x2] (n := 4) (Nat.le_of_ble_eq_true rfl)
  rw [lg_entry_eq]
  generalize (lg_sl [.ref h_v, .int x1, .long x2] ++ List.replicate (4 - (lg_sl [.ref h_v, .int x1, .long x2]).length) Slot.unset).toArray = ls at hl ⊢
  have hl : lv_has ls 4 [(0, .ref h_v), (1, .int x1), (2, .long x2)] := hl
  refine zz_endv hx hb hr hlocks (fun Qq hend => ?_)
  unfold f_Big_setLimb at hf
  refine lv_iload_n hx hb d_Big_setLimb_0 rfl (lv_at hl 1 rfl) ?_
  refine lv_aload_n hx hb d_Big_setLimb_1 rfl (lv_at hl 0 rfl) ?_
  refine va_get (D := (dC, dI)) (ci := 0) (v := .int v_size) (C := R_Big) (T := T_Big) (N := 2) hx hb hw in_Big hown hK hP 0 rfl rfl 1 (by decide) (hw _ wd_91) (fun _ h9 => h9) rfl d_Big_setLimb_2 ?_
  refine lv_icmp_ge (tgt := 19) hx hb d_Big_setLimb_5 (by decide) (fun hc => ?_) (fun hc => ?_)
  · have hf := zz_ifp hc hf
    refine lv_aload_n hx hb d_Big_setLimb_19 rfl (lv_at hl 0 rfl) ?_
    refine lv_lload_n hx hb d_Big_setLimb_20 rfl (lv_at hl 2 rfl) ?_
    obtain ⟨u_1, hu_1, hf⟩ := zz_bd hf
    refine zz_cv (ws' := [(h_v, .inr (0, [.ref h_v_limbs, .int u_1.1])), (h_v_limbs, .inl (cI, n_v_limbs, .inl u_1.2))]) (wc := [(h_v, .inr (0, [.ref h_v_limbs, .int v_size])), (h_v_limbs, .inl (cI, n_v_limbs, .inl v_limbs_a))]) (w' := [(h_v, .inr (0, [.ref h_v_limbs, .int u_1.1])), (h_v_limbs, .inl (cI, n_v_limbs, .inl u_1.2))]) hP hD hS hA [0, 1] [] [0, 1] rfl rfl (by decide) (by decide) rfl (by decide) (va_runV (As := [.long x2]) (rest := []) ⟨hx, hb, hml, hown, hw⟩ (c_Big_addLimb l dC dI cI cC cB cJ _ h_v h_v_limbs n_v_limbs x2 v_size v_limbs_a u_1 hu_1) (cwV 1 hw (zg_V wd_327 wd_329 we_0_4 wd_5 wd_330) rfl rfl rfl hd_Big_addLimb ⟨Nat.le_of_ble_eq_true rfl, Nat.le_of_ble_eq_true rfl⟩) (zz_preV zz_TE (va_recv (q0 := 0) (ci := 0) hK hP rfl rfl) hP hD hK hS hA trivial [0, 1] rfl (by decide)) rfl rfl hl.1 rfl (lv_room (Nat.le_of_ble_eq_true rfl)) d_Big_setLimb_21 ⟨Nat.zero_le _, Nat.zero_le _⟩) (fun H locs hP hD hS => ?_)
    cases hf
    exact hend 24 ls _ _ d_Big_setLimb_24 hP hD hS
  · have hf := zz_ifn hc hf
    refine lv_aload_n hx hb d_Big_setLimb_8 rfl (lv_at hl 0 rfl) ?_
    refine va_get (D := (dC, dI)) (ci := 0) (v := .ref h_v_limbs) (C := R_Big) (T := T_Big) (N := 2) hx hb hw in_Big hown hK hP 0 rfl rfl 0 (by decide) (hw _ wd_90) (fun _ h9 => h9) rfl d_Big_setLimb_9 ?_
    refine lv_iload_n hx hb d_Big_setLimb_12 rfl (lv_at hl 1 rfl) ?_
    refine lv_lload_n hx hb d_Big_setLimb_13 rfl (lv_at hl 2 rfl) ?_
    refine lv_l2i hx hb d_Big_setLimb_14 rfl ?_
    obtain ⟨hb_2, hf⟩ := zz_gd hf
    refine va_iast hx hb hK hP hD hS 1 0 rfl rfl (zz_vp hb_2) d_Big_setLimb_15 (fun H locs hP hD hS => ?_)
    have hP : va_P (dC, dI) vwCl [(h_v, .inr (0, [.ref h_v_limbs, .int v_size])), (h_v_limbs, .inl (cI, n_v_limbs, .inl (upd v_limbs_a x1.toNatClampNeg x2.toInt32)))] H := hP
    have hD : va_D A [(h_v, .inr (0, [.ref h_v_limbs, .int v_size])), (h_v_limbs, .inl (cI, n_v_limbs, .inl (upd v_limbs_a x1.toNatClampNeg x2.toInt32)))] := hD
    refine lv_goto (tgt := 24) hx hb d_Big_setLimb_16 (by decide) ?_
    cases hf
    exact hend 24 ls _ _ d_Big_setLimb_24 hP hD hS
abbrev ws_Big_set : List Cond := .code y_Big_set prog_2_method_2_code 3 none :: zw
abbrev rm_Big_set : Room := { frames := 1, cells := 0, slots := 0, locals := 22 }
theorem hd_Big_set : y_Big_set.cls = "RealText$Big" ∧ y_Big_set.cls ≠ "java/lang/invoke/MethodHandle" ∧ y_Big_set.cls ≠ "java/lang/invoke/VarHandle" ∧ (parseMethodDescriptor y_Big_set.desc).map (fun d => d.parameters.length) = some 1 := by decide +kernel
theorem d_Big_set_0 : decode prog_2_method_2_code 0 = .ok (.aload_n 0, 1) := by decide +kernel
theorem d_Big_set_1 : decode prog_2_method_2_code 1 = .ok (.iconst 0, 1) := by decide +kernel
theorem d_Big_set_2 : decode prog_2_method_2_code 2 = .ok (.putfield 13, 3) := by decide +kernel
theorem d_Big_set_5 : decode prog_2_method_2_code 5 = .ok (.aload_n 0, 1) := by decide +kernel
theorem d_Big_set_6 : decode prog_2_method_2_code 6 = .ok (.lload_n 1, 1) := by decide +kernel
theorem d_Big_set_7 : decode prog_2_method_2_code 7 = .ok (.ldc2_w 17, 3) := by decide +kernel
theorem d_Big_set_10 : decode prog_2_method_2_code 10 = .ok (.land, 1) := by decide +kernel
theorem d_Big_set_11 : decode prog_2_method_2_code 11 = .ok (.invokevirtual 19, 3) := by decide +kernel
theorem d_Big_set_14 : decode prog_2_method_2_code 14 = .ok (.aload_n 0, 1) := by decide +kernel
theorem d_Big_set_15 : decode prog_2_method_2_code 15 = .ok (.lload_n 1, 1) := by decide +kernel
theorem d_Big_set_16 : decode prog_2_method_2_code 16 = .ok (.bipush 32, 2) := by decide +kernel
theorem d_Big_set_18 : decode prog_2_method_2_code 18 = .ok (.lushr, 1) := by decide +kernel
theorem d_Big_set_19 : decode prog_2_method_2_code 19 = .ok (.invokevirtual 19, 3) := by decide +kernel
theorem d_Big_set_22 : decode prog_2_method_2_code 22 = .ok (.aload_n 0, 1) := by decide +kernel
theorem d_Big_set_23 : decode prog_2_method_2_code 23 = .ok (.invokevirtual 23, 3) := by decide +kernel
theorem d_Big_set_26 : decode prog_2_method_2_code 26 = .ok (.return_, 1) := by decide +kernel
def f_Big_set (fu : Nat) (n_v_limbs : Nat) (x1 : Int64) (v_size : Int32) (v_limbs_a : Nat → Int32) : Option (Int32 × (Nat → Int32)) :=
  (f_Big_addLimb n_v_limbs (x1 &&& 4294967295) 0 v_limbs_a).bind fun u_1 =>
  (f_Big_addLimb n_v_limbs ((x1.toUInt64 >>> ((32 : Int32).toInt64.toUInt64 &&& Int64.toUInt64 63)).toInt64) u_1.1 u_1.2).bind fun u_2 =>
  (f_Big_trim fu n_v_limbs u_2.1 u_2.2).bind fun u_3 =>
  some (u_3, u_2.2)
set_option maxHeartbeats 4000000 in
set_option maxRecDepth 100000 in
theorem c_Big_set (l : Launch) (dC : Nat → ClassId) (dI : Nat → Nat → Nat) (cI cC cB cJ : ClassId) (fu : Nat) (sz : Nat) (h_v : Nat) (h_v_limbs : Nat) (n_v_limbs : Nat) (x1 : Int64) (v_size : Int32) (v_limbs_a : Nat → Int32) (u : Int32 × (Nat → Int32)) (hf : f_Big_set fu n_v_limbs x1 v_size v_limbs_a = some u) : Met l y_Big_set ws_Big_set rm_Big_set (zz_P zz_T (dC, dI) vwCl (zz_tys cI cC cB cJ) [.ref h_v, .long x1] [(h_v, .inr (0, [.ref h_v_limbs, .int v_size])), (h_v_limbs, .inl (cI, n_v_limbs, .inl v_limbs_a))] sz) (zz_Qv (dC, dI) vwCl [(h_v, .inr (0, [.ref h_v_limbs, .int u.1])), (h_v_limbs, .inl (cI, n_v_limbs, .inl u.2))] (va_A [(h_v, .inr (0, [.ref h_v_limbs, .int v_size])), (h_v_limbs, .inl (cI, n_v_limbs, .inl v_limbs_a))] sz)) 0 0 (va_A [(h_v, .inr (0, [.ref h_v_limbs, .int v_size])), (h_v_limbs, .inl (cI, n_v_limbs, .inl v_limbs_a))] sz) := by
  refine Met.ofW (cc := prog_2_method_2_code) (maxL := 3) (ret := none) (by decide +kernel) rfl ?_
  intro p e s m args below meth c s₁ B hml hv
  obtain ⟨rfl, hsz, hP, hK, hD0, hX⟩ := hv
  have hx := B.exec
  have hb := B.bytes
  have hr := B.returns
  have hts := atoms_spec (ws := ws_Big_set) B.pre
  have hw : ∀ w ∈ zw, w.before [.ref h_v, .long x1].toArray s = true := fun w h => hts w (List.mem_cons_of_mem _ h)
  have hown : s.vm.findClass R_Big = some m.cls := findClass_of_methodNamed B.named
  have hlocks := B.notSynchronized
  subst hsz
  have hD := hD0.self (sz := s.heap.size)
  generalize hAe : va_A [(h_v, .inr (0, [.ref h_v_limbs, .int v_size])), (h_v_limbs, .inl (cI, n_v_limbs, .inl v_limbs_a))] s.heap.size = A at hD hX ⊢
  have hA : ∀ q : Nat, s.heap.size ≤ q → A q := fun q h => by rw [← hAe]; exact Or.inr h
  have hS : va_S A s.heap s.heap [] := va_S.rf
  have hl := lv_entry [.ref h_v, .long x1] (n := 3) (Nat.le_of_ble_eq_true rfl)
  rw [lg_entry_eq]
  generalize (lg_sl [.ref h_v, .long x1] ++ List.replicate (3 - (lg_sl [.ref h_v, .long x1]).length) Slot.unset).toArray = ls at hl ⊢
  have hl : lv_has ls 3 [(0, .ref h_v), (1, .long x1)] := hl
  refine zz_endv hx hb hr hlocks (fun Qq hend => ?_)
  unfold f_Big_set at hf
  refine lv_aload_n hx hb d_Big_set_0 rfl (lv_at hl 0 rfl) ?_
  refine lv_iconst (v := 0) hx hb d_Big_set_1 (by decide) ?_
  refine va_put (D := (dC, dI)) (ci := 0) (v := .int 0) (ty := .int) (C := R_Big) (T := T_Big) (N := 2) hx hb hw in_Big ty_Big tyok_Big nm_Big hown hK hP hD hS 0 rfl rfl 1 (by decide) (hw _ wd_91) (fun _ h9 => h9) rfl (tyok_Big 1 (by decide)) rfl rfl (Nat.le_of_ble_eq_true rfl) d_Big_set_2 (fun H locs hP hD hS => ?_)
  have hP : va_P (dC, dI) vwCl [(h_v, .inr (0, [.ref h_v_limbs, .int 0])), (h_v_limbs, .inl (cI, n_v_limbs, .inl v_limbs_a))] H := hP
  have hD : va_D A [(h_v, .inr (0, [.ref h_v_limbs, .int 0])), (h_v_limbs, .inl (cI, n_v_limbs, .inl v_limbs_a))] := hD
  refine lv_aload_n hx hb d_Big_set_5 rfl (lv_at hl 0 rfl) ?_
  refine lv_lload_n hx hb d_Big_set_6 rfl (lv_at hl 1 rfl) ?_
  refine lv_ldc2 (v := 4294967295) hx hb hown (hw _ wd_326) d_Big_set_7 ?_
  refine lv_land hx hb d_Big_set_10 ?_
  obtain ⟨u_1, hu_1, hf⟩ := zz_bd hf
  refine zz_cv (ws' := [(h_v, .inr (0, [.ref h_v_limbs, .int u_1.1])), (h_v_limbs, .inl (cI, n_v_limbs, .inl u_1.2))]) (wc := [(h_v, .inr (0, [.ref h_v_limbs, .int 0])), (h_v_limbs, .inl (cI, n_v_limbs, .inl v_limbs_a))]) (w' := [(h_v, .inr (0, [.ref h_v_limbs, .int u_1.1])), (h_v_limbs, .inl (cI, n_v_limbs, .inl u_1.2))]) hP hD hS hA [0, 1] [] [0, 1] rfl rfl (by decide) (by decide) rfl (by decide) (va_runV (As := [.long (x1 &&& 4294967295)]) (rest := []) ⟨hx, hb, hml, hown, hw⟩ (c_Big_addLimb l dC dI cI cC cB cJ _ h_v h_v_limbs n_v_limbs (x1 &&& 4294967295) 0 v_limbs_a u_1 hu_1) (cwV 1 hw (zg_V wd_327 wd_329 we_0_4 wd_5 wd_330) rfl rfl rfl hd_Big_addLimb ⟨Nat.le_of_ble_eq_true rfl, Nat.le_of_ble_eq_true rfl⟩) (zz_preV zz_TE (va_recv (q0 := 0) (ci := 0) hK hP rfl rfl) hP hD hK hS hA trivial [0, 1] rfl (by decide)) rfl rfl hl.1 rfl (lv_room (Nat.le_of_ble_eq_true rfl)) d_Big_set_11 ⟨Nat.zero_le _, Nat.zero_le _⟩) (fun H locs hP hD hS => ?_)
  refine lv_aload_n hx hb d_Big_set_14 rfl (lv_at hl 0 rfl) ?_
  refine lv_lload_n hx hb d_Big_set_15 rfl (lv_at hl 1 rfl) ?_
  refine lv_bipush (v := 32) hx hb d_Big_set_16 (by decide) ?_
  refine lv_lushr hx hb d_Big_set_18 rfl ?_
  obtain ⟨u_2, hu_2, hf⟩ := zz_bd hf
  refine zz_cv (ws' := [(h_v, .inr (0, [.ref h_v_limbs, .int u_2.1])), (h_v_limbs, .inl (cI, n_v_limbs, .inl u_2.2))]) (wc := [(h_v, .inr (0, [.ref h_v_limbs, .int u_1.1])), (h_v_limbs, .inl (cI, n_v_limbs, .inl u_1.2))]) (w' := [(h_v, .inr (0, [.ref h_v_limbs, .int u_2.1])), (h_v_limbs, .inl (cI, n_v_limbs, .inl u_2.2))]) hP hD hS hA [0, 1] [] [0, 1] rfl rfl (by decide) (by decide) rfl (by decide) (va_runV (As := [.long ((x1.toUInt64 >>> ((32 : Int32).toInt64.toUInt64 &&& Int64.toUInt64 63)).toInt64)]) (rest := []) ⟨hx, hb, hml, hown, hw⟩ (c_Big_addLimb l dC dI cI cC cB cJ _ h_v h_v_limbs n_v_limbs ((x1.toUInt64 >>> ((32 : Int32).toInt64.toUInt64 &&& Int64.toUInt64 63)).toInt64) u_1.1 u_1.2 u_2 hu_2) (cwV 1 hw (zg_V wd_327 wd_329 we_0_4 wd_5 wd_330) rfl rfl rfl hd_Big_addLimb ⟨Nat.le_of_ble_eq_true rfl, Nat.le_of_ble_eq_true rfl⟩) (zz_preV zz_TE (va_recv (q0 := 0) (ci := 0) hK hP rfl rfl) hP hD hK hS hA trivial [0, 1] rfl (by decide)) rfl rfl hl.1 rfl (lv_room (Nat.le_of_ble_eq_true rfl)) d_Big_set_19 ⟨Nat.zero_le _, Nat.zero_le _⟩) (fun H locs hP hD hS => ?_)
  refine lv_aload_n hx hb d_Big_set_22 rfl (lv_at hl 0 rfl) ?_
  obtain ⟨u_3, hu_3, hf⟩ := zz_bd hf
  refine zz_cv (ws' := [(h_v, .inr (0, [.ref h_v_limbs, .int u_3])), (h_v_limbs, .inl (cI, n_v_limbs, .inl u_2.2))]) (wc := [(h_v, .inr (0, [.ref h_v_limbs, .int u_2.1])), (h_v_limbs, .inl (cI, n_v_limbs, .inl u_2.2))]) (w' := [(h_v, .inr (0, [.ref h_v_limbs, .int u_3])), (h_v_limbs, .inl (cI, n_v_limbs, .inl u_2.2))]) hP hD hS hA [0, 1] [] [0, 1] rfl rfl (by decide) (by decide) rfl (by decide) (va_runV (As := []) (rest := []) ⟨hx, hb, hml, hown, hw⟩ (c_Big_trim l dC dI cI cC cB cJ fu _ h_v h_v_limbs n_v_limbs u_2.1 u_2.2 u_3 hu_3) (cwV 0 hw (zg_V wd_331 wd_333 we_0_5 wd_5 wd_334) rfl rfl rfl hd_Big_trim ⟨Nat.le_of_ble_eq_true rfl, Nat.le_of_ble_eq_true rfl⟩) (zz_preV zz_TE (va_recv (q0 := 0) (ci := 0) hK hP rfl rfl) hP hD hK hS hA trivial [0, 1] rfl (by decide)) rfl rfl hl.1 rfl (lv_room (Nat.le_of_ble_eq_true rfl)) d_Big_set_23 ⟨Nat.zero_le _, Nat.zero_le _⟩) (fun H locs hP hD hS => ?_)
  cases hf
  exact hend 26 ls _ _ d_Big_set_26 hP hD hS
abbrev ws_Big_isZero : List Cond := .code y_Big_isZero prog_2_method_4_code 1 (some .boolean) :: zw
abbrev rm_Big_isZero : Room := { frames := 0, cells := 0, slots := 0, locals := 0 }
theorem hd_Big_isZero : y_Big_isZero.cls = "RealText$Big" ∧ y_Big_isZero.cls ≠ "java/lang/invoke/MethodHandle" ∧ y_Big_isZero.cls ≠ "java/lang/invoke/VarHandle" ∧ (parseMethodDescriptor y_Big_isZero.desc).map (fun d => d.parameters.length) = some 0 := by decide +kernel
theorem d_Big_isZero_0 : decode prog_2_method_4_code 0 = .ok (.aload_n 0, 1) := by decide +kernel
theorem d_Big_isZero_1 : decode prog_2_method_4_code 1 = .ok (.getfield 13, 3) := by decide +kernel
theorem d_Big_isZero_4 : decode prog_2_method_4_code 4 = .ok (.ifCond .ne 7, 3) := by decide +kernel
theorem d_Big_isZero_7 : decode prog_2_method_4_code 7 = .ok (.iconst 1, 1) := by decide +kernel
theorem d_Big_isZero_8 : decode prog_2_method_4_code 8 = .ok (.goto 4, 3) := by decide +kernel
theorem d_Big_isZero_11 : decode prog_2_method_4_code 11 = .ok (.iconst 0, 1) := by decide +kernel
theorem d_Big_isZero_12 : decode prog_2_method_4_code 12 = .ok (.ireturn, 1) := by decide +kernel
def f_Big_isZero (v_size : Int32) : Option (Int32) :=
  (if v_size = 0 then
  some (1)
  else
  some (0))
set_option maxHeartbeats 4000000 in
set_option maxRecDepth 100000 in
theorem c_Big_isZero (l : Launch) (dC : Nat → ClassId) (dI : Nat → Nat → Nat) (cI cC cB cJ : ClassId) (sz : Nat) (h_v : Nat) (h_v_limbs : Nat) (v_size : Int32) (u : Int32) (hf : f_Big_isZero v_size = some u) : Met l y_Big_isZero ws_Big_isZero rm_Big_isZero (zz_P zz_T (dC, dI) vwCl (zz_tys cI cC cB cJ) [.ref h_v] [(h_v, .inr (0, [.ref h_v_limbs, .int v_size]))] sz) (zz_Qi (dC, dI) vwCl u [(h_v, .inr (0, [.ref h_v_limbs, .int v_size]))] (va_A [(h_v, .inr (0, [.ref h_v_limbs, .int v_size]))] sz)) 0 0 (va_A [(h_v, .inr (0, [.ref h_v_limbs, .int v_size]))] sz) := by
  refine Met.ofW (cc := prog_2_method_4_code) (maxL := 1) (ret := (some .boolean)) (by decide +kernel) rfl ?_
  intro p e s m args below meth c s₁ B hml hv
  obtain ⟨rfl, hsz, hP, hK, hD0, hX⟩ := hv
  have hx := B.exec
  have hb := B.bytes
  have hr := B.returns
  have hts := atoms_spec (ws := ws_Big_isZero) B.pre
  have hw : ∀ w ∈ zw, w.before [.ref h_v].toArray s = true := fun w h => hts w (List.mem_cons_of_mem _ h)
  have hown : s.vm.findClass R_Big = some m.cls := findClass_of_methodNamed B.named
  have hlocks := B.notSynchronized
  subst hsz
  have hD := hD0.self (sz := s.heap.size)
  generalize hAe : va_A [(h_v, .inr (0, [.ref h_v_limbs, .int v_size]))] s.heap.size = A at hD hX ⊢
  have hA : ∀ q : Nat, s.heap.size ≤ q → A q := fun q h => by rw [← hAe]; exact Or.inr h
  have hS : va_S A s.heap s.heap [] := va_S.rf
  have hl := lv_entry [.ref h_v] (n := 1) (Nat.le_of_ble_eq_true rfl)
  rw [lg_entry_eq]
  generalize (lg_sl [.ref h_v] ++ List.replicate (1 - (lg_sl [.ref h_v]).length) Slot.unset).toArray = ls at hl ⊢
  have hl : lv_has ls 1 [(0, .ref h_v)] := hl
  refine zz_endz hx hb hr hlocks (fun Qq hend => ?_)
  unfold f_Big_isZero at hf
  refine lv_aload_n hx hb d_Big_isZero_0 rfl (lv_at hl 0 rfl) ?_
  refine va_get (D := (dC, dI)) (ci := 0) (v := .int v_size) (C := R_Big) (T := T_Big) (N := 2) hx hb hw in_Big hown hK hP 0 rfl rfl 1 (by decide) (hw _ wd_91) (fun _ h9 => h9) rfl d_Big_isZero_1 ?_
  refine lv_if_ne (tgt := 11) hx hb d_Big_isZero_4 (by decide) (fun hc => ?_) (fun hc => ?_)
  · have hf := zz_ifn hc hf
    refine lv_iconst (v := 0) hx hb d_Big_isZero_11 (by decide) ?_
    cases hf
    exact hend 12 ls _ _ narrow_b0 d_Big_isZero_12 hP hD hS
  · have hf := zz_ifp hc hf
    refine lv_iconst (v := 1) hx hb d_Big_isZero_7 (by decide) ?_
    refine lv_goto (tgt := 12) hx hb d_Big_isZero_8 (by decide) ?_
    cases hf
    exact hend 12 ls _ _ narrow_b1 d_Big_isZero_12 hP hD hS
abbrev ws_Big_bitLength : List Cond := .code y_Big_bitLength prog_2_method_5_code 4 (some .int) :: zw
abbrev rm_Big_bitLength : Room := { frames := 1, cells := 0, slots := 0, locals := 21 }
theorem hd_Big_bitLength : y_Big_bitLength.cls = "RealText$Big" ∧ y_Big_bitLength.cls ≠ "java/lang/invoke/MethodHandle" ∧ y_Big_bitLength.cls ≠ "java/lang/invoke/VarHandle" ∧ (parseMethodDescriptor y_Big_bitLength.desc).map (fun d => d.parameters.length) = some 0 := by decide +kernel
theorem d_Big_bitLength_0 : decode prog_2_method_5_code 0 = .ok (.aload_n 0, 1) := by decide +kernel
theorem d_Big_bitLength_1 : decode prog_2_method_5_code 1 = .ok (.getfield 13, 3) := by decide +kernel
theorem d_Big_bitLength_4 : decode prog_2_method_5_code 4 = .ok (.ifCond .ne 5, 3) := by decide +kernel
theorem d_Big_bitLength_7 : decode prog_2_method_5_code 7 = .ok (.iconst 0, 1) := by decide +kernel
theorem d_Big_bitLength_8 : decode prog_2_method_5_code 8 = .ok (.ireturn, 1) := by decide +kernel
theorem d_Big_bitLength_9 : decode prog_2_method_5_code 9 = .ok (.aload_n 0, 1) := by decide +kernel
theorem d_Big_bitLength_10 : decode prog_2_method_5_code 10 = .ok (.aload_n 0, 1) := by decide +kernel
theorem d_Big_bitLength_11 : decode prog_2_method_5_code 11 = .ok (.getfield 13, 3) := by decide +kernel
theorem d_Big_bitLength_14 : decode prog_2_method_5_code 14 = .ok (.iconst 1, 1) := by decide +kernel
theorem d_Big_bitLength_15 : decode prog_2_method_5_code 15 = .ok (.isub, 1) := by decide +kernel
theorem d_Big_bitLength_16 : decode prog_2_method_5_code 16 = .ok (.invokevirtual 38, 3) := by decide +kernel
theorem d_Big_bitLength_19 : decode prog_2_method_5_code 19 = .ok (.lstore_n 1, 1) := by decide +kernel
theorem d_Big_bitLength_20 : decode prog_2_method_5_code 20 = .ok (.iconst 1, 1) := by decide +kernel
theorem d_Big_bitLength_21 : decode prog_2_method_5_code 21 = .ok (.istore_n 3, 1) := by decide +kernel
theorem d_Big_bitLength_22 : decode prog_2_method_5_code 22 = .ok (.iload_n 3, 1) := by decide +kernel
theorem d_Big_bitLength_23 : decode prog_2_method_5_code 23 = .ok (.bipush 32, 2) := by decide +kernel
theorem d_Big_bitLength_25 : decode prog_2_method_5_code 25 = .ok (.if_icmp .ge 17, 3) := by decide +kernel
theorem d_Big_bitLength_28 : decode prog_2_method_5_code 28 = .ok (.lload_n 1, 1) := by decide +kernel
theorem d_Big_bitLength_29 : decode prog_2_method_5_code 29 = .ok (.iload_n 3, 1) := by decide +kernel
theorem d_Big_bitLength_30 : decode prog_2_method_5_code 30 = .ok (.lushr, 1) := by decide +kernel
theorem d_Big_bitLength_31 : decode prog_2_method_5_code 31 = .ok (.lconst 0, 1) := by decide +kernel
theorem d_Big_bitLength_32 : decode prog_2_method_5_code 32 = .ok (.lcmp, 1) := by decide +kernel
theorem d_Big_bitLength_33 : decode prog_2_method_5_code 33 = .ok (.ifCond .eq 9, 3) := by decide +kernel
theorem d_Big_bitLength_36 : decode prog_2_method_5_code 36 = .ok (.iinc 3 1, 3) := by decide +kernel
theorem d_Big_bitLength_39 : decode prog_2_method_5_code 39 = .ok (.goto (-17), 3) := by decide +kernel
theorem d_Big_bitLength_42 : decode prog_2_method_5_code 42 = .ok (.aload_n 0, 1) := by decide +kernel
theorem d_Big_bitLength_43 : decode prog_2_method_5_code 43 = .ok (.getfield 13, 3) := by decide +kernel
theorem d_Big_bitLength_46 : decode prog_2_method_5_code 46 = .ok (.iconst 1, 1) := by decide +kernel
theorem d_Big_bitLength_47 : decode prog_2_method_5_code 47 = .ok (.isub, 1) := by decide +kernel
theorem d_Big_bitLength_48 : decode prog_2_method_5_code 48 = .ok (.bipush 32, 2) := by decide +kernel
theorem d_Big_bitLength_50 : decode prog_2_method_5_code 50 = .ok (.imul, 1) := by decide +kernel
theorem d_Big_bitLength_51 : decode prog_2_method_5_code 51 = .ok (.iload_n 3, 1) := by decide +kernel
theorem d_Big_bitLength_52 : decode prog_2_method_5_code 52 = .ok (.iadd, 1) := by decide +kernel
theorem d_Big_bitLength_53 : decode prog_2_method_5_code 53 = .ok (.ireturn, 1) := by decide +kernel
def f_Big_bitLength_42 (fu : Nat) (n_v_limbs : Nat) (v_size : Int32) (v_limbs_a : Nat → Int32)  (y3 : Int32) : Option (Int32) :=
  some (((v_size - 1) * 32) + y3)
def f_Big_bitLength_22 (fu : Nat) (n_v_limbs : Nat) (v_size : Int32) (v_limbs_a : Nat → Int32)  : Nat → Int64 → Int32 → Option (Int32)
  | 0, _, _ => none
  | n + 1, y1, y3 =>
  (if 32 ≤ y3 then
  f_Big_bitLength_42 fu n_v_limbs v_size v_limbs_a y3
  else
  (if (lg_cmp ((y1.toUInt64 >>> (y3.toInt64.toUInt64 &&& Int64.toUInt64 63)).toInt64) 0) = 0 then
  f_Big_bitLength_42 fu n_v_limbs v_size v_limbs_a y3
  else
  f_Big_bitLength_22 fu n_v_limbs v_size v_limbs_a n y1 (y3 + 1)))
theorem f_Big_bitLength_22_s (fu : Nat) (n_v_limbs : Nat) (v_size : Int32) (v_limbs_a : Nat → Int32)  (n : Nat) (y1 : Int64) (y3 : Int32) : f_Big_bitLength_22 fu n_v_limbs v_size v_limbs_a (n + 1) y1 y3 =
  (if 32 ≤ y3 then
  f_Big_bitLength_42 fu n_v_limbs v_size v_limbs_a y3
  else
  (if (lg_cmp ((y1.toUInt64 >>> (y3.toInt64.toUInt64 &&& Int64.toUInt64 63)).toInt64) 0) = 0 then
  f_Big_bitLength_42 fu n_v_limbs v_size v_limbs_a y3
  else
  f_Big_bitLength_22 fu n_v_limbs v_size v_limbs_a n y1 (y3 + 1))) := rfl
def f_Big_bitLength (fu : Nat) (n_v_limbs : Nat) (v_size : Int32) (v_limbs_a : Nat → Int32) : Option (Int32) :=
  (if v_size = 0 then
  some (0)
  else
  (f_Big_limbAt n_v_limbs (v_size - 1) v_size v_limbs_a).bind fun u_1 =>
  f_Big_bitLength_22 fu n_v_limbs v_size v_limbs_a fu u_1 1)
set_option maxHeartbeats 4000000 in
set_option maxRecDepth 100000 in
theorem c_Big_bitLength (l : Launch) (dC : Nat → ClassId) (dI : Nat → Nat → Nat) (cI cC cB cJ : ClassId) (fu : Nat) (sz : Nat) (h_v : Nat) (h_v_limbs : Nat) (n_v_limbs : Nat) (v_size : Int32) (v_limbs_a : Nat → Int32) (u : Int32) (hf : f_Big_bitLength fu n_v_limbs v_size v_limbs_a = some u) : Met l y_Big_bitLength ws_Big_bitLength rm_Big_bitLength (zz_P zz_T (dC, dI) vwCl (zz_tys cI cC cB cJ) [.ref h_v] [(h_v, .inr (0, [.ref h_v_limbs, .int v_size])), (h_v_limbs, .inl (cI, n_v_limbs, .inl v_limbs_a))] sz) (zz_Qi (dC, dI) vwCl u [(h_v, .inr (0, [.ref h_v_limbs, .int v_size])), (h_v_limbs, .inl (cI, n_v_limbs, .inl v_limbs_a))] (va_A [(h_v, .inr (0, [.ref h_v_limbs, .int v_size])), (h_v_limbs, .inl (cI, n_v_limbs, .inl v_limbs_a))] sz)) 0 0 (va_A [(h_v, .inr (0, [.ref h_v_limbs, .int v_size])), (h_v_limbs, .inl (cI, n_v_limbs, .inl v_limbs_a))] sz) := by
  refine Met.ofW (cc := prog_2_method_5_code) (maxL := 4) (ret := (some .int)) (by decide +kernel) rfl ?_
  intro p e s m args below meth c s₁ B hml hv
  obtain ⟨rfl, hsz, hP, hK, hD0, hX⟩ := hv
  have hx := B.exec
  have hb := B.bytes
  have hr := B.returns
  have hts := atoms_spec (ws := ws_Big_bitLength) B.pre
  have hw : ∀ w ∈ zw, w.before [.ref h_v].toArray s = true := fun w h => hts w (List.mem_cons_of_mem _ h)
  have hown : s.vm.findClass R_Big = some m.cls := findClass_of_methodNamed B.named
  have hlocks := B.notSynchronized
  subst hsz
  have hD := hD0.self (sz := s.heap.size)
  generalize hAe : va_A [(h_v, .inr (0, [.ref h_v_limbs, .int v_size])), (h_v_limbs, .inl (cI, n_v_limbs, .inl v_limbs_a))] s.heap.size = A at hD hX ⊢
  have hA : ∀ q : Nat, s.heap.size ≤ q → A q := fun q h => by rw [← hAe]; exact Or.inr h
  have hS : va_S A s.heap s.heap [] := va_S.rf
  have hl := lv_entry [.ref h_v] (n := 4) (Nat.le_of_ble_eq_true rfl)
  rw [lg_entry_eq]
  generalize (lg_sl [.ref h_v] ++ List.replicate (4 - (lg_sl [.ref h_v]).length) Slot.unset).toArray = ls at hl ⊢
  have hl : lv_has ls 4 [(0, .ref h_v)] := hl
  refine zz_endi hx hb hr hlocks (fun Qq hend => ?_)
  have hL_42 : ∀ (y3 : Int32) (ls : Array Slot) (H : Heap) (locs : List Loc), lv_has ls 4 [(0, .ref h_v), (3, .int y3)] → va_P (dC, dI) vwCl [(h_v, .inr (0, [.ref h_v_limbs, .int v_size])), (h_v_limbs, .inl (cI, n_v_limbs, .inl v_limbs_a))] H → va_D A [(h_v, .inr (0, [.ref h_v_limbs, .int v_size])), (h_v_limbs, .inl (cI, n_v_limbs, .inl v_limbs_a))] → va_S A s.heap H locs → f_Big_bitLength_42 fu n_v_limbs v_size v_limbs_a y3 = some u → W p l e (headSpec ws_Big_bitLength rm_Big_bitLength).room s m [.ref h_v].toArray below meth c H locs 0 0 Qq (F0 m 42 ls []) := by
    intro y3 ls H locs hl hP hD hS hf
    unfold f_Big_bitLength_42 at hf
    refine lv_aload_n hx hb d_Big_bitLength_42 rfl (lv_at hl 0 rfl) ?_
    refine va_get (D := (dC, dI)) (ci := 0) (v := .int v_size) (C := R_Big) (T := T_Big) (N := 2) hx hb hw in_Big hown hK hP 0 rfl rfl 1 (by decide) (hw _ wd_91) (fun _ h9 => h9) rfl d_Big_bitLength_43 ?_
    refine lv_iconst (v := 1) hx hb d_Big_bitLength_46 (by decide) ?_
    refine lv_isub hx hb d_Big_bitLength_47 ?_
    refine lv_bipush (v := 32) hx hb d_Big_bitLength_48 (by decide) ?_
    refine lv_imul hx hb d_Big_bitLength_50 ?_
    refine lv_iload_n hx hb d_Big_bitLength_51 rfl (lv_at hl 1 rfl) ?_
    refine lv_iadd hx hb d_Big_bitLength_52 ?_
    cases hf
    exact hend 53 ls _ _ d_Big_bitLength_53 hP hD hS
  have hL_22 : ∀ (n : Nat), ∀ (y1 : Int64) (y3 : Int32) (ls : Array Slot) (H : Heap) (locs : List Loc), lv_has ls 4 [(0, .ref h_v), (1, .long y1), (3, .int y3)] → va_P (dC, dI) vwCl [(h_v, .inr (0, [.ref h_v_limbs, .int v_size])), (h_v_limbs, .inl (cI, n_v_limbs, .inl v_limbs_a))] H → va_D A [(h_v, .inr (0, [.ref h_v_limbs, .int v_size])), (h_v_limbs, .inl (cI, n_v_limbs, .inl v_limbs_a))] → va_S A s.heap H locs → f_Big_bitLength_22 fu n_v_limbs v_size v_limbs_a n y1 y3 = some u → W p l e (headSpec ws_Big_bitLength rm_Big_bitLength).room s m [.ref h_v].toArray below meth c H locs 0 0 Qq (F0 m 22 ls []) := by
    intro n
    induction n with
    | zero =>
      intro y1 y3 ls H locs hl hP hD hS hf
      exact zz_no hf
    | succ n ih =>
      intro y1 y3 ls H locs hl hP hD hS hf
      rw [f_Big_bitLength_22_s] at hf
      refine lv_iload_n hx hb d_Big_bitLength_22 rfl (lv_at hl 2 rfl) ?_
      refine lv_bipush (v := 32) hx hb d_Big_bitLength_23 (by decide) ?_
      refine lv_icmp_ge (tgt := 42) hx hb d_Big_bitLength_25 (by decide) (fun hc => ?_) (fun hc => ?_)
      · have hf := zz_ifp hc hf
        exact hL_42 y3 ls _ _ (lv_sub hl [0, 2] rfl) hP hD hS hf
      · have hf := zz_ifn hc hf
        refine lv_lload_n hx hb d_Big_bitLength_28 rfl (lv_at hl 1 rfl) ?_
        refine lv_iload_n hx hb d_Big_bitLength_29 rfl (lv_at hl 2 rfl) ?_
        refine lv_lushr hx hb d_Big_bitLength_30 rfl ?_
        refine lv_lconst (v := 0) hx hb d_Big_bitLength_31 (by decide) ?_
        refine W.lcmp hx hb d_Big_bitLength_32 ?_
        refine lv_if_eq (tgt := 42) hx hb d_Big_bitLength_33 (by decide) (fun hc => ?_) (fun hc => ?_)
        · have hf := zz_ifp hc hf
          exact hL_42 y3 ls _ _ (lv_sub hl [0, 2] rfl) hP hD hS hf
        · have hf := zz_ifn hc hf
          refine lv_iinc (k := 2) (v := y3 + 1) hx hb d_Big_bitLength_36 hl rfl rfl (by decide) rfl (fun ls hl => ?_)
          have hl : lv_has ls 4 [(3, .int (y3 + 1)), (0, .ref h_v), (1, .long y1)] := hl
          refine lv_goto (tgt := 22) hx hb d_Big_bitLength_39 (by decide) ?_
          exact ih y1 (y3 + 1) ls _ _ (lv_sub hl [1, 2, 0] rfl) hP hD hS hf
  unfold f_Big_bitLength at hf
  refine lv_aload_n hx hb d_Big_bitLength_0 rfl (lv_at hl 0 rfl) ?_
  refine va_get (D := (dC, dI)) (ci := 0) (v := .int v_size) (C := R_Big) (T := T_Big) (N := 2) hx hb hw in_Big hown hK hP 0 rfl rfl 1 (by decide) (hw _ wd_91) (fun _ h9 => h9) rfl d_Big_bitLength_1 ?_
  refine lv_if_ne (tgt := 9) hx hb d_Big_bitLength_4 (by decide) (fun hc => ?_) (fun hc => ?_)
  · have hf := zz_ifn hc hf
    refine lv_aload_n hx hb d_Big_bitLength_9 rfl (lv_at hl 0 rfl) ?_
    refine lv_aload_n hx hb d_Big_bitLength_10 rfl (lv_at hl 0 rfl) ?_
    refine va_get (D := (dC, dI)) (ci := 0) (v := .int v_size) (C := R_Big) (T := T_Big) (N := 2) hx hb hw in_Big hown hK hP 0 rfl rfl 1 (by decide) (hw _ wd_91) (fun _ h9 => h9) rfl d_Big_bitLength_11 ?_
    refine lv_iconst (v := 1) hx hb d_Big_bitLength_14 (by decide) ?_
    refine lv_isub hx hb d_Big_bitLength_15 ?_
    obtain ⟨u_1, hu_1, hf⟩ := zz_bd hf
    refine zz_cl (ws' := [(h_v, .inr (0, [.ref h_v_limbs, .int v_size])), (h_v_limbs, .inl (cI, n_v_limbs, .inl v_limbs_a))]) (wc := [(h_v, .inr (0, [.ref h_v_limbs, .int v_size])), (h_v_limbs, .inl (cI, n_v_limbs, .inl v_limbs_a))]) (w' := [(h_v, .inr (0, [.ref h_v_limbs, .int v_size])), (h_v_limbs, .inl (cI, n_v_limbs, .inl v_limbs_a))]) hP hD hS hA [0, 1] [] [0, 1] rfl rfl (by decide) (by decide) rfl (by decide) (va_runV (As := [.int (v_size - 1)]) (rest := []) ⟨hx, hb, hml, hown, hw⟩ (c_Big_limbAt l dC dI cI cC cB cJ _ h_v h_v_limbs n_v_limbs (v_size - 1) v_size v_limbs_a u_1 hu_1) (cwV 1 hw (zg_V wd_339 wd_341 we_0_6 wd_5 wd_342) rfl rfl rfl hd_Big_limbAt ⟨Nat.le_of_ble_eq_true rfl, Nat.le_of_ble_eq_true rfl⟩) (zz_preV zz_TE (va_recv (q0 := 0) (ci := 0) hK hP rfl rfl) hP hD hK hS hA trivial [0, 1] rfl (by decide)) rfl rfl hl.1 rfl (lv_room (Nat.le_of_ble_eq_true rfl)) d_Big_bitLength_16 ⟨Nat.zero_le _, Nat.zero_le _⟩) (fun H locs hP hD hS => ?_)
    refine lv_lstore_n hx hb d_Big_bitLength_19 rfl hl (by decide) rfl (fun ls hl => ?_)
    have hl : lv_has ls 4 [(1, .long u_1), (0, .ref h_v)] := hl
    refine lv_iconst (v := 1) hx hb d_Big_bitLength_20 (by decide) ?_
    refine lv_istore_n hx hb d_Big_bitLength_21 rfl hl (by decide) rfl (fun ls hl => ?_)
    have hl : lv_has ls 4 [(3, .int 1), (1, .long u_1), (0, .ref h_v)] := hl
    exact hL_22 fu u_1 1 ls _ _ (lv_sub hl [2, 1, 0] rfl) hP hD hS hf
  · have hf := zz_ifp hc hf
    refine lv_iconst (v := 0) hx hb d_Big_bitLength_7 (by decide) ?_
    cases hf
    exact hend 8 ls _ _ d_Big_bitLength_8 hP hD hS
abbrev ws_Big_compare : List Cond := .code y_Big_compare prog_2_method_6_code 3 (some .int) :: zw
abbrev rm_Big_compare : Room := { frames := 1, cells := 0, slots := 0, locals := 21 }
theorem hd_Big_compare : y_Big_compare.cls = "RealText$Big" ∧ y_Big_compare.cls ≠ "java/lang/invoke/MethodHandle" ∧ y_Big_compare.cls ≠ "java/lang/invoke/VarHandle" ∧ (parseMethodDescriptor y_Big_compare.desc).map (fun d => d.parameters.length) = some 1 := by decide +kernel
theorem d_Big_compare_0 : decode prog_2_method_6_code 0 = .ok (.aload_n 0, 1) := by decide +kernel
theorem d_Big_compare_1 : decode prog_2_method_6_code 1 = .ok (.getfield 13, 3) := by decide +kernel
theorem d_Big_compare_4 : decode prog_2_method_6_code 4 = .ok (.aload_n 1, 1) := by decide +kernel
theorem d_Big_compare_5 : decode prog_2_method_6_code 5 = .ok (.getfield 13, 3) := by decide +kernel
theorem d_Big_compare_8 : decode prog_2_method_6_code 8 = .ok (.if_icmp .eq 13, 3) := by decide +kernel
theorem d_Big_compare_11 : decode prog_2_method_6_code 11 = .ok (.aload_n 0, 1) := by decide +kernel
theorem d_Big_compare_12 : decode prog_2_method_6_code 12 = .ok (.getfield 13, 3) := by decide +kernel
theorem d_Big_compare_15 : decode prog_2_method_6_code 15 = .ok (.aload_n 1, 1) := by decide +kernel
theorem d_Big_compare_16 : decode prog_2_method_6_code 16 = .ok (.getfield 13, 3) := by decide +kernel
theorem d_Big_compare_19 : decode prog_2_method_6_code 19 = .ok (.isub, 1) := by decide +kernel
theorem d_Big_compare_20 : decode prog_2_method_6_code 20 = .ok (.ireturn, 1) := by decide +kernel
theorem d_Big_compare_21 : decode prog_2_method_6_code 21 = .ok (.aload_n 0, 1) := by decide +kernel
theorem d_Big_compare_22 : decode prog_2_method_6_code 22 = .ok (.getfield 13, 3) := by decide +kernel
theorem d_Big_compare_25 : decode prog_2_method_6_code 25 = .ok (.iconst 1, 1) := by decide +kernel
theorem d_Big_compare_26 : decode prog_2_method_6_code 26 = .ok (.isub, 1) := by decide +kernel
theorem d_Big_compare_27 : decode prog_2_method_6_code 27 = .ok (.istore_n 2, 1) := by decide +kernel
theorem d_Big_compare_28 : decode prog_2_method_6_code 28 = .ok (.iload_n 2, 1) := by decide +kernel
theorem d_Big_compare_29 : decode prog_2_method_6_code 29 = .ok (.ifCond .lt 44, 3) := by decide +kernel
theorem d_Big_compare_32 : decode prog_2_method_6_code 32 = .ok (.aload_n 0, 1) := by decide +kernel
theorem d_Big_compare_33 : decode prog_2_method_6_code 33 = .ok (.getfield 7, 3) := by decide +kernel
theorem d_Big_compare_36 : decode prog_2_method_6_code 36 = .ok (.iload_n 2, 1) := by decide +kernel
theorem d_Big_compare_37 : decode prog_2_method_6_code 37 = .ok (.iaload, 1) := by decide +kernel
theorem d_Big_compare_38 : decode prog_2_method_6_code 38 = .ok (.aload_n 1, 1) := by decide +kernel
theorem d_Big_compare_39 : decode prog_2_method_6_code 39 = .ok (.getfield 7, 3) := by decide +kernel
theorem d_Big_compare_42 : decode prog_2_method_6_code 42 = .ok (.iload_n 2, 1) := by decide +kernel
theorem d_Big_compare_43 : decode prog_2_method_6_code 43 = .ok (.iaload, 1) := by decide +kernel
theorem d_Big_compare_44 : decode prog_2_method_6_code 44 = .ok (.if_icmp .eq 23, 3) := by decide +kernel
theorem d_Big_compare_47 : decode prog_2_method_6_code 47 = .ok (.aload_n 0, 1) := by decide +kernel
theorem d_Big_compare_48 : decode prog_2_method_6_code 48 = .ok (.iload_n 2, 1) := by decide +kernel
theorem d_Big_compare_49 : decode prog_2_method_6_code 49 = .ok (.invokevirtual 38, 3) := by decide +kernel
theorem d_Big_compare_52 : decode prog_2_method_6_code 52 = .ok (.aload_n 1, 1) := by decide +kernel
theorem d_Big_compare_53 : decode prog_2_method_6_code 53 = .ok (.iload_n 2, 1) := by decide +kernel
theorem d_Big_compare_54 : decode prog_2_method_6_code 54 = .ok (.invokevirtual 38, 3) := by decide +kernel
theorem d_Big_compare_57 : decode prog_2_method_6_code 57 = .ok (.lcmp, 1) := by decide +kernel
theorem d_Big_compare_58 : decode prog_2_method_6_code 58 = .ok (.ifCond .ge 7, 3) := by decide +kernel
theorem d_Big_compare_61 : decode prog_2_method_6_code 61 = .ok (.iconst (-1), 1) := by decide +kernel
theorem d_Big_compare_62 : decode prog_2_method_6_code 62 = .ok (.goto 4, 3) := by decide +kernel
theorem d_Big_compare_65 : decode prog_2_method_6_code 65 = .ok (.iconst 1, 1) := by decide +kernel
theorem d_Big_compare_66 : decode prog_2_method_6_code 66 = .ok (.ireturn, 1) := by decide +kernel
theorem d_Big_compare_67 : decode prog_2_method_6_code 67 = .ok (.iinc 2 (-1), 3) := by decide +kernel
theorem d_Big_compare_70 : decode prog_2_method_6_code 70 = .ok (.goto (-42), 3) := by decide +kernel
theorem d_Big_compare_73 : decode prog_2_method_6_code 73 = .ok (.iconst 0, 1) := by decide +kernel
theorem d_Big_compare_74 : decode prog_2_method_6_code 74 = .ok (.ireturn, 1) := by decide +kernel
def f_Big_compare_28 (fu : Nat) (n_v_limbs : Nat) (n_w1_limbs : Nat) (v_size : Int32) (v_limbs_a : Nat → Int32) (w1_size : Int32) (w1_limbs_a : Nat → Int32)  : Nat → Int32 → Option (Int32)
  | 0, _ => none
  | n + 1, y2 =>
  (if y2 < 0 then
  some (0)
  else
  if zz_in y2 n_v_limbs = true then
  if zz_in y2 n_w1_limbs = true then
  (if (v_limbs_a y2.toNatClampNeg) = (w1_limbs_a y2.toNatClampNeg) then
  f_Big_compare_28 fu n_v_limbs n_w1_limbs v_size v_limbs_a w1_size w1_limbs_a n (y2 + (-1))
  else
  (f_Big_limbAt n_v_limbs y2 v_size v_limbs_a).bind fun u_4 =>
  (f_Big_limbAt n_w1_limbs y2 w1_size w1_limbs_a).bind fun u_5 =>
  (if 0 ≤ (lg_cmp u_4 u_5) then
  some (1)
  else
  some ((-1))))
  else none
  else none)
theorem f_Big_compare_28_s (fu : Nat) (n_v_limbs : Nat) (n_w1_limbs : Nat) (v_size : Int32) (v_limbs_a : Nat → Int32) (w1_size : Int32) (w1_limbs_a : Nat → Int32)  (n : Nat) (y2 : Int32) : f_Big_compare_28 fu n_v_limbs n_w1_limbs v_size v_limbs_a w1_size w1_limbs_a (n + 1) y2 =
  (if y2 < 0 then
  some (0)
  else
  if zz_in y2 n_v_limbs = true then
  if zz_in y2 n_w1_limbs = true then
  (if (v_limbs_a y2.toNatClampNeg) = (w1_limbs_a y2.toNatClampNeg) then
  f_Big_compare_28 fu n_v_limbs n_w1_limbs v_size v_limbs_a w1_size w1_limbs_a n (y2 + (-1))
  else
  (f_Big_limbAt n_v_limbs y2 v_size v_limbs_a).bind fun u_4 =>
  (f_Big_limbAt n_w1_limbs y2 w1_size w1_limbs_a).bind fun u_5 =>
  (if 0 ≤ (lg_cmp u_4 u_5) then
  some (1)
  else
  some ((-1))))
  else none
  else none) := rfl
def f_Big_compare (fu : Nat) (n_v_limbs : Nat) (n_w1_limbs : Nat) (v_size : Int32) (v_limbs_a : Nat → Int32) (w1_size : Int32) (w1_limbs_a : Nat → Int32) : Option (Int32) :=
  (if v_size = w1_size then
  zz_lt (v_size - 1) fun x2_1 =>
  f_Big_compare_28 fu n_v_limbs n_w1_limbs v_size v_limbs_a w1_size w1_limbs_a fu x2_1
  else
  some (v_size - w1_size))
set_option maxHeartbeats 4000000 in
set_option maxRecDepth 100000 in
theorem c_Big_compare (l : Launch) (dC : Nat → ClassId) (dI : Nat → Nat → Nat) (cI cC cB cJ : ClassId) (fu : Nat) (sz : Nat) (h_v : Nat) (h_v_limbs : Nat) (h_w1 : Nat) (h_w1_limbs : Nat) (n_v_limbs : Nat) (n_w1_limbs : Nat) (v_size : Int32) (v_limbs_a : Nat → Int32) (w1_size : Int32) (w1_limbs_a : Nat → Int32) (u : Int32) (hf : f_Big_compare fu n_v_limbs n_w1_limbs v_size v_limbs_a w1_size w1_limbs_a = some u) : Met l y_Big_compare ws_Big_compare rm_Big_compare (zz_P zz_T (dC, dI) vwCl (zz_tys cI cC cB cJ) [.ref h_v, .ref h_w1] [(h_v, .inr (0, [.ref h_v_limbs, .int v_size])), (h_v_limbs, .inl (cI, n_v_limbs, .inl v_limbs_a)), (h_w1, .inr (0, [.ref h_w1_limbs, .int w1_size])), (h_w1_limbs, .inl (cI, n_w1_limbs, .inl w1_limbs_a))] sz) (zz_Qi (dC, dI) vwCl u [(h_v, .inr (0, [.ref h_v_limbs, .int v_size])), (h_v_limbs, .inl (cI, n_v_limbs, .inl v_limbs_a)), (h_w1, .inr (0, [.ref h_w1_limbs, .int w1_size])), (h_w1_limbs, .inl (cI, n_w1_limbs, .inl w1_limbs_a))] (va_A [(h_v, .inr (0, [.ref h_v_limbs, .int v_size])), (h_v_limbs, .inl (cI, n_v_limbs, .inl v_limbs_a)), (h_w1, .inr (0, [.ref h_w1_limbs, .int w1_size])), (h_w1_limbs, .inl (cI, n_w1_limbs, .inl w1_limbs_a))] sz)) 0 0 (va_A [(h_v, .inr (0, [.ref h_v_limbs, .int v_size])), (h_v_limbs, .inl (cI, n_v_limbs, .inl v_limbs_a)), (h_w1, .inr (0, [.ref h_w1_limbs, .int w1_size])), (h_w1_limbs, .inl (cI, n_w1_limbs, .inl w1_limbs_a))] sz) := by
  refine Met.ofW (cc := prog_2_method_6_code) (maxL := 3) (ret := (some .int)) (by decide +kernel) rfl ?_
  intro p e s m args below meth c s₁ B hml hv
  obtain ⟨rfl, hsz, hP, hK, hD0, hX⟩ := hv
  have hx := B.exec
  have hb := B.bytes
  have hr := B.returns
  have hts := atoms_spec (ws := ws_Big_compare) B.pre
  have hw : ∀ w ∈ zw, w.before [.ref h_v, .ref h_w1].toArray s = true := fun w h => hts w (List.mem_cons_of_mem _ h)
  have hown : s.vm.findClass R_Big = some m.cls := findClass_of_methodNamed B.named
  have hlocks := B.notSynchronized
  subst hsz
  have hD := hD0.self (sz := s.heap.size)
  generalize hAe : va_A [(h_v, .inr (0, [.ref h_v_limbs, .int v_size])), (h_v_limbs, .inl (cI, n_v_limbs, .inl v_limbs_a)), (h_w1, .inr (0, [.ref h_w1_limbs, .int w1_size])), (h_w1_limbs, .inl (cI, n_w1_limbs, .inl w1_limbs_a))] s.heap.size = A at hD hX ⊢
  have hA : ∀ q : Nat, s.heap.size ≤ q → A q := fun q h => by rw [← hAe]; exact Or.inr h
  have hS : va_S A s.heap s.heap [] := va_S.rf
  have hl := lv_entry [.ref h_v, .ref h_w1] (n := 3) (Nat.le_of_ble_eq_true rfl)
  rw [lg_entry_eq]
  generalize (lg_sl [.ref h_v, .ref h_w1] ++ List.replicate (3 - (lg_sl [.ref h_v, .ref h_w1]).length) Slot.unset).toArray = ls at hl ⊢
  have hl : lv_has ls 3 [(0, .ref h_v), (1, .ref h_w1)] := hl
  refine zz_endi hx hb hr hlocks (fun Qq hend => ?_)
  have hL_28 : ∀ (n : Nat), ∀ (y2 : Int32) (ls : Array Slot) (H : Heap) (locs : List Loc), lv_has ls 3 [(0, .ref h_v), (1, .ref h_w1), (2, .int y2)] → va_P (dC, dI) vwCl [(h_v, .inr (0, [.ref h_v_limbs, .int v_size])), (h_v_limbs, .inl (cI, n_v_limbs, .inl v_limbs_a)), (h_w1, .inr (0, [.ref h_w1_limbs, .int w1_size])), (h_w1_limbs, .inl (cI, n_w1_limbs, .inl w1_limbs_a))] H → va_D A [(h_v, .inr (0, [.ref h_v_limbs, .int v_size])), (h_v_limbs, .inl (cI, n_v_limbs, .inl v_limbs_a)), (h_w1, .inr (0, [.ref h_w1_limbs, .int w1_size])), (h_w1_limbs, .inl (cI, n_w1_limbs, .inl w1_limbs_a))] → va_S A s.heap H locs → f_Big_compare_28 fu n_v_limbs n_w1_limbs v_size v_limbs_a w1_size w1_limbs_a n y2 = some u → W p l e (headSpec ws_Big_compare rm_Big_compare).room s m [.ref h_v, .ref h_w1].toArray below meth c H locs 0 0 Qq (F0 m 28 ls []) := by
    intro n
    induction n with
    | zero =>
      intro y2 ls H locs hl hP hD hS hf
      exact zz_no hf
    | succ n ih =>
      intro y2 ls H locs hl hP hD hS hf
      rw [f_Big_compare_28_s] at hf
      refine lv_iload_n hx hb d_Big_compare_28 rfl (lv_at hl 2 rfl) ?_
      refine lv_if_lt (tgt := 73) hx hb d_Big_compare_29 (by decide) (fun hc => ?_) (fun hc => ?_)
      · have hf := zz_ifp hc hf
        refine lv_iconst (v := 0) hx hb d_Big_compare_73 (by decide) ?_
        cases hf
        exact hend 74 ls _ _ d_Big_compare_74 hP hD hS
      · have hf := zz_ifn hc hf
        refine lv_aload_n hx hb d_Big_compare_32 rfl (lv_at hl 0 rfl) ?_
        refine va_get (D := (dC, dI)) (ci := 0) (v := .ref h_v_limbs) (C := R_Big) (T := T_Big) (N := 2) hx hb hw in_Big hown hK hP 0 rfl rfl 0 (by decide) (hw _ wd_90) (fun _ h9 => h9) rfl d_Big_compare_33 ?_
        refine lv_iload_n hx hb d_Big_compare_36 rfl (lv_at hl 2 rfl) ?_
        obtain ⟨hb_2, hf⟩ := zz_gd hf
        refine va_iald hx hb hK hP 1 0 rfl rfl (zz_vp hb_2) d_Big_compare_37 ?_
        refine lv_aload_n hx hb d_Big_compare_38 rfl (lv_at hl 1 rfl) ?_
        refine va_get (D := (dC, dI)) (ci := 0) (v := .ref h_w1_limbs) (C := R_Big) (T := T_Big) (N := 2) hx hb hw in_Big hown hK hP 2 rfl rfl 0 (by decide) (hw _ wd_90) (fun _ h9 => h9) rfl d_Big_compare_39 ?_
        refine lv_iload_n hx hb d_Big_compare_42 rfl (lv_at hl 2 rfl) ?_
        obtain ⟨hb_3, hf⟩ := zz_gd hf
        refine va_iald hx hb hK hP 3 0 rfl rfl (zz_vp hb_3) d_Big_compare_43 ?_
        refine lv_icmp_eq (tgt := 67) hx hb d_Big_compare_44 (by decide) (fun hc => ?_) (fun hc => ?_)
        · have hf := zz_ifp hc hf
          refine lv_iinc (k := 2) (v := y2 + (-1)) hx hb d_Big_compare_67 hl rfl rfl (by decide) rfl (fun ls hl => ?_)
          have hl : lv_has ls 3 [(2, .int (y2 + (-1))), (0, .ref h_v), (1, .ref h_w1)] := hl
          refine lv_goto (tgt := 28) hx hb d_Big_compare_70 (by decide) ?_
          exact ih (y2 + (-1)) ls _ _ (lv_sub hl [1, 2, 0] rfl) hP hD hS hf
        · have hf := zz_ifn hc hf
          refine lv_aload_n hx hb d_Big_compare_47 rfl (lv_at hl 0 rfl) ?_
          refine lv_iload_n hx hb d_Big_compare_48 rfl (lv_at hl 2 rfl) ?_
          obtain ⟨u_4, hu_4, hf⟩ := zz_bd hf
          refine zz_cl (ws' := [(h_v, .inr (0, [.ref h_v_limbs, .int v_size])), (h_v_limbs, .inl (cI, n_v_limbs, .inl v_limbs_a)), (h_w1, .inr (0, [.ref h_w1_limbs, .int w1_size])), (h_w1_limbs, .inl (cI, n_w1_limbs, .inl w1_limbs_a))]) (wc := [(h_v, .inr (0, [.ref h_v_limbs, .int v_size])), (h_v_limbs, .inl (cI, n_v_limbs, .inl v_limbs_a))]) (w' := [(h_v, .inr (0, [.ref h_v_limbs, .int v_size])), (h_v_limbs, .inl (cI, n_v_limbs, .inl v_limbs_a))]) hP hD hS hA [0, 1] [2, 3] [2, 3, 0, 1] rfl rfl (by decide) (by decide) rfl (by decide) (va_runV (As := [.int y2]) (rest := []) ⟨hx, hb, hml, hown, hw⟩ (c_Big_limbAt l dC dI cI cC cB cJ _ h_v h_v_limbs n_v_limbs y2 v_size v_limbs_a u_4 hu_4) (cwV 1 hw (zg_V wd_339 wd_341 we_0_6 wd_5 wd_342) rfl rfl rfl hd_Big_limbAt ⟨Nat.le_of_ble_eq_true rfl, Nat.le_of_ble_eq_true rfl⟩) (zz_preV zz_TE (va_recv (q0 := 0) (ci := 0) hK hP rfl rfl) hP hD hK hS hA trivial [0, 1] rfl (by decide)) rfl rfl hl.1 rfl (lv_room (Nat.le_of_ble_eq_true rfl)) d_Big_compare_49 ⟨Nat.zero_le _, Nat.zero_le _⟩) (fun H locs hP hD hS => ?_)
          refine lv_aload_n hx hb d_Big_compare_52 rfl (lv_at hl 1 rfl) ?_
          refine lv_iload_n hx hb d_Big_compare_53 rfl (lv_at hl 2 rfl) ?_
          obtain ⟨u_5, hu_5, hf⟩ := zz_bd hf
          refine zz_cl (ws' := [(h_v, .inr (0, [.ref h_v_limbs, .int v_size])), (h_v_limbs, .inl (cI, n_v_limbs, .inl v_limbs_a)), (h_w1, .inr (0, [.ref h_w1_limbs, .int w1_size])), (h_w1_limbs, .inl (cI, n_w1_limbs, .inl w1_limbs_a))]) (wc := [(h_w1, .inr (0, [.ref h_w1_limbs, .int w1_size])), (h_w1_limbs, .inl (cI, n_w1_limbs, .inl w1_limbs_a))]) (w' := [(h_w1, .inr (0, [.ref h_w1_limbs, .int w1_size])), (h_w1_limbs, .inl (cI, n_w1_limbs, .inl w1_limbs_a))]) hP hD hS hA [2, 3] [0, 1] [0, 1, 2, 3] rfl rfl (by decide) (by decide) rfl (by decide) (va_runV (As := [.int y2]) (rest := [.long u_4]) ⟨hx, hb, hml, hown, hw⟩ (c_Big_limbAt l dC dI cI cC cB cJ _ h_w1 h_w1_limbs n_w1_limbs y2 w1_size w1_limbs_a u_5 hu_5) (cwV 1 hw (zg_V wd_339 wd_341 we_0_6 wd_5 wd_342) rfl rfl rfl hd_Big_limbAt ⟨Nat.le_of_ble_eq_true rfl, Nat.le_of_ble_eq_true rfl⟩) (zz_preV zz_TE (va_recv (q0 := 2) (ci := 0) hK hP rfl rfl) hP hD hK hS hA trivial [2, 3] rfl (by decide)) rfl rfl hl.1 rfl (lv_room (Nat.le_of_ble_eq_true rfl)) d_Big_compare_54 ⟨Nat.zero_le _, Nat.zero_le _⟩) (fun H locs hP hD hS => ?_)
          refine W.lcmp hx hb d_Big_compare_57 ?_
          refine lv_if_ge (tgt := 65) hx hb d_Big_compare_58 (by decide) (fun hc => ?_) (fun hc => ?_)
          · have hf := zz_ifp hc hf
            refine lv_iconst (v := 1) hx hb d_Big_compare_65 (by decide) ?_
            cases hf
            exact hend 66 ls _ _ d_Big_compare_66 hP hD hS
          · have hf := zz_ifn hc hf
            refine lv_iconst (v := (-1)) hx hb d_Big_compare_61 (by decide) ?_
            refine lv_goto (tgt := 66) hx hb d_Big_compare_62 (by decide) ?_
            cases hf
            exact hend 66 ls _ _ d_Big_compare_66 hP hD hS
  unfold f_Big_compare at hf
  refine lv_aload_n hx hb d_Big_compare_0 rfl (lv_at hl 0 rfl) ?_
  refine va_get (D := (dC, dI)) (ci := 0) (v := .int v_size) (C := R_Big) (T := T_Big) (N := 2) hx hb hw in_Big hown hK hP 0 rfl rfl 1 (by decide) (hw _ wd_91) (fun _ h9 => h9) rfl d_Big_compare_1 ?_
  refine lv_aload_n hx hb d_Big_compare_4 rfl (lv_at hl 1 rfl) ?_
  refine va_get (D := (dC, dI)) (ci := 0) (v := .int w1_size) (C := R_Big) (T := T_Big) (N := 2) hx hb hw in_Big hown hK hP 2 rfl rfl 1 (by decide) (hw _ wd_91) (fun _ h9 => h9) rfl d_Big_compare_5 ?_
  refine lv_icmp_eq (tgt := 21) hx hb d_Big_compare_8 (by decide) (fun hc => ?_) (fun hc => ?_)
  · have hf := zz_ifp hc hf
    refine lv_aload_n hx hb d_Big_compare_21 rfl (lv_at hl 0 rfl) ?_
    refine va_get (D := (dC, dI)) (ci := 0) (v := .int v_size) (C := R_Big) (T := T_Big) (N := 2) hx hb hw in_Big hown hK hP 0 rfl rfl 1 (by decide) (hw _ wd_91) (fun _ h9 => h9) rfl d_Big_compare_22 ?_
    refine lv_iconst (v := 1) hx hb d_Big_compare_25 (by decide) ?_
    refine lv_isub hx hb d_Big_compare_26 ?_
    refine lv_topi (fun x2_1 e_x2_1 => ?_)
    have hf := zz_ltp hf x2_1 e_x2_1
    refine lv_istore_n hx hb d_Big_compare_27 rfl hl (by decide) rfl (fun ls hl => ?_)
    have hl : lv_has ls 3 [(2, .int x2_1), (0, .ref h_v), (1, .ref h_w1)] := hl
    exact hL_28 fu x2_1 ls _ _ (lv_sub hl [1, 2, 0] rfl) hP hD hS hf
  · have hf := zz_ifn hc hf
    refine lv_aload_n hx hb d_Big_compare_11 rfl (lv_at hl 0 rfl) ?_
    refine va_get (D := (dC, dI)) (ci := 0) (v := .int v_size) (C := R_Big) (T := T_Big) (N := 2) hx hb hw in_Big hown hK hP 0 rfl rfl 1 (by decide) (hw _ wd_91) (fun _ h9 => h9) rfl d_Big_compare_12 ?_
    refine lv_aload_n hx hb d_Big_compare_15 rfl (lv_at hl 1 rfl) ?_
    refine va_get (D := (dC, dI)) (ci := 0) (v := .int w1_size) (C := R_Big) (T := T_Big) (N := 2) hx hb hw in_Big hown hK hP 2 rfl rfl 1 (by decide) (hw _ wd_91) (fun _ h9 => h9) rfl d_Big_compare_16 ?_
    refine lv_isub hx hb d_Big_compare_19 ?_
    cases hf
    exact hend 20 ls _ _ d_Big_compare_20 hP hD hS
abbrev ws_Big_add : List Cond := .code y_Big_add prog_2_method_7_code 6 none :: zw
abbrev rm_Big_add : Room := { frames := 2, cells := 0, slots := 0, locals := 45 }
theorem hd_Big_add : y_Big_add.cls = "RealText$Big" ∧ y_Big_add.cls ≠ "java/lang/invoke/MethodHandle" ∧ y_Big_add.cls ≠ "java/lang/invoke/VarHandle" ∧ (parseMethodDescriptor y_Big_add.desc).map (fun d => d.parameters.length) = some 1 := by decide +kernel
theorem d_Big_add_0 : decode prog_2_method_7_code 0 = .ok (.lconst 0, 1) := by decide +kernel
theorem d_Big_add_1 : decode prog_2_method_7_code 1 = .ok (.lstore_n 2, 1) := by decide +kernel
theorem d_Big_add_2 : decode prog_2_method_7_code 2 = .ok (.aload_n 0, 1) := by decide +kernel
theorem d_Big_add_3 : decode prog_2_method_7_code 3 = .ok (.getfield 13, 3) := by decide +kernel
theorem d_Big_add_6 : decode prog_2_method_7_code 6 = .ok (.aload_n 1, 1) := by decide +kernel
theorem d_Big_add_7 : decode prog_2_method_7_code 7 = .ok (.getfield 13, 3) := by decide +kernel
theorem d_Big_add_10 : decode prog_2_method_7_code 10 = .ok (.invokestatic 42, 3) := by decide +kernel
theorem d_Big_add_13 : decode prog_2_method_7_code 13 = .ok (.istore 4, 2) := by decide +kernel
theorem d_Big_add_15 : decode prog_2_method_7_code 15 = .ok (.iconst 0, 1) := by decide +kernel
theorem d_Big_add_16 : decode prog_2_method_7_code 16 = .ok (.istore 5, 2) := by decide +kernel
theorem d_Big_add_18 : decode prog_2_method_7_code 18 = .ok (.iload 5, 2) := by decide +kernel
theorem d_Big_add_20 : decode prog_2_method_7_code 20 = .ok (.iload 4, 2) := by decide +kernel
theorem d_Big_add_22 : decode prog_2_method_7_code 22 = .ok (.if_icmp .ge 37, 3) := by decide +kernel
theorem d_Big_add_25 : decode prog_2_method_7_code 25 = .ok (.lload_n 2, 1) := by decide +kernel
theorem d_Big_add_26 : decode prog_2_method_7_code 26 = .ok (.aload_n 0, 1) := by decide +kernel
theorem d_Big_add_27 : decode prog_2_method_7_code 27 = .ok (.iload 5, 2) := by decide +kernel
theorem d_Big_add_29 : decode prog_2_method_7_code 29 = .ok (.invokevirtual 38, 3) := by decide +kernel
theorem d_Big_add_32 : decode prog_2_method_7_code 32 = .ok (.aload_n 1, 1) := by decide +kernel
theorem d_Big_add_33 : decode prog_2_method_7_code 33 = .ok (.iload 5, 2) := by decide +kernel
theorem d_Big_add_35 : decode prog_2_method_7_code 35 = .ok (.invokevirtual 38, 3) := by decide +kernel
theorem d_Big_add_38 : decode prog_2_method_7_code 38 = .ok (.ladd, 1) := by decide +kernel
theorem d_Big_add_39 : decode prog_2_method_7_code 39 = .ok (.ladd, 1) := by decide +kernel
theorem d_Big_add_40 : decode prog_2_method_7_code 40 = .ok (.lstore_n 2, 1) := by decide +kernel
theorem d_Big_add_41 : decode prog_2_method_7_code 41 = .ok (.aload_n 0, 1) := by decide +kernel
theorem d_Big_add_42 : decode prog_2_method_7_code 42 = .ok (.iload 5, 2) := by decide +kernel
theorem d_Big_add_44 : decode prog_2_method_7_code 44 = .ok (.lload_n 2, 1) := by decide +kernel
theorem d_Big_add_45 : decode prog_2_method_7_code 45 = .ok (.invokevirtual 45, 3) := by decide +kernel
theorem d_Big_add_48 : decode prog_2_method_7_code 48 = .ok (.lload_n 2, 1) := by decide +kernel
theorem d_Big_add_49 : decode prog_2_method_7_code 49 = .ok (.bipush 32, 2) := by decide +kernel
theorem d_Big_add_51 : decode prog_2_method_7_code 51 = .ok (.lushr, 1) := by decide +kernel
theorem d_Big_add_52 : decode prog_2_method_7_code 52 = .ok (.lstore_n 2, 1) := by decide +kernel
theorem d_Big_add_53 : decode prog_2_method_7_code 53 = .ok (.iinc 5 1, 3) := by decide +kernel
theorem d_Big_add_56 : decode prog_2_method_7_code 56 = .ok (.goto (-38), 3) := by decide +kernel
theorem d_Big_add_59 : decode prog_2_method_7_code 59 = .ok (.lload_n 2, 1) := by decide +kernel
theorem d_Big_add_60 : decode prog_2_method_7_code 60 = .ok (.lconst 0, 1) := by decide +kernel
theorem d_Big_add_61 : decode prog_2_method_7_code 61 = .ok (.lcmp, 1) := by decide +kernel
theorem d_Big_add_62 : decode prog_2_method_7_code 62 = .ok (.ifCond .eq 8, 3) := by decide +kernel
theorem d_Big_add_65 : decode prog_2_method_7_code 65 = .ok (.aload_n 0, 1) := by decide +kernel
theorem d_Big_add_66 : decode prog_2_method_7_code 66 = .ok (.lload_n 2, 1) := by decide +kernel
theorem d_Big_add_67 : decode prog_2_method_7_code 67 = .ok (.invokevirtual 19, 3) := by decide +kernel
theorem d_Big_add_70 : decode prog_2_method_7_code 70 = .ok (.return_, 1) := by decide +kernel
def f_Big_add_18 (fu : Nat) (n_v_limbs : Nat) (n_w1_limbs : Nat) (w1_size : Int32) (w1_limbs_a : Nat → Int32)  : Nat → Int64 → Int32 → Int32 → Int32 → (Nat → Int32) → Option (Int32 × (Nat → Int32))
  | 0, _, _, _, _, _ => none
  | n + 1, y2, y4, y5, v_size, v_limbs_a =>
  (if y4 ≤ y5 then
  (if (lg_cmp y2 0) = 0 then
  some (v_size, v_limbs_a)
  else
  (f_Big_addLimb n_v_limbs y2 v_size v_limbs_a).bind fun u_2 =>
  some (u_2.1, u_2.2))
  else
  (f_Big_limbAt n_v_limbs y5 v_size v_limbs_a).bind fun u_3 =>
  (f_Big_limbAt n_w1_limbs y5 w1_size w1_limbs_a).bind fun u_4 =>
  zz_lt (y2 + (u_3 + u_4)) fun x2_5 =>
  (f_Big_setLimb n_v_limbs y5 x2_5 v_size v_limbs_a).bind fun u_6 =>
  zz_lt ((x2_5.toUInt64 >>> ((32 : Int32).toInt64.toUInt64 &&& Int64.toUInt64 63)).toInt64) fun x2_7 =>
  f_Big_add_18 fu n_v_limbs n_w1_limbs w1_size w1_limbs_a n x2_7 y4 (y5 + 1) u_6.1 u_6.2)
theorem f_Big_add_18_s (fu : Nat) (n_v_limbs : Nat) (n_w1_limbs : Nat) (w1_size : Int32) (w1_limbs_a : Nat → Int32)  (n : Nat) (y2 : Int64) (y4 : Int32) (y5 : Int32) (v_size : Int32) (v_limbs_a : Nat → Int32) : f_Big_add_18 fu n_v_limbs n_w1_limbs w1_size w1_limbs_a (n + 1) y2 y4 y5 v_size v_limbs_a =
  (if y4 ≤ y5 then
  (if (lg_cmp y2 0) = 0 then
  some (v_size, v_limbs_a)
  else
  (f_Big_addLimb n_v_limbs y2 v_size v_limbs_a).bind fun u_2 =>
  some (u_2.1, u_2.2))
  else
  (f_Big_limbAt n_v_limbs y5 v_size v_limbs_a).bind fun u_3 =>
  (f_Big_limbAt n_w1_limbs y5 w1_size w1_limbs_a).bind fun u_4 =>
  zz_lt (y2 + (u_3 + u_4)) fun x2_5 =>
  (f_Big_setLimb n_v_limbs y5 x2_5 v_size v_limbs_a).bind fun u_6 =>
  zz_lt ((x2_5.toUInt64 >>> ((32 : Int32).toInt64.toUInt64 &&& Int64.toUInt64 63)).toInt64) fun x2_7 =>
  f_Big_add_18 fu n_v_limbs n_w1_limbs w1_size w1_limbs_a n x2_7 y4 (y5 + 1) u_6.1 u_6.2) := rfl
def f_Big_add (fu : Nat) (n_v_limbs : Nat) (n_w1_limbs : Nat) (v_size : Int32) (v_limbs_a : Nat → Int32) (w1_size : Int32) (w1_limbs_a : Nat → Int32) : Option (Int32 × (Nat → Int32)) :=
  (f_Mat_max v_size w1_size).bind fun u_1 =>
  f_Big_add_18 fu n_v_limbs n_w1_limbs w1_size w1_limbs_a fu 0 u_1 0 v_size v_limbs_a
set_option maxHeartbeats 4000000 in
set_option maxRecDepth 100000 in
theorem c_Big_add (l : Launch) (dC : Nat → ClassId) (dI : Nat → Nat → Nat) (cI cC cB cJ : ClassId) (fu : Nat) (sz : Nat) (h_v : Nat) (h_v_limbs : Nat) (h_w1 : Nat) (h_w1_limbs : Nat) (n_v_limbs : Nat) (n_w1_limbs : Nat) (v_size : Int32) (v_limbs_a : Nat → Int32) (w1_size : Int32) (w1_limbs_a : Nat → Int32) (u : Int32 × (Nat → Int32)) (hf : f_Big_add fu n_v_limbs n_w1_limbs v_size v_limbs_a w1_size w1_limbs_a = some u) : Met l y_Big_add ws_Big_add rm_Big_add (zz_P zz_T (dC, dI) vwCl (zz_tys cI cC cB cJ) [.ref h_v, .ref h_w1] [(h_v, .inr (0, [.ref h_v_limbs, .int v_size])), (h_v_limbs, .inl (cI, n_v_limbs, .inl v_limbs_a)), (h_w1, .inr (0, [.ref h_w1_limbs, .int w1_size])), (h_w1_limbs, .inl (cI, n_w1_limbs, .inl w1_limbs_a))] sz) (zz_Qv (dC, dI) vwCl [(h_v, .inr (0, [.ref h_v_limbs, .int u.1])), (h_v_limbs, .inl (cI, n_v_limbs, .inl u.2)), (h_w1, .inr (0, [.ref h_w1_limbs, .int w1_size])), (h_w1_limbs, .inl (cI, n_w1_limbs, .inl w1_limbs_a))] (va_A [(h_v, .inr (0, [.ref h_v_limbs, .int v_size])), (h_v_limbs, .inl (cI, n_v_limbs, .inl v_limbs_a)), (h_w1, .inr (0, [.ref h_w1_limbs, .int w1_size])), (h_w1_limbs, .inl (cI, n_w1_limbs, .inl w1_limbs_a))] sz)) 0 0 (va_A [(h_v, .inr (0, [.ref h_v_limbs, .int v_size])), (h_v_limbs, .inl (cI, n_v_limbs, .inl v_limbs_a)), (h_w1, .inr (0, [.ref h_w1_limbs, .int w1_size])), (h_w1_limbs, .inl (cI, n_w1_limbs, .inl w1_limbs_a))] sz) := by
  refine Met.ofW (cc := prog_2_method_7_code) (maxL := 6) (ret := none) (by decide +kernel) rfl ?_
  intro p e s m args below meth c s₁ B hml hv
  obtain ⟨rfl, hsz, hP, hK, hD0, hX⟩ := hv
  have hx := B.exec
  have hb := B.bytes
  have hr := B.returns
  have hts := atoms_spec (ws := ws_Big_add) B.pre
  have hw : ∀ w ∈ zw, w.before [.ref h_v, .ref h_w1].toArray s = true := fun w h => hts w (List.mem_cons_of_mem _ h)
  have hown : s.vm.findClass R_Big = some m.cls := findClass_of_methodNamed B.named
  have hlocks := B.notSynchronized
  subst hsz
  have hD := hD0.self (sz := s.heap.size)
  generalize hAe : va_A [(h_v, .inr (0, [.ref h_v_limbs, .int v_size])), (h_v_limbs, .inl (cI, n_v_limbs, .inl v_limbs_a)), (h_w1, .inr (0, [.ref h_w1_limbs, .int w1_size])), (h_w1_limbs, .inl (cI, n_w1_limbs, .inl w1_limbs_a))] s.heap.size = A at hD hX ⊢
  have hA : ∀ q : Nat, s.heap.size ≤ q → A q := fun q h => by rw [← hAe]; exact Or.inr h
  have hS : va_S A s.heap s.heap [] := va_S.rf
  have hl := lv_entry [.ref h_v, .ref h_w1] (n := 6) (Nat.le_of_ble_eq_true rfl)
  rw [lg_entry_eq]
  generalize (lg_sl [.ref h_v, .ref h_w1] ++ List.replicate (6 - (lg_sl [.ref h_v, .ref h_w1]).length) Slot.unset).toArray = ls at hl ⊢
  have hl : lv_has ls 6 [(0, .ref h_v), (1, .ref h_w1)] := hl
  refine zz_endv hx hb hr hlocks (fun Qq hend => ?_)
  have hL_18 : ∀ (n : Nat), ∀ (y2 : Int64) (y4 : Int32) (y5 : Int32) (v_size : Int32) (v_limbs_a : Nat → Int32) (ls : Array Slot) (H : Heap) (locs : List Loc), lv_has ls 6 [(0, .ref h_v), (1, .ref h_w1), (2, .long y2), (4, .int y4), (5, .int y5)] → va_P (dC, dI) vwCl [(h_v, .inr (0, [.ref h_v_limbs, .int v_size])), (h_v_limbs, .inl (cI, n_v_limbs, .inl v_limbs_a)), (h_w1, .inr (0, [.ref h_w1_limbs, .int w1_size])), (h_w1_limbs, .inl (cI, n_w1_limbs, .inl w1_limbs_a))] H → va_D A [(h_v, .inr (0, [.ref h_v_limbs, .int v_size])), (h_v_limbs, .inl (cI, n_v_limbs, .inl v_limbs_a)), (h_w1, .inr (0, [.ref h_w1_limbs, .int w1_size])), (h_w1_limbs, .inl (cI, n_w1_limbs, .inl w1_limbs_a))] → va_S A s.heap H locs → f_Big_add_18 fu n_v_limbs n_w1_limbs w1_size w1_limbs_a n y2 y4 y5 v_size v_limbs_a = some u → W p l e (headSpec ws_Big_add rm_Big_add).room s m [.ref h_v, .ref h_w1].toArray below meth c H locs 0 0 Qq (F0 m 18 ls []) := by
    intro n
    induction n with
    | zero =>
      intro y2 y4 y5 v_size v_limbs_a ls H locs hl hP hD hS hf
      exact zz_no hf
    | succ n ih =>
      intro y2 y4 y5 v_size v_limbs_a ls H locs hl hP hD hS hf
      rw [f_Big_add_18_s] at hf
      refine lv_iload hx hb d_Big_add_18 (lv_at hl 4 rfl) ?_
      refine lv_iload hx hb d_Big_add_20 (lv_at hl 3 rfl) ?_
      refine lv_icmp_ge (tgt := 59) hx hb d_Big_add_22 (by decide) (fun hc => ?_) (fun hc => ?_)
      · have hf := zz_ifp hc hf
        refine lv_lload_n hx hb d_Big_add_59 rfl (lv_at hl 2 rfl) ?_
        refine lv_lconst (v := 0) hx hb d_Big_add_60 (by decide) ?_
        refine W.lcmp hx hb d_Big_add_61 ?_
        refine lv_if_eq (tgt := 70) hx hb d_Big_add_62 (by decide) (fun hc => ?_) (fun hc => ?_)
        · have hf := zz_ifp hc hf
          cases hf
          exact hend 70 ls _ _ d_Big_add_70 hP hD hS
        · have hf := zz_ifn hc hf
          refine lv_aload_n hx hb d_Big_add_65 rfl (lv_at hl 0 rfl) ?_
          refine lv_lload_n hx hb d_Big_add_66 rfl (lv_at hl 2 rfl) ?_
          obtain ⟨u_2, hu_2, hf⟩ := zz_bd hf
          refine zz_cv (ws' := [(h_v, .inr (0, [.ref h_v_limbs, .int u_2.1])), (h_v_limbs, .inl (cI, n_v_limbs, .inl u_2.2)), (h_w1, .inr (0, [.ref h_w1_limbs, .int w1_size])), (h_w1_limbs, .inl (cI, n_w1_limbs, .inl w1_limbs_a))]) (wc := [(h_v, .inr (0, [.ref h_v_limbs, .int v_size])), (h_v_limbs, .inl (cI, n_v_limbs, .inl v_limbs_a))]) (w' := [(h_v, .inr (0, [.ref h_v_limbs, .int u_2.1])), (h_v_limbs, .inl (cI, n_v_limbs, .inl u_2.2))]) hP hD hS hA [0, 1] [2, 3] [2, 3, 0, 1] rfl rfl (by decide) (by decide) rfl (by decide) (va_runV (As := [.long y2]) (rest := []) ⟨hx, hb, hml, hown, hw⟩ (c_Big_addLimb l dC dI cI cC cB cJ _ h_v h_v_limbs n_v_limbs y2 v_size v_limbs_a u_2 hu_2) (cwV 1 hw (zg_V wd_327 wd_329 we_0_4 wd_5 wd_330) rfl rfl rfl hd_Big_addLimb ⟨Nat.le_of_ble_eq_true rfl, Nat.le_of_ble_eq_true rfl⟩) (zz_preV zz_TE (va_recv (q0 := 0) (ci := 0) hK hP rfl rfl) hP hD hK hS hA trivial [0, 1] rfl (by decide)) rfl rfl hl.1 rfl (lv_room (Nat.le_of_ble_eq_true rfl)) d_Big_add_67 ⟨Nat.zero_le _, Nat.zero_le _⟩) (fun H locs hP hD hS => ?_)
          cases hf
          exact hend 70 ls _ _ d_Big_add_70 hP hD hS
      · have hf := zz_ifn hc hf
        refine lv_lload_n hx hb d_Big_add_25 rfl (lv_at hl 2 rfl) ?_
        refine lv_aload_n hx hb d_Big_add_26 rfl (lv_at hl 0 rfl) ?_
        refine lv_iload hx hb d_Big_add_27 (lv_at hl 4 rfl) ?_
        obtain ⟨u_3, hu_3, hf⟩ := zz_bd hf
        refine zz_cl (ws' := [(h_v, .inr (0, [.ref h_v_limbs, .int v_size])), (h_v_limbs, .inl (cI, n_v_limbs, .inl v_limbs_a)), (h_w1, .inr (0, [.ref h_w1_limbs, .int w1_size])), (h_w1_limbs, .inl (cI, n_w1_limbs, .inl w1_limbs_a))]) (wc := [(h_v, .inr (0, [.ref h_v_limbs, .int v_size])), (h_v_limbs, .inl (cI, n_v_limbs, .inl v_limbs_a))]) (w' := [(h_v, .inr (0, [.ref h_v_limbs, .int v_size])), (h_v_limbs, .inl (cI, n_v_limbs, .inl v_limbs_a))]) hP hD hS hA [0, 1] [2, 3] [2, 3, 0, 1] rfl rfl (by decide) (by decide) rfl (by decide) (va_runV (As := [.int y5]) (rest := [.long y2]) ⟨hx, hb, hml, hown, hw⟩ (c_Big_limbAt l dC dI cI cC cB cJ _ h_v h_v_limbs n_v_limbs y5 v_size v_limbs_a u_3 hu_3) (cwV 1 hw (zg_V wd_339 wd_341 we_0_6 wd_5 wd_342) rfl rfl rfl hd_Big_limbAt ⟨Nat.le_of_ble_eq_true rfl, Nat.le_of_ble_eq_true rfl⟩) (zz_preV zz_TE (va_recv (q0 := 0) (ci := 0) hK hP rfl rfl) hP hD hK hS hA trivial [0, 1] rfl (by decide)) rfl rfl hl.1 rfl (lv_room (Nat.le_of_ble_eq_true rfl)) d_Big_add_29 ⟨Nat.zero_le _, Nat.zero_le _⟩) (fun H locs hP hD hS => ?_)
        refine lv_aload_n hx hb d_Big_add_32 rfl (lv_at hl 1 rfl) ?_
        refine lv_iload hx hb d_Big_add_33 (lv_at hl 4 rfl) ?_
        obtain ⟨u_4, hu_4, hf⟩ := zz_bd hf
        refine zz_cl (ws' := [(h_v, .inr (0, [.ref h_v_limbs, .int v_size])), (h_v_limbs, .inl (cI, n_v_limbs, .inl v_limbs_a)), (h_w1, .inr (0, [.ref h_w1_limbs, .int w1_size])), (h_w1_limbs, .inl (cI, n_w1_limbs, .inl w1_limbs_a))]) (wc := [(h_w1, .inr (0, [.ref h_w1_limbs, .int w1_size])), (h_w1_limbs, .inl (cI, n_w1_limbs, .inl w1_limbs_a))]) (w' := [(h_w1, .inr (0, [.ref h_w1_limbs, .int w1_size])), (h_w1_limbs, .inl (cI, n_w1_limbs, .inl w1_limbs_a))]) hP hD hS hA [2, 3] [0, 1] [0, 1, 2, 3] rfl rfl (by decide) (by decide) rfl (by decide) (va_runV (As := [.int y5]) (rest := [.long u_3, .long y2]) ⟨hx, hb, hml, hown, hw⟩ (c_Big_limbAt l dC dI cI cC cB cJ _ h_w1 h_w1_limbs n_w1_limbs y5 w1_size w1_limbs_a u_4 hu_4) (cwV 1 hw (zg_V wd_339 wd_341 we_0_6 wd_5 wd_342) rfl rfl rfl hd_Big_limbAt ⟨Nat.le_of_ble_eq_true rfl, Nat.le_of_ble_eq_true rfl⟩) (zz_preV zz_TE (va_recv (q0 := 2) (ci := 0) hK hP rfl rfl) hP hD hK hS hA trivial [2, 3] rfl (by decide)) rfl rfl hl.1 rfl (lv_room (Nat.le_of_ble_eq_true rfl)) d_Big_add_35 ⟨Nat.zero_le _, Nat.zero_le _⟩) (fun H locs hP hD hS => ?_)
        refine lv_ladd hx hb d_Big_add_38 ?_
        refine lv_ladd hx hb d_Big_add_39 ?_
        refine lv_topl (fun x2_5 e_x2_5 => ?_)
        have hf := zz_ltp hf x2_5 e_x2_5
        refine lv_lstore_n hx hb d_Big_add_40 rfl hl (by decide) rfl (fun ls hl => ?_)
        have hl : lv_has ls 6 [(2, .long x2_5), (0, .ref h_v), (1, .ref h_w1), (4, .int y4), (5, .int y5)] := hl
        refine lv_aload_n hx hb d_Big_add_41 rfl (lv_at hl 1 rfl) ?_
        refine lv_iload hx hb d_Big_add_42 (lv_at hl 4 rfl) ?_
        refine lv_lload_n hx hb d_Big_add_44 rfl (lv_at hl 0 rfl) ?_
        obtain ⟨u_6, hu_6, hf⟩ := zz_bd hf
        refine zz_cv (ws' := [(h_v, .inr (0, [.ref h_v_limbs, .int u_6.1])), (h_v_limbs, .inl (cI, n_v_limbs, .inl u_6.2)), (h_w1, .inr (0, [.ref h_w1_limbs, .int w1_size])), (h_w1_limbs, .inl (cI, n_w1_limbs, .inl w1_limbs_a))]) (wc := [(h_v, .inr (0, [.ref h_v_limbs, .int v_size])), (h_v_limbs, .inl (cI, n_v_limbs, .inl v_limbs_a))]) (w' := [(h_v, .inr (0, [.ref h_v_limbs, .int u_6.1])), (h_v_limbs, .inl (cI, n_v_limbs, .inl u_6.2))]) hP hD hS hA [0, 1] [2, 3] [2, 3, 0, 1] rfl rfl (by decide) (by decide) rfl (by decide) (va_runV (As := [.int y5, .long x2_5]) (rest := []) ⟨hx, hb, hml, hown, hw⟩ (c_Big_setLimb l dC dI cI cC cB cJ _ h_v h_v_limbs n_v_limbs y5 x2_5 v_size v_limbs_a u_6 hu_6) (cwV 2 hw (zg_V wd_405 wd_407 we_0_10 wd_5 wd_408) rfl rfl rfl hd_Big_setLimb ⟨Nat.le_of_ble_eq_true rfl, Nat.le_of_ble_eq_true rfl⟩) (zz_preV zz_TE (va_recv (q0 := 0) (ci := 0) hK hP rfl rfl) hP hD hK hS hA trivial [0, 1] rfl (by decide)) rfl rfl hl.1 rfl (lv_room (Nat.le_of_ble_eq_true rfl)) d_Big_add_45 ⟨Nat.zero_le _, Nat.zero_le _⟩) (fun H locs hP hD hS => ?_)
        refine lv_lload_n hx hb d_Big_add_48 rfl (lv_at hl 0 rfl) ?_
        refine lv_bipush (v := 32) hx hb d_Big_add_49 (by decide) ?_
        refine lv_lushr hx hb d_Big_add_51 rfl ?_
        refine lv_topl (fun x2_7 e_x2_7 => ?_)
        have hf := zz_ltp hf x2_7 e_x2_7
        refine lv_lstore_n hx hb d_Big_add_52 rfl hl (by decide) rfl (fun ls hl => ?_)
        have hl : lv_has ls 6 [(2, .long x2_7), (0, .ref h_v), (1, .ref h_w1), (4, .int y4), (5, .int y5)] := hl
        refine lv_iinc (k := 4) (v := y5 + 1) hx hb d_Big_add_53 hl rfl rfl (by decide) rfl (fun ls hl => ?_)
        have hl : lv_has ls 6 [(5, .int (y5 + 1)), (2, .long x2_7), (0, .ref h_v), (1, .ref h_w1), (4, .int y4)] := hl
        refine lv_goto (tgt := 18) hx hb d_Big_add_56 (by decide) ?_
        exact ih x2_7 y4 (y5 + 1) u_6.1 u_6.2 ls _ _ (lv_sub hl [2, 3, 1, 4, 0] rfl) hP hD hS hf
  unfold f_Big_add at hf
  refine lv_lconst (v := 0) hx hb d_Big_add_0 (by decide) ?_
  refine lv_lstore_n hx hb d_Big_add_1 rfl hl (by decide) rfl (fun ls hl => ?_)
  have hl : lv_has ls 6 [(2, .long 0), (0, .ref h_v), (1, .ref h_w1)] := hl
  refine lv_aload_n hx hb d_Big_add_2 rfl (lv_at hl 1 rfl) ?_
  refine va_get (D := (dC, dI)) (ci := 0) (v := .int v_size) (C := R_Big) (T := T_Big) (N := 2) hx hb hw in_Big hown hK hP 0 rfl rfl 1 (by decide) (hw _ wd_91) (fun _ h9 => h9) rfl d_Big_add_3 ?_
  refine lv_aload_n hx hb d_Big_add_6 rfl (lv_at hl 2 rfl) ?_
  refine va_get (D := (dC, dI)) (ci := 0) (v := .int w1_size) (C := R_Big) (T := T_Big) (N := 2) hx hb hw in_Big hown hK hP 2 rfl rfl 1 (by decide) (hw _ wd_91) (fun _ h9 => h9) rfl d_Big_add_7 ?_
  obtain ⟨u_1, hu_1, hf⟩ := zz_bd hf
  refine zz_ci (ws' := [(h_v, .inr (0, [.ref h_v_limbs, .int v_size])), (h_v_limbs, .inl (cI, n_v_limbs, .inl v_limbs_a)), (h_w1, .inr (0, [.ref h_w1_limbs, .int w1_size])), (h_w1_limbs, .inl (cI, n_w1_limbs, .inl w1_limbs_a))]) (wc := []) (w' := []) hP hD hS hA [] [0, 1, 2, 3] [0, 1, 2, 3] rfl rfl (by decide) (by decide) rfl (by decide) (va_runS (As := [.int v_size, .int w1_size]) (rest := []) ⟨hx, hb, hml, hown, hw⟩ (c_Mat_max l dC dI cI cC cB cJ _ v_size w1_size u_1 hu_1) (va_cwS 2 hw (zg_S wd_404 wd_316 wd_16 wd_317) rfl rfl rfl hd_Mat_max ⟨Nat.le_of_ble_eq_true rfl, Nat.le_of_ble_eq_true rfl⟩) (zz_preS zz_TE hP hD hK hS hA trivial [] rfl (by decide)) rfl rfl hl.1 rfl (lv_room (Nat.le_of_ble_eq_true rfl)) d_Big_add_10 ⟨Nat.zero_le _, Nat.zero_le _⟩) (fun H locs hP hD hS => ?_)
  refine lv_istore hx hb d_Big_add_13 hl (by decide) rfl (fun ls hl => ?_)
  have hl : lv_has ls 6 [(4, .int u_1), (2, .long 0), (0, .ref h_v), (1, .ref h_w1)] := hl
  refine lv_iconst (v := 0) hx hb d_Big_add_15 (by decide) ?_
  refine lv_istore hx hb d_Big_add_16 hl (by decide) rfl (fun ls hl => ?_)
  have hl : lv_has ls 6 [(5, .int 0), (4, .int u_1), (2, .long 0), (0, .ref h_v), (1, .ref h_w1)] := hl
  exact hL_18 fu 0 u_1 0 v_size v_limbs_a ls _ _ (lv_sub hl [3, 4, 2, 1, 0] rfl) hP hD hS hf
abbrev ws_Big_subtract : List Cond := .code y_Big_subtract prog_2_method_8_code 7 none :: zw
abbrev rm_Big_subtract : Room := { frames := 1, cells := 0, slots := 0, locals := 21 }
theorem hd_Big_subtract : y_Big_subtract.cls = "RealText$Big" ∧ y_Big_subtract.cls ≠ "java/lang/invoke/MethodHandle" ∧ y_Big_subtract.cls ≠ "java/lang/invoke/VarHandle" ∧ (parseMethodDescriptor y_Big_subtract.desc).map (fun d => d.parameters.length) = some 1 := by decide +kernel
theorem d_Big_subtract_0 : decode prog_2_method_8_code 0 = .ok (.lconst 0, 1) := by decide +kernel
theorem d_Big_subtract_1 : decode prog_2_method_8_code 1 = .ok (.lstore_n 2, 1) := by decide +kernel
theorem d_Big_subtract_2 : decode prog_2_method_8_code 2 = .ok (.iconst 0, 1) := by decide +kernel
theorem d_Big_subtract_3 : decode prog_2_method_8_code 3 = .ok (.istore 4, 2) := by decide +kernel
theorem d_Big_subtract_5 : decode prog_2_method_8_code 5 = .ok (.iload 4, 2) := by decide +kernel
theorem d_Big_subtract_7 : decode prog_2_method_8_code 7 = .ok (.aload_n 0, 1) := by decide +kernel
theorem d_Big_subtract_8 : decode prog_2_method_8_code 8 = .ok (.getfield 13, 3) := by decide +kernel
theorem d_Big_subtract_11 : decode prog_2_method_8_code 11 = .ok (.if_icmp .ge 49, 3) := by decide +kernel
theorem d_Big_subtract_14 : decode prog_2_method_8_code 14 = .ok (.aload_n 0, 1) := by decide +kernel
theorem d_Big_subtract_15 : decode prog_2_method_8_code 15 = .ok (.iload 4, 2) := by decide +kernel
theorem d_Big_subtract_17 : decode prog_2_method_8_code 17 = .ok (.invokevirtual 38, 3) := by decide +kernel
theorem d_Big_subtract_20 : decode prog_2_method_8_code 20 = .ok (.aload_n 1, 1) := by decide +kernel
theorem d_Big_subtract_21 : decode prog_2_method_8_code 21 = .ok (.iload 4, 2) := by decide +kernel
theorem d_Big_subtract_23 : decode prog_2_method_8_code 23 = .ok (.invokevirtual 38, 3) := by decide +kernel
theorem d_Big_subtract_26 : decode prog_2_method_8_code 26 = .ok (.lsub, 1) := by decide +kernel
theorem d_Big_subtract_27 : decode prog_2_method_8_code 27 = .ok (.lload_n 2, 1) := by decide +kernel
theorem d_Big_subtract_28 : decode prog_2_method_8_code 28 = .ok (.lsub, 1) := by decide +kernel
theorem d_Big_subtract_29 : decode prog_2_method_8_code 29 = .ok (.lstore 5, 2) := by decide +kernel
theorem d_Big_subtract_31 : decode prog_2_method_8_code 31 = .ok (.aload_n 0, 1) := by decide +kernel
theorem d_Big_subtract_32 : decode prog_2_method_8_code 32 = .ok (.getfield 7, 3) := by decide +kernel
theorem d_Big_subtract_35 : decode prog_2_method_8_code 35 = .ok (.iload 4, 2) := by decide +kernel
theorem d_Big_subtract_37 : decode prog_2_method_8_code 37 = .ok (.lload 5, 2) := by decide +kernel
theorem d_Big_subtract_39 : decode prog_2_method_8_code 39 = .ok (.l2i, 1) := by decide +kernel
theorem d_Big_subtract_40 : decode prog_2_method_8_code 40 = .ok (.iastore, 1) := by decide +kernel
theorem d_Big_subtract_41 : decode prog_2_method_8_code 41 = .ok (.lload 5, 2) := by decide +kernel
theorem d_Big_subtract_43 : decode prog_2_method_8_code 43 = .ok (.lconst 0, 1) := by decide +kernel
theorem d_Big_subtract_44 : decode prog_2_method_8_code 44 = .ok (.lcmp, 1) := by decide +kernel
theorem d_Big_subtract_45 : decode prog_2_method_8_code 45 = .ok (.ifCond .ge 7, 3) := by decide +kernel
theorem d_Big_subtract_48 : decode prog_2_method_8_code 48 = .ok (.lconst 1, 1) := by decide +kernel
theorem d_Big_subtract_49 : decode prog_2_method_8_code 49 = .ok (.goto 4, 3) := by decide +kernel
theorem d_Big_subtract_52 : decode prog_2_method_8_code 52 = .ok (.lconst 0, 1) := by decide +kernel
theorem d_Big_subtract_53 : decode prog_2_method_8_code 53 = .ok (.lstore_n 2, 1) := by decide +kernel
theorem d_Big_subtract_54 : decode prog_2_method_8_code 54 = .ok (.iinc 4 1, 3) := by decide +kernel
theorem d_Big_subtract_57 : decode prog_2_method_8_code 57 = .ok (.goto (-52), 3) := by decide +kernel
theorem d_Big_subtract_60 : decode prog_2_method_8_code 60 = .ok (.aload_n 0, 1) := by decide +kernel
theorem d_Big_subtract_61 : decode prog_2_method_8_code 61 = .ok (.invokevirtual 23, 3) := by decide +kernel
theorem d_Big_subtract_64 : decode prog_2_method_8_code 64 = .ok (.return_, 1) := by decide +kernel
def f_Big_subtract_5 (fu : Nat) (n_v_limbs : Nat) (n_w1_limbs : Nat) (w1_size : Int32) (w1_limbs_a : Nat → Int32)  : Nat → Int64 → Int32 → Int32 → (Nat → Int32) → Option (Int32 × (Nat → Int32))
  | 0, _, _, _, _ => none
  | n + 1, y2, y4, v_size, v_limbs_a =>
  (if v_size ≤ y4 then
  (f_Big_trim fu n_v_limbs v_size v_limbs_a).bind fun u_1 =>
  some (u_1, v_limbs_a)
  else
  (f_Big_limbAt n_v_limbs y4 v_size v_limbs_a).bind fun u_2 =>
  (f_Big_limbAt n_w1_limbs y4 w1_size w1_limbs_a).bind fun u_3 =>
  zz_lt ((u_2 - u_3) - y2) fun x5_4 =>
  if zz_in y4 n_v_limbs = true then
  (if 0 ≤ (lg_cmp x5_4 0) then
  f_Big_subtract_5 fu n_v_limbs n_w1_limbs w1_size w1_limbs_a n 0 (y4 + 1) v_size (upd v_limbs_a y4.toNatClampNeg x5_4.toInt32)
  else
  f_Big_subtract_5 fu n_v_limbs n_w1_limbs w1_size w1_limbs_a n 1 (y4 + 1) v_size (upd v_limbs_a y4.toNatClampNeg x5_4.toInt32))
  else none)
theorem f_Big_subtract_5_s (fu : Nat) (n_v_limbs : Nat) (n_w1_limbs : Nat) (w1_size : Int32) (w1_limbs_a : Nat → Int32)  (n : Nat) (y2 : Int64) (y4 : Int32) (v_size : Int32) (v_limbs_a : Nat → Int32) : f_Big_subtract_5 fu n_v_limbs n_w1_limbs w1_size w1_limbs_a (n + 1) y2 y4 v_size v_limbs_a =
  (if v_size ≤ y4 then
  (f_Big_trim fu n_v_limbs v_size v_limbs_a).bind fun u_1 =>
  some (u_1, v_limbs_a)
  else
  (f_Big_limbAt n_v_limbs y4 v_size v_limbs_a).bind fun u_2 =>
  (f_Big_limbAt n_w1_limbs y4 w1_size w1_limbs_a).bind fun u_3 =>
  zz_lt ((u_2 - u_3) - y2) fun x5_4 =>
  if zz_in y4 n_v_limbs = true then
  (if 0 ≤ (lg_cmp x5_4 0) then
  f_Big_subtract_5 fu n_v_limbs n_w1_limbs w1_size w1_limbs_a n 0 (y4 + 1) v_size (upd v_limbs_a y4.toNatClampNeg x5_4.toInt32)
  else
  f_Big_subtract_5 fu n_v_limbs n_w1_limbs w1_size w1_limbs_a n 1 (y4 + 1) v_size (upd v_limbs_a y4.toNatClampNeg x5_4.toInt32))
  else none) := rfl
def f_Big_subtract (fu : Nat) (n_v_limbs : Nat) (n_w1_limbs : Nat) (v_size : Int32) (v_limbs_a : Nat → Int32) (w1_size : Int32) (w1_limbs_a : Nat → Int32) : Option (Int32 × (Nat → Int32)) :=
  f_Big_subtract_5 fu n_v_limbs n_w1_limbs w1_size w1_limbs_a fu 0 0 v_size v_limbs_a
set_option maxHeartbeats 4000000 in
set_option maxRecDepth 100000 in
theorem c_Big_subtract (l : Launch) (dC : Nat → ClassId) (dI : Nat → Nat → Nat) (cI cC cB cJ : ClassId) (fu : Nat) (sz : Nat) (h_v : Nat) (h_v_limbs : Nat) (h_w1 : Nat) (h_w1_limbs : Nat) (n_v_limbs : Nat) (n_w1_limbs : Nat) (v_size : Int32) (v_limbs_a : Nat → Int32) (w1_size : Int32) (w1_limbs_a : Nat → Int32) (u : Int32 × (Nat → Int32)) (hf : f_Big_subtract fu n_v_limbs n_w1_limbs v_size v_limbs_a w1_size w1_limbs_a = some u) : Met l y_Big_subtract ws_Big_subtract rm_Big_subtract (zz_P zz_T (dC, dI) vwCl (zz_tys cI cC cB cJ) [.ref h_v, .ref h_w1] [(h_v, .inr (0, [.ref h_v_limbs, .int v_size])), (h_v_limbs, .inl (cI, n_v_limbs, .inl v_limbs_a)), (h_w1, .inr (0, [.ref h_w1_limbs, .int w1_size])), (h_w1_limbs, .inl (cI, n_w1_limbs, .inl w1_limbs_a))] sz) (zz_Qv (dC, dI) vwCl [(h_v, .inr (0, [.ref h_v_limbs, .int u.1])), (h_v_limbs, .inl (cI, n_v_limbs, .inl u.2)), (h_w1, .inr (0, [.ref h_w1_limbs, .int w1_size])), (h_w1_limbs, .inl (cI, n_w1_limbs, .inl w1_limbs_a))] (va_A [(h_v, .inr (0, [.ref h_v_limbs, .int v_size])), (h_v_limbs, .inl (cI, n_v_limbs, .inl v_limbs_a)), (h_w1, .inr (0, [.ref h_w1_limbs, .int w1_size])), (h_w1_limbs, .inl (cI, n_w1_limbs, .inl w1_limbs_a))] sz)) 0 0 (va_A [(h_v, .inr (0, [.ref h_v_limbs, .int v_size])), (h_v_limbs, .inl (cI, n_v_limbs, .inl v_limbs_a)), (h_w1, .inr (0, [.ref h_w1_limbs, .int w1_size])), (h_w1_limbs, .inl (cI, n_w1_limbs, .inl w1_limbs_a))] sz) := by
  refine Met.ofW (cc := prog_2_method_8_code) (maxL := 7) (ret := none) (by decide +kernel) rfl ?_
  intro p e s m args below meth c s₁ B hml hv
  obtain ⟨rfl, hsz, hP, hK, hD0, hX⟩ := hv
  have hx := B.exec
  have hb := B.bytes
  have hr := B.returns
  have hts := atoms_spec (ws := ws_Big_subtract) B.pre
  have hw : ∀ w ∈ zw, w.before [.ref h_v, .ref h_w1].toArray s = true := fun w h => hts w (List.mem_cons_of_mem _ h)
  have hown : s.vm.findClass R_Big = some m.cls := findClass_of_methodNamed B.named
  have hlocks := B.notSynchronized
  subst hsz
  have hD := hD0.self (sz := s.heap.size)
  generalize hAe : va_A [(h_v, .inr (0, [.ref h_v_limbs, .int v_size])), (h_v_limbs, .inl (cI, n_v_limbs, .inl v_limbs_a)), (h_w1, .inr (0, [.ref h_w1_limbs, .int w1_size])), (h_w1_limbs, .inl (cI, n_w1_limbs, .inl w1_limbs_a))] s.heap.size = A at hD hX ⊢
  have hA : ∀ q : Nat, s.heap.size ≤ q → A q := fun q h => by rw [← hAe]; exact Or.inr h
  have hS : va_S A s.heap s.heap [] := va_S.rf
  have hl := lv_entry [.ref h_v, .ref h_w1] (n := 7) (Nat.le_of_ble_eq_true rfl)
  rw [lg_entry_eq]
  generalize (lg_sl [.ref h_v, .ref h_w1] ++ List.replicate (7 - (lg_sl [.ref h_v, .ref h_w1]).length) Slot.unset).toArray = ls at hl ⊢
  have hl : lv_has ls 7 [(0, .ref h_v), (1, .ref h_w1)] := hl
  refine zz_endv hx hb hr hlocks (fun Qq hend => ?_)
  have hL_5 : ∀ (n : Nat), ∀ (y2 : Int64) (y4 : Int32) (v_size : Int32) (v_limbs_a : Nat → Int32) (ls : Array Slot) (H : Heap) (locs : List Loc), lv_has ls 7 [(0, .ref h_v), (1, .ref h_w1), (2, .long y2), (4, .int y4)] → va_P (dC, dI) vwCl [(h_v, .inr (0, [.ref h_v_limbs, .int v_size])), (h_v_limbs, .inl (cI, n_v_limbs, .inl v_limbs_a)), (h_w1, .inr (0, [.ref h_w1_limbs, .int w1_size])), (h_w1_limbs, .inl (cI, n_w1_limbs, .inl w1_limbs_a))] H → va_D A [(h_v, .inr (0, [.ref h_v_limbs, .int v_size])), (h_v_limbs, .inl (cI, n_v_limbs, .inl v_limbs_a)), (h_w1, .inr (0, [.ref h_w1_limbs, .int w1_size])), (h_w1_limbs, .inl (cI, n_w1_limbs, .inl w1_limbs_a))] → va_S A s.heap H locs → f_Big_subtract_5 fu n_v_limbs n_w1_limbs w1_size w1_limbs_a n y2 y4 v_size v_limbs_a = some u → W p l e (headSpec ws_Big_subtract rm_Big_subtract).room s m [.ref h_v, .ref h_w1].toArray below meth c H locs 0 0 Qq (F0 m 5 ls []) := by
    intro n
    induction n with
    | zero =>
      intro y2 y4 v_size v_limbs_a ls H locs hl hP hD hS hf
      exact zz_no hf
    | succ n ih =>
      intro y2 y4 v_size v_limbs_a ls H locs hl hP hD hS hf
      rw [f_Big_subtract_5_s] at hf
      refine lv_iload hx hb d_Big_subtract_5 (lv_at hl 3 rfl) ?_
      refine lv_aload_n hx hb d_Big_subtract_7 rfl (lv_at hl 0 rfl) ?_
      refine va_get (D := (dC, dI)) (ci := 0) (v := .int v_size) (C := R_Big) (T := T_Big) (N := 2) hx hb hw in_Big hown hK hP 0 rfl rfl 1 (by decide) (hw _ wd_91) (fun _ h9 => h9) rfl d_Big_subtract_8 ?_
      refine lv_icmp_ge (tgt := 60) hx hb d_Big_subtract_11 (by decide) (fun hc => ?_) (fun hc => ?_)
      · have hf := zz_ifp hc hf
        refine lv_aload_n hx hb d_Big_subtract_60 rfl (lv_at hl 0 rfl) ?_
        obtain ⟨u_1, hu_1, hf⟩ := zz_bd hf
        refine zz_cv (ws' := [(h_v, .inr (0, [.ref h_v_limbs, .int u_1])), (h_v_limbs, .inl (cI, n_v_limbs, .inl v_limbs_a)), (h_w1, .inr (0, [.ref h_w1_limbs, .int w1_size])), (h_w1_limbs, .inl (cI, n_w1_limbs, .inl w1_limbs_a))]) (wc := [(h_v, .inr (0, [.ref h_v_limbs, .int v_size])), (h_v_limbs, .inl (cI, n_v_limbs, .inl v_limbs_a))]) (w' := [(h_v, .inr (0, [.ref h_v_limbs, .int u_1])), (h_v_limbs, .inl (cI, n_v_limbs, .inl v_limbs_a))]) hP hD hS hA [0, 1] [2, 3] [2, 3, 0, 1] rfl rfl (by decide) (by decide) rfl (by decide) (va_runV (As := []) (rest := []) ⟨hx, hb, hml, hown, hw⟩ (c_Big_trim l dC dI cI cC cB cJ fu _ h_v h_v_limbs n_v_limbs v_size v_limbs_a u_1 hu_1) (cwV 0 hw (zg_V wd_331 wd_333 we_0_5 wd_5 wd_334) rfl rfl rfl hd_Big_trim ⟨Nat.le_of_ble_eq_true rfl, Nat.le_of_ble_eq_true rfl⟩) (zz_preV zz_TE (va_recv (q0 := 0) (ci := 0) hK hP rfl rfl) hP hD hK hS hA trivial [0, 1] rfl (by decide)) rfl rfl hl.1 rfl (lv_room (Nat.le_of_ble_eq_true rfl)) d_Big_subtract_61 ⟨Nat.zero_le _, Nat.zero_le _⟩) (fun H locs hP hD hS => ?_)
        cases hf
        exact hend 64 ls _ _ d_Big_subtract_64 hP hD hS
      · have hf := zz_ifn hc hf
        refine lv_aload_n hx hb d_Big_subtract_14 rfl (lv_at hl 0 rfl) ?_
        refine lv_iload hx hb d_Big_subtract_15 (lv_at hl 3 rfl) ?_
        obtain ⟨u_2, hu_2, hf⟩ := zz_bd hf
        refine zz_cl (ws' := [(h_v, .inr (0, [.ref h_v_limbs, .int v_size])), (h_v_limbs, .inl (cI, n_v_limbs, .inl v_limbs_a)), (h_w1, .inr (0, [.ref h_w1_limbs, .int w1_size])), (h_w1_limbs, .inl (cI, n_w1_limbs, .inl w1_limbs_a))]) (wc := [(h_v, .inr (0, [.ref h_v_limbs, .int v_size])), (h_v_limbs, .inl (cI, n_v_limbs, .inl v_limbs_a))]) (w' := [(h_v, .inr (0, [.ref h_v_limbs, .int v_size])), (h_v_limbs, .inl (cI, n_v_limbs, .inl v_limbs_a))]) hP hD hS hA [0, 1] [2, 3] [2, 3, 0, 1] rfl rfl (by decide) (by decide) rfl (by decide) (va_runV (As := [.int y4]) (rest := []) ⟨hx, hb, hml, hown, hw⟩ (c_Big_limbAt l dC dI cI cC cB cJ _ h_v h_v_limbs n_v_limbs y4 v_size v_limbs_a u_2 hu_2) (cwV 1 hw (zg_V wd_339 wd_341 we_0_6 wd_5 wd_342) rfl rfl rfl hd_Big_limbAt ⟨Nat.le_of_ble_eq_true rfl, Nat.le_of_ble_eq_true rfl⟩) (zz_preV zz_TE (va_recv (q0 := 0) (ci := 0) hK hP rfl rfl) hP hD hK hS hA trivial [0, 1] rfl (by decide)) rfl rfl hl.1 rfl (lv_room (Nat.le_of_ble_eq_true rfl)) d_Big_subtract_17 ⟨Nat.zero_le _, Nat.zero_le _⟩) (fun H locs hP hD hS => ?_)
        refine lv_aload_n hx hb d_Big_subtract_20 rfl (lv_at hl 1 rfl) ?_
        refine lv_iload hx hb d_Big_subtract_21 (lv_at hl 3 rfl) ?_
        obtain ⟨u_3, hu_3, hf⟩ := zz_bd hf
        refine zz_cl (ws' := [(h_v, .inr (0, [.ref h_v_limbs, .int v_size])), (h_v_limbs, .inl (cI, n_v_limbs, .inl v_limbs_a)), (h_w1, .inr (0, [.ref h_w1_limbs, .int w1_size])), (h_w1_limbs, .inl (cI, n_w1_limbs, .inl w1_limbs_a))]) (wc := [(h_w1, .inr (0, [.ref h_w1_limbs, .int w1_size])), (h_w1_limbs, .inl (cI, n_w1_limbs, .inl w1_limbs_a))]) (w' := [(h_w1, .inr (0, [.ref h_w1_limbs, .int w1_size])), (h_w1_limbs, .inl (cI, n_w1_limbs, .inl w1_limbs_a))]) hP hD hS hA [2, 3] [0, 1] [0, 1, 2, 3] rfl rfl (by decide) (by decide) rfl (by decide) (va_runV (As := [.int y4]) (rest := [.long u_2]) ⟨hx, hb, hml, hown, hw⟩ (c_Big_limbAt l dC dI cI cC cB cJ _ h_w1 h_w1_limbs n_w1_limbs y4 w1_size w1_limbs_a u_3 hu_3) (cwV 1 hw (zg_V wd_339 wd_341 we_0_6 wd_5 wd_342) rfl rfl rfl hd_Big_limbAt ⟨Nat.le_of_ble_eq_true rfl, Nat.le_of_ble_eq_true rfl⟩) (zz_preV zz_TE (va_recv (q0 := 2) (ci := 0) hK hP rfl rfl) hP hD hK hS hA trivial [2, 3] rfl (by decide)) rfl rfl hl.1 rfl (lv_room (Nat.le_of_ble_eq_true rfl)) d_Big_subtract_23 ⟨Nat.zero_le _, Nat.zero_le _⟩) (fun H locs hP hD hS => ?_)
        refine lv_lsub hx hb d_Big_subtract_26 ?_
        refine lv_lload_n hx hb d_Big_subtract_27 rfl (lv_at hl 2 rfl) ?_
        refine lv_lsub hx hb d_Big_subtract_28 ?_
        refine lv_topl (fun x5_4 e_x5_4 => ?_)
        have hf := zz_ltp hf x5_4 e_x5_4
        refine lv_lstore hx hb d_Big_subtract_29 hl (by decide) rfl (fun ls hl => ?_)
        have hl : lv_has ls 7 [(5, .long x5_4), (0, .ref h_v), (1, .ref h_w1), (2, .long y2), (4, .int y4)] := hl
        refine lv_aload_n hx hb d_Big_subtract_31 rfl (lv_at hl 1 rfl) ?_
        refine va_get (D := (dC, dI)) (ci := 0) (v := .ref h_v_limbs) (C := R_Big) (T := T_Big) (N := 2) hx hb hw in_Big hown hK hP 0 rfl rfl 0 (by decide) (hw _ wd_90) (fun _ h9 => h9) rfl d_Big_subtract_32 ?_
        refine lv_iload hx hb d_Big_subtract_35 (lv_at hl 4 rfl) ?_
        refine lv_lload hx hb d_Big_subtract_37 (lv_at hl 0 rfl) ?_
        refine lv_l2i hx hb d_Big_subtract_39 rfl ?_
        obtain ⟨hb_5, hf⟩ := zz_gd hf
        refine va_iast hx hb hK hP hD hS 1 0 rfl rfl (zz_vp hb_5) d_Big_subtract_40 (fun H locs hP hD hS => ?_)
        have hP : va_P (dC, dI) vwCl [(h_v, .inr (0, [.ref h_v_limbs, .int v_size])), (h_v_limbs, .inl (cI, n_v_limbs, .inl (upd v_limbs_a y4.toNatClampNeg x5_4.toInt32))), (h_w1, .inr (0, [.ref h_w1_limbs, .int w1_size])), (h_w1_limbs, .inl (cI, n_w1_limbs, .inl w1_limbs_a))] H := hP
        have hD : va_D A [(h_v, .inr (0, [.ref h_v_limbs, .int v_size])), (h_v_limbs, .inl (cI, n_v_limbs, .inl (upd v_limbs_a y4.toNatClampNeg x5_4.toInt32))), (h_w1, .inr (0, [.ref h_w1_limbs, .int w1_size])), (h_w1_limbs, .inl (cI, n_w1_limbs, .inl w1_limbs_a))] := hD
        refine lv_lload hx hb d_Big_subtract_41 (lv_at hl 0 rfl) ?_
        refine lv_lconst (v := 0) hx hb d_Big_subtract_43 (by decide) ?_
        refine W.lcmp hx hb d_Big_subtract_44 ?_
        refine lv_if_ge (tgt := 52) hx hb d_Big_subtract_45 (by decide) (fun hc => ?_) (fun hc => ?_)
        · have hf := zz_ifp hc hf
          refine lv_lconst (v := 0) hx hb d_Big_subtract_52 (by decide) ?_
          refine lv_lstore_n hx hb d_Big_subtract_53 rfl hl (by decide) rfl (fun ls hl => ?_)
          have hl : lv_has ls 7 [(2, .long 0), (5, .long x5_4), (0, .ref h_v), (1, .ref h_w1), (4, .int y4)] := hl
          refine lv_iinc (k := 4) (v := y4 + 1) hx hb d_Big_subtract_54 hl rfl rfl (by decide) rfl (fun ls hl => ?_)
          have hl : lv_has ls 7 [(4, .int (y4 + 1)), (2, .long 0), (5, .long x5_4), (0, .ref h_v), (1, .ref h_w1)] := hl
          refine lv_goto (tgt := 5) hx hb d_Big_subtract_57 (by decide) ?_
          exact ih 0 (y4 + 1) v_size (upd v_limbs_a y4.toNatClampNeg x5_4.toInt32) ls _ _ (lv_sub hl [3, 4, 1, 0] rfl) hP hD hS hf
        · have hf := zz_ifn hc hf
          refine lv_lconst (v := 1) hx hb d_Big_subtract_48 (by decide) ?_
          refine lv_goto (tgt := 53) hx hb d_Big_subtract_49 (by decide) ?_
          refine lv_lstore_n hx hb d_Big_subtract_53 rfl hl (by decide) rfl (fun ls hl => ?_)
          have hl : lv_has ls 7 [(2, .long 1), (5, .long x5_4), (0, .ref h_v), (1, .ref h_w1), (4, .int y4)] := hl
          refine lv_iinc (k := 4) (v := y4 + 1) hx hb d_Big_subtract_54 hl rfl rfl (by decide) rfl (fun ls hl => ?_)
          have hl : lv_has ls 7 [(4, .int (y4 + 1)), (2, .long 1), (5, .long x5_4), (0, .ref h_v), (1, .ref h_w1)] := hl
          refine lv_goto (tgt := 5) hx hb d_Big_subtract_57 (by decide) ?_
          exact ih 1 (y4 + 1) v_size (upd v_limbs_a y4.toNatClampNeg x5_4.toInt32) ls _ _ (lv_sub hl [3, 4, 1, 0] rfl) hP hD hS hf
  unfold f_Big_subtract at hf
  refine lv_lconst (v := 0) hx hb d_Big_subtract_0 (by decide) ?_
  refine lv_lstore_n hx hb d_Big_subtract_1 rfl hl (by decide) rfl (fun ls hl => ?_)
  have hl : lv_has ls 7 [(2, .long 0), (0, .ref h_v), (1, .ref h_w1)] := hl
  refine lv_iconst (v := 0) hx hb d_Big_subtract_2 (by decide) ?_
  refine lv_istore hx hb d_Big_subtract_3 hl (by decide) rfl (fun ls hl => ?_)
  have hl : lv_has ls 7 [(4, .int 0), (2, .long 0), (0, .ref h_v), (1, .ref h_w1)] := hl
  exact hL_5 fu 0 0 v_size v_limbs_a ls _ _ (lv_sub hl [2, 3, 1, 0] rfl) hP hD hS hf
abbrev ws_Big_multiplyAndAdd : List Cond := .code y_Big_multiplyAndAdd prog_2_method_9_code 6 none :: zw
abbrev rm_Big_multiplyAndAdd : Room := { frames := 1, cells := 0, slots := 0, locals := 22 }
theorem hd_Big_multiplyAndAdd : y_Big_multiplyAndAdd.cls = "RealText$Big" ∧ y_Big_multiplyAndAdd.cls ≠ "java/lang/invoke/MethodHandle" ∧ y_Big_multiplyAndAdd.cls ≠ "java/lang/invoke/VarHandle" ∧ (parseMethodDescriptor y_Big_multiplyAndAdd.desc).map (fun d => d.parameters.length) = some 2 := by decide +kernel
theorem d_Big_multiplyAndAdd_0 : decode prog_2_method_9_code 0 = .ok (.iload_n 2, 1) := by decide +kernel
theorem d_Big_multiplyAndAdd_1 : decode prog_2_method_9_code 1 = .ok (.i2l, 1) := by decide +kernel
theorem d_Big_multiplyAndAdd_2 : decode prog_2_method_9_code 2 = .ok (.lstore_n 3, 1) := by decide +kernel
theorem d_Big_multiplyAndAdd_3 : decode prog_2_method_9_code 3 = .ok (.iconst 0, 1) := by decide +kernel
theorem d_Big_multiplyAndAdd_4 : decode prog_2_method_9_code 4 = .ok (.istore 5, 2) := by decide +kernel
theorem d_Big_multiplyAndAdd_6 : decode prog_2_method_9_code 6 = .ok (.iload 5, 2) := by decide +kernel
theorem d_Big_multiplyAndAdd_8 : decode prog_2_method_9_code 8 = .ok (.aload_n 0, 1) := by decide +kernel
theorem d_Big_multiplyAndAdd_9 : decode prog_2_method_9_code 9 = .ok (.getfield 13, 3) := by decide +kernel
theorem d_Big_multiplyAndAdd_12 : decode prog_2_method_9_code 12 = .ok (.if_icmp .ge 35, 3) := by decide +kernel
theorem d_Big_multiplyAndAdd_15 : decode prog_2_method_9_code 15 = .ok (.lload_n 3, 1) := by decide +kernel
theorem d_Big_multiplyAndAdd_16 : decode prog_2_method_9_code 16 = .ok (.aload_n 0, 1) := by decide +kernel
theorem d_Big_multiplyAndAdd_17 : decode prog_2_method_9_code 17 = .ok (.iload 5, 2) := by decide +kernel
theorem d_Big_multiplyAndAdd_19 : decode prog_2_method_9_code 19 = .ok (.invokevirtual 38, 3) := by decide +kernel
theorem d_Big_multiplyAndAdd_22 : decode prog_2_method_9_code 22 = .ok (.iload_n 1, 1) := by decide +kernel
theorem d_Big_multiplyAndAdd_23 : decode prog_2_method_9_code 23 = .ok (.i2l, 1) := by decide +kernel
theorem d_Big_multiplyAndAdd_24 : decode prog_2_method_9_code 24 = .ok (.lmul, 1) := by decide +kernel
theorem d_Big_multiplyAndAdd_25 : decode prog_2_method_9_code 25 = .ok (.ladd, 1) := by decide +kernel
theorem d_Big_multiplyAndAdd_26 : decode prog_2_method_9_code 26 = .ok (.lstore_n 3, 1) := by decide +kernel
theorem d_Big_multiplyAndAdd_27 : decode prog_2_method_9_code 27 = .ok (.aload_n 0, 1) := by decide +kernel
theorem d_Big_multiplyAndAdd_28 : decode prog_2_method_9_code 28 = .ok (.getfield 7, 3) := by decide +kernel
theorem d_Big_multiplyAndAdd_31 : decode prog_2_method_9_code 31 = .ok (.iload 5, 2) := by decide +kernel
theorem d_Big_multiplyAndAdd_33 : decode prog_2_method_9_code 33 = .ok (.lload_n 3, 1) := by decide +kernel
theorem d_Big_multiplyAndAdd_34 : decode prog_2_method_9_code 34 = .ok (.l2i, 1) := by decide +kernel
theorem d_Big_multiplyAndAdd_35 : decode prog_2_method_9_code 35 = .ok (.iastore, 1) := by decide +kernel
theorem d_Big_multiplyAndAdd_36 : decode prog_2_method_9_code 36 = .ok (.lload_n 3, 1) := by decide +kernel
theorem d_Big_multiplyAndAdd_37 : decode prog_2_method_9_code 37 = .ok (.bipush 32, 2) := by decide +kernel
theorem d_Big_multiplyAndAdd_39 : decode prog_2_method_9_code 39 = .ok (.lushr, 1) := by decide +kernel
theorem d_Big_multiplyAndAdd_40 : decode prog_2_method_9_code 40 = .ok (.lstore_n 3, 1) := by decide +kernel
theorem d_Big_multiplyAndAdd_41 : decode prog_2_method_9_code 41 = .ok (.iinc 5 1, 3) := by decide +kernel
theorem d_Big_multiplyAndAdd_44 : decode prog_2_method_9_code 44 = .ok (.goto (-38), 3) := by decide +kernel
theorem d_Big_multiplyAndAdd_47 : decode prog_2_method_9_code 47 = .ok (.lload_n 3, 1) := by decide +kernel
theorem d_Big_multiplyAndAdd_48 : decode prog_2_method_9_code 48 = .ok (.lconst 0, 1) := by decide +kernel
theorem d_Big_multiplyAndAdd_49 : decode prog_2_method_9_code 49 = .ok (.lcmp, 1) := by decide +kernel
theorem d_Big_multiplyAndAdd_50 : decode prog_2_method_9_code 50 = .ok (.ifCond .eq 8, 3) := by decide +kernel
theorem d_Big_multiplyAndAdd_53 : decode prog_2_method_9_code 53 = .ok (.aload_n 0, 1) := by decide +kernel
theorem d_Big_multiplyAndAdd_54 : decode prog_2_method_9_code 54 = .ok (.lload_n 3, 1) := by decide +kernel
theorem d_Big_multiplyAndAdd_55 : decode prog_2_method_9_code 55 = .ok (.invokevirtual 19, 3) := by decide +kernel
theorem d_Big_multiplyAndAdd_58 : decode prog_2_method_9_code 58 = .ok (.return_, 1) := by decide +kernel
def f_Big_multiplyAndAdd_6 (fu : Nat) (n_v_limbs : Nat) (x1 : Int32) (x2 : Int32)  : Nat → Int64 → Int32 → Int32 → (Nat → Int32) → Option (Int32 × (Nat → Int32))
  | 0, _, _, _, _ => none
  | n + 1, y3, y5, v_size, v_limbs_a =>
  (if v_size ≤ y5 then
  (if (lg_cmp y3 0) = 0 then
  some (v_size, v_limbs_a)
  else
  (f_Big_addLimb n_v_limbs y3 v_size v_limbs_a).bind fun u_1 =>
  some (u_1.1, u_1.2))
  else
  (f_Big_limbAt n_v_limbs y5 v_size v_limbs_a).bind fun u_2 =>
  zz_lt (y3 + (u_2 * x1.toInt64)) fun x3_3 =>
  if zz_in y5 n_v_limbs = true then
  zz_lt ((x3_3.toUInt64 >>> ((32 : Int32).toInt64.toUInt64 &&& Int64.toUInt64 63)).toInt64) fun x3_5 =>
  f_Big_multiplyAndAdd_6 fu n_v_limbs x1 x2 n x3_5 (y5 + 1) v_size (upd v_limbs_a y5.toNatClampNeg x3_3.toInt32)
  else none)
theorem f_Big_multiplyAndAdd_6_s (fu : Nat) (n_v_limbs : Nat) (x1 : Int32) (x2 : Int32)  (n : Nat) (y3 : Int64) (y5 : Int32) (v_size : Int32) (v_limbs_a : Nat → Int32) : f_Big_multiplyAndAdd_6 fu n_v_limbs x1 x2 (n + 1) y3 y5 v_size v_limbs_a =
  (if v_size ≤ y5 then
  (if (lg_cmp y3 0) = 0 then
  some (v_size, v_limbs_a)
  else
  (f_Big_addLimb n_v_limbs y3 v_size v_limbs_a).bind fun u_1 =>
  some (u_1.1, u_1.2))
  else
  (f_Big_limbAt n_v_limbs y5 v_size v_limbs_a).bind fun u_2 =>
  zz_lt (y3 + (u_2 * x1.toInt64)) fun x3_3 =>
  if zz_in y5 n_v_limbs = true then
  zz_lt ((x3_3.toUInt64 >>> ((32 : Int32).toInt64.toUInt64 &&& Int64.toUInt64 63)).toInt64) fun x3_5 =>
  f_Big_multiplyAndAdd_6 fu n_v_limbs x1 x2 n x3_5 (y5 + 1) v_size (upd v_limbs_a y5.toNatClampNeg x3_3.toInt32)
  else none) := rfl
def f_Big_multiplyAndAdd (fu : Nat) (n_v_limbs : Nat) (x1 : Int32) (x2 : Int32) (v_size : Int32) (v_limbs_a : Nat → Int32) : Option (Int32 × (Nat → Int32)) :=
  f_Big_multiplyAndAdd_6 fu n_v_limbs x1 x2 fu x2.toInt64 0 v_size v_limbs_a
set_option maxHeartbeats 4000000 in
set_option maxRecDepth 100000 in
theorem c_Big_multiplyAndAdd (l : Launch) (dC : Nat → ClassId) (dI : Nat → Nat → Nat) (cI cC cB cJ : ClassId) (fu : Nat) (sz : Nat) (h_v : Nat) (h_v_limbs : Nat) (n_v_limbs : Nat) (x1 : Int32) (x2 : Int32) (v_size : Int32) (v_limbs_a : Nat → Int32) (u : Int32 × (Nat → Int32)) (hf : f_Big_multiplyAndAdd fu n_v_limbs x1 x2 v_size v_limbs_a = some u) : Met l y_Big_multiplyAndAdd ws_Big_multiplyAndAdd rm_Big_multiplyAndAdd (zz_P zz_T (dC, dI) vwCl (zz_tys cI cC cB cJ) [.ref h_v, .int x1, .int x2] [(h_v, .inr (0, [.ref h_v_limbs, .int v_size])), (h_v_limbs, .inl (cI, n_v_limbs, .inl v_limbs_a))] sz) (zz_Qv (dC, dI) vwCl [(h_v, .inr (0, [.ref h_v_limbs, .int u.1])), (h_v_limbs, .inl (cI, n_v_limbs, .inl u.2))] (va_A [(h_v, .inr (0, [.ref h_v_limbs, .int v_size])), (h_v_limbs, .inl (cI, n_v_limbs, .inl v_limbs_a))] sz)) 0 0 (va_A [(h_v, .inr (0, [.ref h_v_limbs, .int v_size])), (h_v_limbs, .inl (cI, n_v_limbs, .inl v_limbs_a))] sz) := by
  refine Met.ofW (cc := prog_2_method_9_code) (maxL := 6) (ret := none) (by decide +kernel) rfl ?_
  intro p e s m args below meth c s₁ B hml hv
  obtain ⟨rfl, hsz, hP, hK, hD0, hX⟩ := hv
  have hx := B.exec
  have hb := B.bytes
  have hr := B.returns
  have hts := atoms_spec (ws := ws_Big_multiplyAndAdd) B.pre
  have hw : ∀ w ∈ zw, w.before [.ref h_v, .int x1, .int x2].toArray s = true := fun w h => hts w (List.mem_cons_of_mem _ h)
  have hown : s.vm.findClass R_Big = some m.cls := findClass_of_methodNamed B.named
  have hlocks := B.notSynchronized
  subst hsz
  have hD := hD0.self (sz := s.heap.size)
  generalize hAe : va_A [(h_v, .inr (0, [.ref h_v_limbs, .int v_size])), (h_v_limbs, .inl (cI, n_v_limbs, .inl v_limbs_a))] s.heap.size = A at hD hX ⊢
  have hA : ∀ q : Nat, s.heap.size ≤ q → A q := fun q h => by rw [← hAe]; exact Or.inr h
  have hS : va_S A s.heap s.heap [] := va_S.rf
  have hl := lv_entry [.ref h_v, .int x1, .int x2] (n := 6) (Nat.le_of_ble_eq_true rfl)
  rw [lg_entry_eq]
  generalize (lg_sl [.ref h_v, .int x1, .int x2] ++ List.replicate (6 - (lg_sl [.ref h_v, .int x1, .int x2]).length) Slot.unset).toArray = ls at hl ⊢
  have hl : lv_has ls 6 [(0, .ref h_v), (1, .int x1), (2, .int x2)] := hl
  refine zz_endv hx hb hr hlocks (fun Qq hend => ?_)
  have hL_6 : ∀ (n : Nat), ∀ (y3 : Int64) (y5 : Int32) (v_size : Int32) (v_limbs_a : Nat → Int32) (ls : Array Slot) (H : Heap) (locs : List Loc), lv_has ls 6 [(0, .ref h_v), (1, .int x1), (3, .long y3), (5, .int y5)] → va_P (dC, dI) vwCl [(h_v, .inr (0, [.ref h_v_limbs, .int v_size])), (h_v_limbs, .inl (cI, n_v_limbs, .inl v_limbs_a))] H → va_D A [(h_v, .inr (0, [.ref h_v_limbs, .int v_size])), (h_v_limbs, .inl (cI, n_v_limbs, .inl v_limbs_a))] → va_S A s.heap H locs → f_Big_multiplyAndAdd_6 fu n_v_limbs x1 x2 n y3 y5 v_size v_limbs_a = some u → W p l e (headSpec ws_Big_multiplyAndAdd rm_Big_multiplyAndAdd).room s m [.ref h_v, .int x1, .int x2].toArray below meth c H locs 0 0 Qq (F0 m 6 ls []) := by
    intro n
    induction n with
    | zero =>
      intro y3 y5 v_size v_limbs_a ls H locs hl hP hD hS hf
      exact zz_no hf
    | succ n ih =>
      intro y3 y5 v_size v_limbs_a ls H locs hl hP hD hS hf
      rw [f_Big_multiplyAndAdd_6_s] at hf
      refine lv_iload hx hb d_Big_multiplyAndAdd_6 (lv_at hl 3 rfl) ?_
      refine lv_aload_n hx hb d_Big_multiplyAndAdd_8 rfl (lv_at hl 0 rfl) ?_
      refine va_get (D := (dC, dI)) (ci := 0) (v := .int v_size) (C := R_Big) (T := T_Big) (N := 2) hx hb hw in_Big hown hK hP 0 rfl rfl 1 (by decide) (hw _ wd_91) (fun _ h9 => h9) rfl d_Big_multiplyAndAdd_9 ?_
      refine lv_icmp_ge (tgt := 47) hx hb d_Big_multiplyAndAdd_12 (by decide) (fun hc => ?_) (fun hc => ?_)
      · have hf := zz_ifp hc hf
        refine lv_lload_n hx hb d_Big_multiplyAndAdd_47 rfl (lv_at hl 2 rfl) ?_
        refine lv_lconst (v := 0) hx hb d_Big_multiplyAndAdd_48 (by decide) ?_
        refine W.lcmp hx hb d_Big_multiplyAndAdd_49 ?_
        refine lv_if_eq (tgt := 58) hx hb d_Big_multiplyAndAdd_50 (by decide) (fun hc => ?_) (fun hc => ?_)
        · have hf := zz_ifp hc hf
          cases hf
          exact hend 58 ls _ _ d_Big_multiplyAndAdd_58 hP hD hS
        · have hf := zz_ifn hc hf
          refine lv_aload_n hx hb d_Big_multiplyAndAdd_53 rfl (lv_at hl 0 rfl) ?_
          refine lv_lload_n hx hb d_Big_multiplyAndAdd_54 rfl (lv_at hl 2 rfl) ?_
          obtain ⟨u_1, hu_1, hf⟩ := zz_bd hf
          refine zz_cv (ws' := [(h_v, .inr (0, [.ref h_v_limbs, .int u_1.1])), (h_v_limbs, .inl (cI, n_v_limbs, .inl u_1.2))]) (wc := [(h_v, .inr (0, [.ref h_v_limbs, .int v_size])), (h_v_limbs, .inl (cI, n_v_limbs, .inl v_limbs_a))]) (w' := [(h_v, .inr (0, [.ref h_v_limbs, .int u_1.1])), (h_v_limbs, .inl (cI, n_v_limbs, .inl u_1.2))]) hP hD hS hA [0, 1] [] [0, 1] rfl rfl (by decide) (by decide) rfl (by decide) (va_runV (As := [.long y3]) (rest := []) ⟨hx, hb, hml, hown, hw⟩ (c_Big_addLimb l dC dI cI cC cB cJ _ h_v h_v_limbs n_v_limbs y3 v_size v_limbs_a u_1 hu_1) (cwV 1 hw (zg_V wd_327 wd_329 we_0_4 wd_5 wd_330) rfl rfl rfl hd_Big_addLimb ⟨Nat.le_of_ble_eq_true rfl, Nat.le_of_ble_eq_true rfl⟩) (zz_preV zz_TE (va_recv (q0 := 0) (ci := 0) hK hP rfl rfl) hP hD hK hS hA trivial [0, 1] rfl (by decide)) rfl rfl hl.1 rfl (lv_room (Nat.le_of_ble_eq_true rfl)) d_Big_multiplyAndAdd_55 ⟨Nat.zero_le _, Nat.zero_le _⟩) (fun H locs hP hD hS => ?_)
          cases hf
          exact hend 58 ls _ _ d_Big_multiplyAndAdd_58 hP hD hS
      · have hf := zz_ifn hc hf
        refine lv_lload_n hx hb d_Big_multiplyAndAdd_15 rfl (lv_at hl 2 rfl) ?_
        refine lv_aload_n hx hb d_Big_multiplyAndAdd_16 rfl (lv_at hl 0 rfl) ?_
        refine lv_iload hx hb d_Big_multiplyAndAdd_17 (lv_at hl 3 rfl) ?_
        obtain ⟨u_2, hu_2, hf⟩ := zz_bd hf
        refine zz_cl (ws' := [(h_v, .inr (0, [.ref h_v_limbs, .int v_size])), (h_v_limbs, .inl (cI, n_v_limbs, .inl v_limbs_a))]) (wc := [(h_v, .inr (0, [.ref h_v_limbs, .int v_size])), (h_v_limbs, .inl (cI, n_v_limbs, .inl v_limbs_a))]) (w' := [(h_v, .inr (0, [.ref h_v_limbs, .int v_size])), (h_v_limbs, .inl (cI, n_v_limbs, .inl v_limbs_a))]) hP hD hS hA [0, 1] [] [0, 1] rfl rfl (by decide) (by decide) rfl (by decide) (va_runV (As := [.int y5]) (rest := [.long y3]) ⟨hx, hb, hml, hown, hw⟩ (c_Big_limbAt l dC dI cI cC cB cJ _ h_v h_v_limbs n_v_limbs y5 v_size v_limbs_a u_2 hu_2) (cwV 1 hw (zg_V wd_339 wd_341 we_0_6 wd_5 wd_342) rfl rfl rfl hd_Big_limbAt ⟨Nat.le_of_ble_eq_true rfl, Nat.le_of_ble_eq_true rfl⟩) (zz_preV zz_TE (va_recv (q0 := 0) (ci := 0) hK hP rfl rfl) hP hD hK hS hA trivial [0, 1] rfl (by decide)) rfl rfl hl.1 rfl (lv_room (Nat.le_of_ble_eq_true rfl)) d_Big_multiplyAndAdd_19 ⟨Nat.zero_le _, Nat.zero_le _⟩) (fun H locs hP hD hS => ?_)
        refine lv_iload_n hx hb d_Big_multiplyAndAdd_22 rfl (lv_at hl 1 rfl) ?_
        refine lv_i2l hx hb d_Big_multiplyAndAdd_23 rfl ?_
        refine lv_lmul hx hb d_Big_multiplyAndAdd_24 ?_
        refine lv_ladd hx hb d_Big_multiplyAndAdd_25 ?_
        refine lv_topl (fun x3_3 e_x3_3 => ?_)
        have hf := zz_ltp hf x3_3 e_x3_3
        refine lv_lstore_n hx hb d_Big_multiplyAndAdd_26 rfl hl (by decide) rfl (fun ls hl => ?_)
        have hl : lv_has ls 6 [(3, .long x3_3), (0, .ref h_v), (1, .int x1), (5, .int y5)] := hl
        refine lv_aload_n hx hb d_Big_multiplyAndAdd_27 rfl (lv_at hl 1 rfl) ?_
        refine va_get (D := (dC, dI)) (ci := 0) (v := .ref h_v_limbs) (C := R_Big) (T := T_Big) (N := 2) hx hb hw in_Big hown hK hP 0 rfl rfl 0 (by decide) (hw _ wd_90) (fun _ h9 => h9) rfl d_Big_multiplyAndAdd_28 ?_
        refine lv_iload hx hb d_Big_multiplyAndAdd_31 (lv_at hl 3 rfl) ?_
        refine lv_lload_n hx hb d_Big_multiplyAndAdd_33 rfl (lv_at hl 0 rfl) ?_
        refine lv_l2i hx hb d_Big_multiplyAndAdd_34 rfl ?_
        obtain ⟨hb_4, hf⟩ := zz_gd hf
        refine va_iast hx hb hK hP hD hS 1 0 rfl rfl (zz_vp hb_4) d_Big_multiplyAndAdd_35 (fun H locs hP hD hS => ?_)
        have hP : va_P (dC, dI) vwCl [(h_v, .inr (0, [.ref h_v_limbs, .int v_size])), (h_v_limbs, .inl (cI, n_v_limbs, .inl (upd v_limbs_a y5.toNatClampNeg x3_3.toInt32)))] H := hP
        have hD : va_D A [(h_v, .inr (0, [.ref h_v_limbs, .int v_size])), (h_v_limbs, .inl (cI, n_v_limbs, .inl (upd v_limbs_a y5.toNatClampNeg x3_3.toInt32)))] := hD
        refine lv_lload_n hx hb d_Big_multiplyAndAdd_36 rfl (lv_at hl 0 rfl) ?_
        refine lv_bipush (v := 32) hx hb d_Big_multiplyAndAdd_37 (by decide) ?_
        refine lv_lushr hx hb d_Big_multiplyAndAdd_39 rfl ?_
        refine lv_topl (fun x3_5 e_x3_5 => ?_)
        have hf := zz_ltp hf x3_5 e_x3_5
        refine lv_lstore_n hx hb d_Big_multiplyAndAdd_40 rfl hl (by decide) rfl (fun ls hl => ?_)
        have hl : lv_has ls 6 [(3, .long x3_5), (0, .ref h_v), (1, .int x1), (5, .int y5)] := hl
        refine lv_iinc (k := 3) (v := y5 + 1) hx hb d_Big_multiplyAndAdd_41 hl rfl rfl (by decide) rfl (fun ls hl => ?_)
        have hl : lv_has ls 6 [(5, .int (y5 + 1)), (3, .long x3_5), (0, .ref h_v), (1, .int x1)] := hl
        refine lv_goto (tgt := 6) hx hb d_Big_multiplyAndAdd_44 (by decide) ?_
        exact ih x3_5 (y5 + 1) v_size (upd v_limbs_a y5.toNatClampNeg x3_3.toInt32) ls _ _ (lv_sub hl [2, 3, 1, 0] rfl) hP hD hS hf
  unfold f_Big_multiplyAndAdd at hf
  refine lv_iload_n hx hb d_Big_multiplyAndAdd_0 rfl (lv_at hl 2 rfl) ?_
  refine lv_i2l hx hb d_Big_multiplyAndAdd_1 rfl ?_
  refine lv_lstore_n hx hb d_Big_multiplyAndAdd_2 rfl hl (by decide) rfl (fun ls hl => ?_)
  have hl : lv_has ls 6 [(3, .long x2.toInt64), (0, .ref h_v), (1, .int x1), (2, .int x2)] := hl
  refine lv_iconst (v := 0) hx hb d_Big_multiplyAndAdd_3 (by decide) ?_
  refine lv_istore hx hb d_Big_multiplyAndAdd_4 hl (by decide) rfl (fun ls hl => ?_)
  have hl : lv_has ls 6 [(5, .int 0), (3, .long x2.toInt64), (0, .ref h_v), (1, .int x1), (2, .int x2)] := hl
  exact hL_6 fu x2.toInt64 0 v_size v_limbs_a ls _ _ (lv_sub hl [2, 3, 1, 0] rfl) hP hD hS hf
abbrev ws_Big_shiftLeft : List Cond := .code y_Big_shiftLeft prog_2_method_12_code 7 none :: zw
abbrev rm_Big_shiftLeft : Room := { frames := 1, cells := 0, slots := 0, locals := 21 }
theorem hd_Big_shiftLeft : y_Big_shiftLeft.cls = "RealText$Big" ∧ y_Big_shiftLeft.cls ≠ "java/lang/invoke/MethodHandle" ∧ y_Big_shiftLeft.cls ≠ "java/lang/invoke/VarHandle" ∧ (parseMethodDescriptor y_Big_shiftLeft.desc).map (fun d => d.parameters.length) = some 1 := by decide +kernel
theorem d_Big_shiftLeft_0 : decode prog_2_method_12_code 0 = .ok (.iload_n 1, 1) := by decide +kernel
theorem d_Big_shiftLeft_1 : decode prog_2_method_12_code 1 = .ok (.bipush 32, 2) := by decide +kernel
theorem d_Big_shiftLeft_3 : decode prog_2_method_12_code 3 = .ok (.idiv, 1) := by decide +kernel
theorem d_Big_shiftLeft_4 : decode prog_2_method_12_code 4 = .ok (.istore_n 2, 1) := by decide +kernel
theorem d_Big_shiftLeft_5 : decode prog_2_method_12_code 5 = .ok (.iload_n 1, 1) := by decide +kernel
theorem d_Big_shiftLeft_6 : decode prog_2_method_12_code 6 = .ok (.bipush 32, 2) := by decide +kernel
theorem d_Big_shiftLeft_8 : decode prog_2_method_12_code 8 = .ok (.irem, 1) := by decide +kernel
theorem d_Big_shiftLeft_9 : decode prog_2_method_12_code 9 = .ok (.istore_n 3, 1) := by decide +kernel
theorem d_Big_shiftLeft_10 : decode prog_2_method_12_code 10 = .ok (.iload_n 1, 1) := by decide +kernel
theorem d_Big_shiftLeft_11 : decode prog_2_method_12_code 11 = .ok (.ifCond .le 17, 3) := by decide +kernel
theorem d_Big_shiftLeft_14 : decode prog_2_method_12_code 14 = .ok (.aload_n 0, 1) := by decide +kernel
theorem d_Big_shiftLeft_15 : decode prog_2_method_12_code 15 = .ok (.getfield 13, 3) := by decide +kernel
theorem d_Big_shiftLeft_18 : decode prog_2_method_12_code 18 = .ok (.iload_n 2, 1) := by decide +kernel
theorem d_Big_shiftLeft_19 : decode prog_2_method_12_code 19 = .ok (.iadd, 1) := by decide +kernel
theorem d_Big_shiftLeft_20 : decode prog_2_method_12_code 20 = .ok (.aload_n 0, 1) := by decide +kernel
theorem d_Big_shiftLeft_21 : decode prog_2_method_12_code 21 = .ok (.getfield 7, 3) := by decide +kernel
theorem d_Big_shiftLeft_24 : decode prog_2_method_12_code 24 = .ok (.arraylength, 1) := by decide +kernel
theorem d_Big_shiftLeft_25 : decode prog_2_method_12_code 25 = .ok (.if_icmp .lt 4, 3) := by decide +kernel
theorem d_Big_shiftLeft_28 : decode prog_2_method_12_code 28 = .ok (.return_, 1) := by decide +kernel
theorem d_Big_shiftLeft_29 : decode prog_2_method_12_code 29 = .ok (.aload_n 0, 1) := by decide +kernel
theorem d_Big_shiftLeft_30 : decode prog_2_method_12_code 30 = .ok (.getfield 13, 3) := by decide +kernel
theorem d_Big_shiftLeft_33 : decode prog_2_method_12_code 33 = .ok (.istore 4, 2) := by decide +kernel
theorem d_Big_shiftLeft_35 : decode prog_2_method_12_code 35 = .ok (.iload 4, 2) := by decide +kernel
theorem d_Big_shiftLeft_37 : decode prog_2_method_12_code 37 = .ok (.ifCond .lt 46, 3) := by decide +kernel
theorem d_Big_shiftLeft_40 : decode prog_2_method_12_code 40 = .ok (.aload_n 0, 1) := by decide +kernel
theorem d_Big_shiftLeft_41 : decode prog_2_method_12_code 41 = .ok (.iload 4, 2) := by decide +kernel
theorem d_Big_shiftLeft_43 : decode prog_2_method_12_code 43 = .ok (.invokevirtual 38, 3) := by decide +kernel
theorem d_Big_shiftLeft_46 : decode prog_2_method_12_code 46 = .ok (.bipush 32, 2) := by decide +kernel
theorem d_Big_shiftLeft_48 : decode prog_2_method_12_code 48 = .ok (.lshl, 1) := by decide +kernel
theorem d_Big_shiftLeft_49 : decode prog_2_method_12_code 49 = .ok (.aload_n 0, 1) := by decide +kernel
theorem d_Big_shiftLeft_50 : decode prog_2_method_12_code 50 = .ok (.iload 4, 2) := by decide +kernel
theorem d_Big_shiftLeft_52 : decode prog_2_method_12_code 52 = .ok (.iconst 1, 1) := by decide +kernel
theorem d_Big_shiftLeft_53 : decode prog_2_method_12_code 53 = .ok (.isub, 1) := by decide +kernel
theorem d_Big_shiftLeft_54 : decode prog_2_method_12_code 54 = .ok (.invokevirtual 38, 3) := by decide +kernel
theorem d_Big_shiftLeft_57 : decode prog_2_method_12_code 57 = .ok (.lor, 1) := by decide +kernel
theorem d_Big_shiftLeft_58 : decode prog_2_method_12_code 58 = .ok (.lstore 5, 2) := by decide +kernel
theorem d_Big_shiftLeft_60 : decode prog_2_method_12_code 60 = .ok (.aload_n 0, 1) := by decide +kernel
theorem d_Big_shiftLeft_61 : decode prog_2_method_12_code 61 = .ok (.getfield 7, 3) := by decide +kernel
theorem d_Big_shiftLeft_64 : decode prog_2_method_12_code 64 = .ok (.iload 4, 2) := by decide +kernel
theorem d_Big_shiftLeft_66 : decode prog_2_method_12_code 66 = .ok (.iload_n 2, 1) := by decide +kernel
theorem d_Big_shiftLeft_67 : decode prog_2_method_12_code 67 = .ok (.iadd, 1) := by decide +kernel
theorem d_Big_shiftLeft_68 : decode prog_2_method_12_code 68 = .ok (.lload 5, 2) := by decide +kernel
theorem d_Big_shiftLeft_70 : decode prog_2_method_12_code 70 = .ok (.iload_n 3, 1) := by decide +kernel
theorem d_Big_shiftLeft_71 : decode prog_2_method_12_code 71 = .ok (.lshl, 1) := by decide +kernel
theorem d_Big_shiftLeft_72 : decode prog_2_method_12_code 72 = .ok (.bipush 32, 2) := by decide +kernel
theorem d_Big_shiftLeft_74 : decode prog_2_method_12_code 74 = .ok (.lushr, 1) := by decide +kernel
theorem d_Big_shiftLeft_75 : decode prog_2_method_12_code 75 = .ok (.l2i, 1) := by decide +kernel
theorem d_Big_shiftLeft_76 : decode prog_2_method_12_code 76 = .ok (.iastore, 1) := by decide +kernel
theorem d_Big_shiftLeft_77 : decode prog_2_method_12_code 77 = .ok (.iinc 4 (-1), 3) := by decide +kernel
theorem d_Big_shiftLeft_80 : decode prog_2_method_12_code 80 = .ok (.goto (-45), 3) := by decide +kernel
theorem d_Big_shiftLeft_83 : decode prog_2_method_12_code 83 = .ok (.iconst 0, 1) := by decide +kernel
theorem d_Big_shiftLeft_84 : decode prog_2_method_12_code 84 = .ok (.istore 4, 2) := by decide +kernel
theorem d_Big_shiftLeft_86 : decode prog_2_method_12_code 86 = .ok (.iload 4, 2) := by decide +kernel
theorem d_Big_shiftLeft_88 : decode prog_2_method_12_code 88 = .ok (.iload_n 2, 1) := by decide +kernel
theorem d_Big_shiftLeft_89 : decode prog_2_method_12_code 89 = .ok (.if_icmp .ge 17, 3) := by decide +kernel
theorem d_Big_shiftLeft_92 : decode prog_2_method_12_code 92 = .ok (.aload_n 0, 1) := by decide +kernel
theorem d_Big_shiftLeft_93 : decode prog_2_method_12_code 93 = .ok (.getfield 7, 3) := by decide +kernel
theorem d_Big_shiftLeft_96 : decode prog_2_method_12_code 96 = .ok (.iload 4, 2) := by decide +kernel
theorem d_Big_shiftLeft_98 : decode prog_2_method_12_code 98 = .ok (.iconst 0, 1) := by decide +kernel
theorem d_Big_shiftLeft_99 : decode prog_2_method_12_code 99 = .ok (.iastore, 1) := by decide +kernel
theorem d_Big_shiftLeft_100 : decode prog_2_method_12_code 100 = .ok (.iinc 4 1, 3) := by decide +kernel
theorem d_Big_shiftLeft_103 : decode prog_2_method_12_code 103 = .ok (.goto (-17), 3) := by decide +kernel
theorem d_Big_shiftLeft_106 : decode prog_2_method_12_code 106 = .ok (.aload_n 0, 1) := by decide +kernel
theorem d_Big_shiftLeft_107 : decode prog_2_method_12_code 107 = .ok (.dup, 1) := by decide +kernel
theorem d_Big_shiftLeft_108 : decode prog_2_method_12_code 108 = .ok (.getfield 13, 3) := by decide +kernel
theorem d_Big_shiftLeft_111 : decode prog_2_method_12_code 111 = .ok (.iload_n 2, 1) := by decide +kernel
theorem d_Big_shiftLeft_112 : decode prog_2_method_12_code 112 = .ok (.iconst 1, 1) := by decide +kernel
theorem d_Big_shiftLeft_113 : decode prog_2_method_12_code 113 = .ok (.iadd, 1) := by decide +kernel
theorem d_Big_shiftLeft_114 : decode prog_2_method_12_code 114 = .ok (.iadd, 1) := by decide +kernel
theorem d_Big_shiftLeft_115 : decode prog_2_method_12_code 115 = .ok (.putfield 13, 3) := by decide +kernel
theorem d_Big_shiftLeft_118 : decode prog_2_method_12_code 118 = .ok (.aload_n 0, 1) := by decide +kernel
theorem d_Big_shiftLeft_119 : decode prog_2_method_12_code 119 = .ok (.invokevirtual 23, 3) := by decide +kernel
theorem d_Big_shiftLeft_122 : decode prog_2_method_12_code 122 = .ok (.return_, 1) := by decide +kernel
def f_Big_shiftLeft_86 (fu : Nat) (n_v_limbs : Nat) (x1 : Int32)  : Nat → Int32 → Int32 → Int32 → (Nat → Int32) → Option (Int32 × (Nat → Int32))
  | 0, _, _, _, _ => none
  | n + 1, y2, y4, v_size, v_limbs_a =>
  (if y2 ≤ y4 then
  (f_Big_trim fu n_v_limbs (v_size + (y2 + 1)) v_limbs_a).bind fun u_3 =>
  some (u_3, v_limbs_a)
  else
  if zz_in y4 n_v_limbs = true then
  f_Big_shiftLeft_86 fu n_v_limbs x1 n y2 (y4 + 1) v_size (upd v_limbs_a y4.toNatClampNeg 0)
  else none)
theorem f_Big_shiftLeft_86_s (fu : Nat) (n_v_limbs : Nat) (x1 : Int32)  (n : Nat) (y2 : Int32) (y4 : Int32) (v_size : Int32) (v_limbs_a : Nat → Int32) : f_Big_shiftLeft_86 fu n_v_limbs x1 (n + 1) y2 y4 v_size v_limbs_a =
  (if y2 ≤ y4 then
  (f_Big_trim fu n_v_limbs (v_size + (y2 + 1)) v_limbs_a).bind fun u_3 =>
  some (u_3, v_limbs_a)
  else
  if zz_in y4 n_v_limbs = true then
  f_Big_shiftLeft_86 fu n_v_limbs x1 n y2 (y4 + 1) v_size (upd v_limbs_a y4.toNatClampNeg 0)
  else none) := rfl
def f_Big_shiftLeft_35 (fu : Nat) (n_v_limbs : Nat) (x1 : Int32)  : Nat → Int32 → Int32 → Int32 → Int32 → (Nat → Int32) → Option (Int32 × (Nat → Int32))
  | 0, _, _, _, _, _ => none
  | n + 1, y2, y3, y4, v_size, v_limbs_a =>
  (if y4 < 0 then
  f_Big_shiftLeft_86 fu n_v_limbs x1 fu y2 0 v_size v_limbs_a
  else
  (f_Big_limbAt n_v_limbs y4 v_size v_limbs_a).bind fun u_5 =>
  (f_Big_limbAt n_v_limbs (y4 - 1) v_size v_limbs_a).bind fun u_6 =>
  zz_lt ((u_5 <<< ((32 : Int32).toInt64 &&& 63)) ||| u_6) fun x5_7 =>
  if zz_in (y4 + y2) n_v_limbs = true then
  f_Big_shiftLeft_35 fu n_v_limbs x1 n y2 y3 (y4 + (-1)) v_size (upd v_limbs_a (y4 + y2).toNatClampNeg ((((x5_7 <<< (y3.toInt64 &&& 63)).toUInt64 >>> ((32 : Int32).toInt64.toUInt64 &&& Int64.toUInt64 63)).toInt64).toInt32))
  else none)
theorem f_Big_shiftLeft_35_s (fu : Nat) (n_v_limbs : Nat) (x1 : Int32)  (n : Nat) (y2 : Int32) (y3 : Int32) (y4 : Int32) (v_size : Int32) (v_limbs_a : Nat → Int32) : f_Big_shiftLeft_35 fu n_v_limbs x1 (n + 1) y2 y3 y4 v_size v_limbs_a =
  (if y4 < 0 then
  f_Big_shiftLeft_86 fu n_v_limbs x1 fu y2 0 v_size v_limbs_a
  else
  (f_Big_limbAt n_v_limbs y4 v_size v_limbs_a).bind fun u_5 =>
  (f_Big_limbAt n_v_limbs (y4 - 1) v_size v_limbs_a).bind fun u_6 =>
  zz_lt ((u_5 <<< ((32 : Int32).toInt64 &&& 63)) ||| u_6) fun x5_7 =>
  if zz_in (y4 + y2) n_v_limbs = true then
  f_Big_shiftLeft_35 fu n_v_limbs x1 n y2 y3 (y4 + (-1)) v_size (upd v_limbs_a (y4 + y2).toNatClampNeg ((((x5_7 <<< (y3.toInt64 &&& 63)).toUInt64 >>> ((32 : Int32).toInt64.toUInt64 &&& Int64.toUInt64 63)).toInt64).toInt32))
  else none) := rfl
def f_Big_shiftLeft (fu : Nat) (n_v_limbs : Nat) (x1 : Int32) (v_size : Int32) (v_limbs_a : Nat → Int32) : Option (Int32 × (Nat → Int32)) :=
  zz_lt (x1 / 32) fun x2_1 =>
  zz_lt (x1 - x1 / 32 * 32) fun x3_2 =>
  (if x1 ≤ 0 then
  some (v_size, v_limbs_a)
  else
  (if (v_size + x2_1) < (nI n_v_limbs) then
  f_Big_shiftLeft_35 fu n_v_limbs x1 fu x2_1 x3_2 v_size v_size v_limbs_a
  else
  some (v_size, v_limbs_a)))
set_option maxHeartbeats 4000000 in
set_option maxRecDepth 100000 in
theorem c_Big_shiftLeft (l : Launch) (dC : Nat → ClassId) (dI : Nat → Nat → Nat) (cI cC cB cJ : ClassId) (fu : Nat) (sz : Nat) (h_v : Nat) (h_v_limbs : Nat) (n_v_limbs : Nat) (x1 : Int32) (v_size : Int32) (v_limbs_a : Nat → Int32) (u : Int32 × (Nat → Int32)) (hf : f_Big_shiftLeft fu n_v_limbs x1 v_size v_limbs_a = some u) : Met l y_Big_shiftLeft ws_Big_shiftLeft rm_Big_shiftLeft (zz_P zz_T (dC, dI) vwCl (zz_tys cI cC cB cJ) [.ref h_v, .int x1] [(h_v, .inr (0, [.ref h_v_limbs, .int v_size])), (h_v_limbs, .inl (cI, n_v_limbs, .inl v_limbs_a))] sz) (zz_Qv (dC, dI) vwCl [(h_v, .inr (0, [.ref h_v_limbs, .int u.1])), (h_v_limbs, .inl (cI, n_v_limbs, .inl u.2))] (va_A [(h_v, .inr (0, [.ref h_v_limbs, .int v_size])), (h_v_limbs, .inl (cI, n_v_limbs, .inl v_limbs_a))] sz)) 0 0 (va_A [(h_v, .inr (0, [.ref h_v_limbs, .int v_size])), (h_v_limbs, .inl (cI, n_v_limbs, .inl v_limbs_a))] sz) := by
  refine Met.ofW (cc := prog_2_method_12_code) (maxL := 7) (ret := none) (by decide +kernel) rfl ?_
  intro p e s m args below meth c s₁ B hml hv
  obtain ⟨rfl, hsz, hP, hK, hD0, hX⟩ := hv
  have hx := B.exec
  have hb := B.bytes
  have hr := B.returns
  have hts := atoms_spec (ws := ws_Big_shiftLeft) B.pre
  have hw : ∀ w ∈ zw, w.before [.ref h_v, .int x1].toArray s = true := fun w h => hts w (List.mem_cons_of_mem _ h)
  have hown : s.vm.findClass R_Big = some m.cls := findClass_of_methodNamed B.named
  have hlocks := B.notSynchronized
  subst hsz
  have hD := hD0.self (sz := s.heap.size)
  generalize hAe : va_A [(h_v, .inr (0, [.ref h_v_limbs, .int v_size])), (h_v_limbs, .inl (cI, n_v_limbs, .inl v_limbs_a))] s.heap.size = A at hD hX ⊢
  have hA : ∀ q : Nat, s.heap.size ≤ q → A q := fun q h => by rw [← hAe]; exact Or.inr h
  have hS : va_S A s.heap s.heap [] := va_S.rf
  have hl := lv_entry [.ref h_v, .int x1] (n := 7) (Nat.le_of_ble_eq_true rfl)
  rw [lg_entry_eq]
  generalize (lg_sl [.ref h_v, .int x1] ++ List.replicate (7 - (lg_sl [.ref h_v, .int x1]).length) Slot.unset).toArray = ls at hl ⊢
  have hl : lv_has ls 7 [(0, .ref h_v), (1, .int x1)] := hl
  refine zz_endv hx hb hr hlocks (fun Qq hend => ?_)
  have hL_86 : ∀ (n : Nat), ∀ (y2 : Int32) (y4 : Int32) (v_size : Int32) (v_limbs_a : Nat → Int32) (ls : Array Slot) (H : Heap) (locs : List Loc), lv_has ls 7 [(0, .ref h_v), (2, .int y2), (4, .int y4)] → va_P (dC, dI) vwCl [(h_v, .inr (0, [.ref h_v_limbs, .int v_size])), (h_v_limbs, .inl (cI, n_v_limbs, .inl v_limbs_a))] H → va_D A [(h_v, .inr (0, [.ref h_v_limbs, .int v_size])), (h_v_limbs, .inl (cI, n_v_limbs, .inl v_limbs_a))] → va_S A s.heap H locs → f_Big_shiftLeft_86 fu n_v_limbs x1 n y2 y4 v_size v_limbs_a = some u → W p l e (headSpec ws_Big_shiftLeft rm_Big_shiftLeft).room s m [.ref h_v, .int x1].toArray below meth c H locs 0 0 Qq (F0 m 86 ls []) := by
    intro n
    induction n with
    | zero =>
      intro y2 y4 v_size v_limbs_a ls H locs hl hP hD hS hf
      exact zz_no hf
    | succ n ih =>
      intro y2 y4 v_size v_limbs_a ls H locs hl hP hD hS hf
      rw [f_Big_shiftLeft_86_s] at hf
      refine lv_iload hx hb d_Big_shiftLeft_86 (lv_at hl 2 rfl) ?_
      refine lv_iload_n hx hb d_Big_shiftLeft_88 rfl (lv_at hl 1 rfl) ?_
      refine lv_icmp_ge (tgt := 106) hx hb d_Big_shiftLeft_89 (by decide) (fun hc => ?_) (fun hc => ?_)
      · have hf := zz_ifp hc hf
        refine lv_aload_n hx hb d_Big_shiftLeft_106 rfl (lv_at hl 0 rfl) ?_
        refine lv_dup hx hb d_Big_shiftLeft_107 rfl ?_
        refine va_get (D := (dC, dI)) (ci := 0) (v := .int v_size) (C := R_Big) (T := T_Big) (N := 2) hx hb hw in_Big hown hK hP 0 rfl rfl 1 (by decide) (hw _ wd_91) (fun _ h9 => h9) rfl d_Big_shiftLeft_108 ?_
        refine lv_iload_n hx hb d_Big_shiftLeft_111 rfl (lv_at hl 1 rfl) ?_
        refine lv_iconst (v := 1) hx hb d_Big_shiftLeft_112 (by decide) ?_
        refine lv_iadd hx hb d_Big_shiftLeft_113 ?_
        refine lv_iadd hx hb d_Big_shiftLeft_114 ?_
        refine va_put (D := (dC, dI)) (ci := 0) (v := .int (v_size + (y2 + 1))) (ty := .int) (C := R_Big) (T := T_Big) (N := 2) hx hb hw in_Big ty_Big tyok_Big nm_Big hown hK hP hD hS 0 rfl rfl 1 (by decide) (hw _ wd_91) (fun _ h9 => h9) rfl (tyok_Big 1 (by decide)) rfl rfl (Nat.le_of_ble_eq_true rfl) d_Big_shiftLeft_115 (fun H locs hP hD hS => ?_)
        have hP : va_P (dC, dI) vwCl [(h_v, .inr (0, [.ref h_v_limbs, .int (v_size + (y2 + 1))])), (h_v_limbs, .inl (cI, n_v_limbs, .inl v_limbs_a))] H := hP
        have hD : va_D A [(h_v, .inr (0, [.ref h_v_limbs, .int (v_size + (y2 + 1))])), (h_v_limbs, .inl (cI, n_v_limbs, .inl v_limbs_a))] := hD
        refine lv_aload_n hx hb d_Big_shiftLeft_118 rfl (lv_at hl 0 rfl) ?_
        obtain ⟨u_3, hu_3, hf⟩ := zz_bd hf
        refine zz_cv (ws' := [(h_v, .inr (0, [.ref h_v_limbs, .int u_3])), (h_v_limbs, .inl (cI, n_v_limbs, .inl v_limbs_a))]) (wc := [(h_v, .inr (0, [.ref h_v_limbs, .int (v_size + (y2 + 1))])), (h_v_limbs, .inl (cI, n_v_limbs, .inl v_limbs_a))]) (w' := [(h_v, .inr (0, [.ref h_v_limbs, .int u_3])), (h_v_limbs, .inl (cI, n_v_limbs, .inl v_limbs_a))]) hP hD hS hA [0, 1] [] [0, 1] rfl rfl (by decide) (by decide) rfl (by decide) (va_runV (As := []) (rest := []) ⟨hx, hb, hml, hown, hw⟩ (c_Big_trim l dC dI cI cC cB cJ fu _ h_v h_v_limbs n_v_limbs (v_size + (y2 + 1)) v_limbs_a u_3 hu_3) (cwV 0 hw (zg_V wd_331 wd_333 we_0_5 wd_5 wd_334) rfl rfl rfl hd_Big_trim ⟨Nat.le_of_ble_eq_true rfl, Nat.le_of_ble_eq_true rfl⟩) (zz_preV zz_TE (va_recv (q0 := 0) (ci := 0) hK hP rfl rfl) hP hD hK hS hA trivial [0, 1] rfl (by decide)) rfl rfl hl.1 rfl (lv_room (Nat.le_of_ble_eq_true rfl)) d_Big_shiftLeft_119 ⟨Nat.zero_le _, Nat.zero_le _⟩) (fun H locs hP hD hS => ?_)
        cases hf
        exact hend 122 ls _ _ d_Big_shiftLeft_122 hP hD hS
      · have hf := zz_ifn hc hf
        refine lv_aload_n hx hb d_Big_shiftLeft_92 rfl (lv_at hl 0 rfl) ?_
        refine va_get (D := (dC, dI)) (ci := 0) (v := .ref h_v_limbs) (C := R_Big) (T := T_Big) (N := 2) hx hb hw in_Big hown hK hP 0 rfl rfl 0 (by decide) (hw _ wd_90) (fun _ h9 => h9) rfl d_Big_shiftLeft_93 ?_
        refine lv_iload hx hb d_Big_shiftLeft_96 (lv_at hl 2 rfl) ?_
        refine lv_iconst (v := 0) hx hb d_Big_shiftLeft_98 (by decide) ?_
        obtain ⟨hb_4, hf⟩ := zz_gd hf
        refine va_iast hx hb hK hP hD hS 1 0 rfl rfl (zz_vp hb_4) d_Big_shiftLeft_99 (fun H locs hP hD hS => ?_)
        have hP : va_P (dC, dI) vwCl [(h_v, .inr (0, [.ref h_v_limbs, .int v_size])), (h_v_limbs, .inl (cI, n_v_limbs, .inl (upd v_limbs_a y4.toNatClampNeg 0)))] H := hP
        have hD : va_D A [(h_v, .inr (0, [.ref h_v_limbs, .int v_size])), (h_v_limbs, .inl (cI, n_v_limbs, .inl (upd v_limbs_a y4.toNatClampNeg 0)))] := hD
        refine lv_iinc (k := 2) (v := y4 + 1) hx hb d_Big_shiftLeft_100 hl rfl rfl (by decide) rfl (fun ls hl => ?_)
        have hl : lv_has ls 7 [(4, .int (y4 + 1)), (0, .ref h_v), (2, .int y2)] := hl
        refine lv_goto (tgt := 86) hx hb d_Big_shiftLeft_103 (by decide) ?_
        exact ih y2 (y4 + 1) v_size (upd v_limbs_a y4.toNatClampNeg 0) ls _ _ (lv_sub hl [1, 2, 0] rfl) hP hD hS hf
  have hL_35 : ∀ (n : Nat), ∀ (y2 : Int32) (y3 : Int32) (y4 : Int32) (v_size : Int32) (v_limbs_a : Nat → Int32) (ls : Array Slot) (H : Heap) (locs : List Loc), lv_has ls 7 [(0, .ref h_v), (2, .int y2), (3, .int y3), (4, .int y4)] → va_P (dC, dI) vwCl [(h_v, .inr (0, [.ref h_v_limbs, .int v_size])), (h_v_limbs, .inl (cI, n_v_limbs, .inl v_limbs_a))] H → va_D A [(h_v, .inr (0, [.ref h_v_limbs, .int v_size])), (h_v_limbs, .inl (cI, n_v_limbs, .inl v_limbs_a))] → va_S A s.heap H locs → f_Big_shiftLeft_35 fu n_v_limbs x1 n y2 y3 y4 v_size v_limbs_a = some u → W p l e (headSpec ws_Big_shiftLeft rm_Big_shiftLeft).room s m [.ref h_v, .int x1].toArray below meth c H locs 0 0 Qq (F0 m 35 ls []) := by
    intro n
    induction n with
    | zero =>
      intro y2 y3 y4 v_size v_limbs_a ls H locs hl hP hD hS hf
      exact zz_no hf
    | succ n ih =>
      intro y2 y3 y4 v_size v_limbs_a ls H locs hl hP hD hS hf
      rw [f_Big_shiftLeft_35_s] at hf
      refine lv_iload hx hb d_Big_shiftLeft_35 (lv_at hl 3 rfl) ?_
      refine lv_if_lt (tgt := 83) hx hb d_Big_shiftLeft_37 (by decide) (fun hc => ?_) (fun hc => ?_)
      · have hf := zz_ifp hc hf
        refine lv_iconst (v := 0) hx hb d_Big_shiftLeft_83 (by decide) ?_
        refine lv_istore hx hb d_Big_shiftLeft_84 hl (by decide) rfl (fun ls hl => ?_)
        have hl : lv_has ls 7 [(4, .int 0), (0, .ref h_v), (2, .int y2), (3, .int y3)] := hl
        exact hL_86 fu y2 0 v_size v_limbs_a ls _ _ (lv_sub hl [1, 2, 0] rfl) hP hD hS hf
      · have hf := zz_ifn hc hf
        refine lv_aload_n hx hb d_Big_shiftLeft_40 rfl (lv_at hl 0 rfl) ?_
        refine lv_iload hx hb d_Big_shiftLeft_41 (lv_at hl 3 rfl) ?_
        obtain ⟨u_5, hu_5, hf⟩ := zz_bd hf
        refine zz_cl (ws' := [(h_v, .inr (0, [.ref h_v_limbs, .int v_size])), (h_v_limbs, .inl (cI, n_v_limbs, .inl v_limbs_a))]) (wc := [(h_v, .inr (0, [.ref h_v_limbs, .int v_size])), (h_v_limbs, .inl (cI, n_v_limbs, .inl v_limbs_a))]) (w' := [(h_v, .inr (0, [.ref h_v_limbs, .int v_size])), (h_v_limbs, .inl (cI, n_v_limbs, .inl v_limbs_a))]) hP hD hS hA [0, 1] [] [0, 1] rfl rfl (by decide) (by decide) rfl (by decide) (va_runV (As := [.int y4]) (rest := []) ⟨hx, hb, hml, hown, hw⟩ (c_Big_limbAt l dC dI cI cC cB cJ _ h_v h_v_limbs n_v_limbs y4 v_size v_limbs_a u_5 hu_5) (cwV 1 hw (zg_V wd_339 wd_341 we_0_6 wd_5 wd_342) rfl rfl rfl hd_Big_limbAt ⟨Nat.le_of_ble_eq_true rfl, Nat.le_of_ble_eq_true rfl⟩) (zz_preV zz_TE (va_recv (q0 := 0) (ci := 0) hK hP rfl rfl) hP hD hK hS hA trivial [0, 1] rfl (by decide)) rfl rfl hl.1 rfl (lv_room (Nat.le_of_ble_eq_true rfl)) d_Big_shiftLeft_43 ⟨Nat.zero_le _, Nat.zero_le _⟩) (fun H locs hP hD hS => ?_)
        refine lv_bipush (v := 32) hx hb d_Big_shiftLeft_46 (by decide) ?_
        refine lv_lshl hx hb d_Big_shiftLeft_48 rfl ?_
        refine lv_aload_n hx hb d_Big_shiftLeft_49 rfl (lv_at hl 0 rfl) ?_
        refine lv_iload hx hb d_Big_shiftLeft_50 (lv_at hl 3 rfl) ?_
        refine lv_iconst (v := 1) hx hb d_Big_shiftLeft_52 (by decide) ?_
        refine lv_isub hx hb d_Big_shiftLeft_53 ?_
        obtain ⟨u_6, hu_6, hf⟩ := zz_bd hf
        refine zz_cl (ws' := [(h_v, .inr (0, [.ref h_v_limbs, .int v_size])), (h_v_limbs, .inl (cI, n_v_limbs, .inl v_limbs_a))]) (wc := [(h_v, .inr (0, [.ref h_v_limbs, .int v_size])), (h_v_limbs, .inl (cI, n_v_limbs, .inl v_limbs_a))]) (w' := [(h_v, .inr (0, [.ref h_v_limbs, .int v_size])), (h_v_limbs, .inl (cI, n_v_limbs, .inl v_limbs_a))]) hP hD hS hA [0, 1] [] [0, 1] rfl rfl (by decide) (by decide) rfl (by decide) (va_runV (As := [.int (y4 - 1)]) (rest := [.long (u_5 <<< ((32 : Int32).toInt64 &&& 63))]) ⟨hx, hb, hml, hown, hw⟩ (c_Big_limbAt l dC dI cI cC cB cJ _ h_v h_v_limbs n_v_limbs (y4 - 1) v_size v_limbs_a u_6 hu_6) (cwV 1 hw (zg_V wd_339 wd_341 we_0_6 wd_5 wd_342) rfl rfl rfl hd_Big_limbAt ⟨Nat.le_of_ble_eq_true rfl, Nat.le_of_ble_eq_true rfl⟩) (zz_preV zz_TE (va_recv (q0 := 0) (ci := 0) hK hP rfl rfl) hP hD hK hS hA trivial [0, 1] rfl (by decide)) rfl rfl hl.1 rfl (lv_room (Nat.le_of_ble_eq_true rfl)) d_Big_shiftLeft_54 ⟨Nat.zero_le _, Nat.zero_le _⟩) (fun H locs hP hD hS => ?_)
        refine lv_lor hx hb d_Big_shiftLeft_57 ?_
        refine lv_topl (fun x5_7 e_x5_7 => ?_)
        have hf := zz_ltp hf x5_7 e_x5_7
        refine lv_lstore hx hb d_Big_shiftLeft_58 hl (by decide) rfl (fun ls hl => ?_)
        have hl : lv_has ls 7 [(5, .long x5_7), (0, .ref h_v), (2, .int y2), (3, .int y3), (4, .int y4)] := hl
        refine lv_aload_n hx hb d_Big_shiftLeft_60 rfl (lv_at hl 1 rfl) ?_
        refine va_get (D := (dC, dI)) (ci := 0) (v := .ref h_v_limbs) (C := R_Big) (T := T_Big) (N := 2) hx hb hw in_Big hown hK hP 0 rfl rfl 0 (by decide) (hw _ wd_90) (fun _ h9 => h9) rfl d_Big_shiftLeft_61 ?_
        refine lv_iload hx hb d_Big_shiftLeft_64 (lv_at hl 4 rfl) ?_
        refine lv_iload_n hx hb d_Big_shiftLeft_66 rfl (lv_at hl 2 rfl) ?_
        refine lv_iadd hx hb d_Big_shiftLeft_67 ?_
        refine lv_lload hx hb d_Big_shiftLeft_68 (lv_at hl 0 rfl) ?_
        refine lv_iload_n hx hb d_Big_shiftLeft_70 rfl (lv_at hl 3 rfl) ?_
        refine lv_lshl hx hb d_Big_shiftLeft_71 rfl ?_
        refine lv_bipush (v := 32) hx hb d_Big_shiftLeft_72 (by decide) ?_
        refine lv_lushr hx hb d_Big_shiftLeft_74 rfl ?_
        refine lv_l2i hx hb d_Big_shiftLeft_75 rfl ?_
        obtain ⟨hb_8, hf⟩ := zz_gd hf
        refine va_iast hx hb hK hP hD hS 1 0 rfl rfl (zz_vp hb_8) d_Big_shiftLeft_76 (fun H locs hP hD hS => ?_)
        have hP : va_P (dC, dI) vwCl [(h_v, .inr (0, [.ref h_v_limbs, .int v_size])), (h_v_limbs, .inl (cI, n_v_limbs, .inl (upd v_limbs_a (y4 + y2).toNatClampNeg ((((x5_7 <<< (y3.toInt64 &&& 63)).toUInt64 >>> ((32 : Int32).toInt64.toUInt64 &&& Int64.toUInt64 63)).toInt64).toInt32))))] H := hP
        have hD : va_D A [(h_v, .inr (0, [.ref h_v_limbs, .int v_size])), (h_v_limbs, .inl (cI, n_v_limbs, .inl (upd v_limbs_a (y4 + y2).toNatClampNeg ((((x5_7 <<< (y3.toInt64 &&& 63)).toUInt64 >>> ((32 : Int32).toInt64.toUInt64 &&& Int64.toUInt64 63)).toInt64).toInt32))))] := hD
        refine lv_iinc (k := 4) (v := y4 + (-1)) hx hb d_Big_shiftLeft_77 hl rfl rfl (by decide) rfl (fun ls hl => ?_)
        have hl : lv_has ls 7 [(4, .int (y4 + (-1))), (5, .long x5_7), (0, .ref h_v), (2, .int y2), (3, .int y3)] := hl
        refine lv_goto (tgt := 35) hx hb d_Big_shiftLeft_80 (by decide) ?_
        exact ih y2 y3 (y4 + (-1)) v_size (upd v_limbs_a (y4 + y2).toNatClampNeg ((((x5_7 <<< (y3.toInt64 &&& 63)).toUInt64 >>> ((32 : Int32).toInt64.toUInt64 &&& Int64.toUInt64 63)).toInt64).toInt32)) ls _ _ (lv_sub hl [2, 3, 4, 0] rfl) hP hD hS hf
  unfold f_Big_shiftLeft at hf
  refine lv_iload_n hx hb d_Big_shiftLeft_0 rfl (lv_at hl 1 rfl) ?_
  refine lv_bipush (v := 32) hx hb d_Big_shiftLeft_1 (by decide) ?_
  refine lv_idiv hx hb d_Big_shiftLeft_3 (by decide) ?_
  refine lv_topi (fun x2_1 e_x2_1 => ?_)
  have hf := zz_ltp hf x2_1 e_x2_1
  refine lv_istore_n hx hb d_Big_shiftLeft_4 rfl hl (by decide) rfl (fun ls hl => ?_)
  have hl : lv_has ls 7 [(2, .int x2_1), (0, .ref h_v), (1, .int x1)] := hl
  refine lv_iload_n hx hb d_Big_shiftLeft_5 rfl (lv_at hl 2 rfl) ?_
  refine lv_bipush (v := 32) hx hb d_Big_shiftLeft_6 (by decide) ?_
  refine lv_irem hx hb d_Big_shiftLeft_8 (by decide) ?_
  refine lv_topi (fun x3_2 e_x3_2 => ?_)
  have hf := zz_ltp hf x3_2 e_x3_2
  refine lv_istore_n hx hb d_Big_shiftLeft_9 rfl hl (by decide) rfl (fun ls hl => ?_)
  have hl : lv_has ls 7 [(3, .int x3_2), (2, .int x2_1), (0, .ref h_v), (1, .int x1)] := hl
  refine lv_iload_n hx hb d_Big_shiftLeft_10 rfl (lv_at hl 3 rfl) ?_
  refine lv_if_le (tgt := 28) hx hb d_Big_shiftLeft_11 (by decide) (fun hc => ?_) (fun hc => ?_)
  · have hf := zz_ifp hc hf
    cases hf
    exact hend 28 ls _ _ d_Big_shiftLeft_28 hP hD hS
  · have hf := zz_ifn hc hf
    refine lv_aload_n hx hb d_Big_shiftLeft_14 rfl (lv_at hl 2 rfl) ?_
    refine va_get (D := (dC, dI)) (ci := 0) (v := .int v_size) (C := R_Big) (T := T_Big) (N := 2) hx hb hw in_Big hown hK hP 0 rfl rfl 1 (by decide) (hw _ wd_91) (fun _ h9 => h9) rfl d_Big_shiftLeft_15 ?_
    refine lv_iload_n hx hb d_Big_shiftLeft_18 rfl (lv_at hl 1 rfl) ?_
    refine lv_iadd hx hb d_Big_shiftLeft_19 ?_
    refine lv_aload_n hx hb d_Big_shiftLeft_20 rfl (lv_at hl 2 rfl) ?_
    refine va_get (D := (dC, dI)) (ci := 0) (v := .ref h_v_limbs) (C := R_Big) (T := T_Big) (N := 2) hx hb hw in_Big hown hK hP 0 rfl rfl 0 (by decide) (hw _ wd_90) (fun _ h9 => h9) rfl d_Big_shiftLeft_21 ?_
    refine va_alen (v := nI n_v_limbs) hx hb hK hP 1 0 rfl rfl rfl d_Big_shiftLeft_24 ?_
    refine lv_icmp_lt (tgt := 29) hx hb d_Big_shiftLeft_25 (by decide) (fun hc => ?_) (fun hc => ?_)
    · have hf := zz_ifp hc hf
      refine lv_aload_n hx hb d_Big_shiftLeft_29 rfl (lv_at hl 2 rfl) ?_
      refine va_get (D := (dC, dI)) (ci := 0) (v := .int v_size) (C := R_Big) (T := T_Big) (N := 2) hx hb hw in_Big hown hK hP 0 rfl rfl 1 (by decide) (hw _ wd_91) (fun _ h9 => h9) rfl d_Big_shiftLeft_30 ?_
      refine lv_istore hx hb d_Big_shiftLeft_33 hl (by decide) rfl (fun ls hl => ?_)
      have hl : lv_has ls 7 [(4, .int v_size), (3, .int x3_2), (2, .int x2_1), (0, .ref h_v), (1, .int x1)] := hl
      exact hL_35 fu x2_1 x3_2 v_size v_size v_limbs_a ls _ _ (lv_sub hl [3, 2, 1, 0] rfl) hP hD hS hf
    · have hf := zz_ifn hc hf
      cases hf
      exact hend 28 ls _ _ d_Big_shiftLeft_28 hP hD hS
abbrev ws_Big_copy : List Cond := .code y_Big_copy prog_2_method_3_code 2 none :: zw
abbrev rm_Big_copy : Room := { frames := 1, cells := 0, slots := 0, locals := 200 }
theorem hd_Big_copy : y_Big_copy.cls = "RealText$Big" ∧ y_Big_copy.cls ≠ "java/lang/invoke/MethodHandle" ∧ y_Big_copy.cls ≠ "java/lang/invoke/VarHandle" ∧ (parseMethodDescriptor y_Big_copy.desc).map (fun d => d.parameters.length) = some 1 := by decide +kernel
theorem d_Big_copy_0 : decode prog_2_method_3_code 0 = .ok (.aload_n 0, 1) := by decide +kernel
theorem d_Big_copy_1 : decode prog_2_method_3_code 1 = .ok (.aload_n 1, 1) := by decide +kernel
theorem d_Big_copy_2 : decode prog_2_method_3_code 2 = .ok (.getfield 13, 3) := by decide +kernel
theorem d_Big_copy_5 : decode prog_2_method_3_code 5 = .ok (.aload_n 0, 1) := by decide +kernel
theorem d_Big_copy_6 : decode prog_2_method_3_code 6 = .ok (.getfield 7, 3) := by decide +kernel
theorem d_Big_copy_9 : decode prog_2_method_3_code 9 = .ok (.arraylength, 1) := by decide +kernel
theorem d_Big_copy_10 : decode prog_2_method_3_code 10 = .ok (.invokestatic 26, 3) := by decide +kernel
theorem d_Big_copy_13 : decode prog_2_method_3_code 13 = .ok (.putfield 13, 3) := by decide +kernel
theorem d_Big_copy_16 : decode prog_2_method_3_code 16 = .ok (.aload_n 1, 1) := by decide +kernel
theorem d_Big_copy_17 : decode prog_2_method_3_code 17 = .ok (.getfield 7, 3) := by decide +kernel
theorem d_Big_copy_20 : decode prog_2_method_3_code 20 = .ok (.iconst 0, 1) := by decide +kernel
theorem d_Big_copy_21 : decode prog_2_method_3_code 21 = .ok (.aload_n 0, 1) := by decide +kernel
theorem d_Big_copy_22 : decode prog_2_method_3_code 22 = .ok (.getfield 7, 3) := by decide +kernel
theorem d_Big_copy_25 : decode prog_2_method_3_code 25 = .ok (.iconst 0, 1) := by decide +kernel
theorem d_Big_copy_26 : decode prog_2_method_3_code 26 = .ok (.aload_n 0, 1) := by decide +kernel
theorem d_Big_copy_27 : decode prog_2_method_3_code 27 = .ok (.getfield 13, 3) := by decide +kernel
theorem d_Big_copy_30 : decode prog_2_method_3_code 30 = .ok (.invokestatic 32, 3) := by decide +kernel
theorem d_Big_copy_33 : decode prog_2_method_3_code 33 = .ok (.return_, 1) := by decide +kernel
def f_Big_copy (n_v_limbs : Nat) (n_w1_limbs : Nat) (v_size : Int32) (v_limbs_a : Nat → Int32) (w1_size : Int32) (w1_limbs_a : Nat → Int32) : Option (Int32 × (Nat → Int32)) :=
  (f_Mat_min w1_size (nI n_v_limbs)).bind fun u_1 =>
  if zz_cp 0 0 u_1 n_w1_limbs n_v_limbs = true then
  some (u_1, va_cpy w1_limbs_a v_limbs_a (0 : Int32).toNatClampNeg (0 : Int32).toNatClampNeg u_1.toNatClampNeg)
  else none
set_option maxHeartbeats 4000000 in
set_option maxRecDepth 100000 in
theorem c_Big_copy (l : Launch) (dC : Nat → ClassId) (dI : Nat → Nat → Nat) (cI cC cB cJ : ClassId) (sz : Nat) (h_v : Nat) (h_v_limbs : Nat) (h_w1 : Nat) (h_w1_limbs : Nat) (n_v_limbs : Nat) (n_w1_limbs : Nat) (v_size : Int32) (v_limbs_a : Nat → Int32) (w1_size : Int32) (w1_limbs_a : Nat → Int32) (u : Int32 × (Nat → Int32)) (hf : f_Big_copy n_v_limbs n_w1_limbs v_size v_limbs_a w1_size w1_limbs_a = some u) : Met l y_Big_copy ws_Big_copy rm_Big_copy (zz_P zz_T (dC, dI) vwCl (zz_tys cI cC cB cJ) [.ref h_v, .ref h_w1] [(h_v, .inr (0, [.ref h_v_limbs, .int v_size])), (h_v_limbs, .inl (cI, n_v_limbs, .inl v_limbs_a)), (h_w1, .inr (0, [.ref h_w1_limbs, .int w1_size])), (h_w1_limbs, .inl (cI, n_w1_limbs, .inl w1_limbs_a))] sz) (zz_Qv (dC, dI) vwCl [(h_v, .inr (0, [.ref h_v_limbs, .int u.1])), (h_v_limbs, .inl (cI, n_v_limbs, .inl u.2)), (h_w1, .inr (0, [.ref h_w1_limbs, .int w1_size])), (h_w1_limbs, .inl (cI, n_w1_limbs, .inl w1_limbs_a))] (va_A [(h_v, .inr (0, [.ref h_v_limbs, .int v_size])), (h_v_limbs, .inl (cI, n_v_limbs, .inl v_limbs_a)), (h_w1, .inr (0, [.ref h_w1_limbs, .int w1_size])), (h_w1_limbs, .inl (cI, n_w1_limbs, .inl w1_limbs_a))] sz)) 0 0 (va_A [(h_v, .inr (0, [.ref h_v_limbs, .int v_size])), (h_v_limbs, .inl (cI, n_v_limbs, .inl v_limbs_a)), (h_w1, .inr (0, [.ref h_w1_limbs, .int w1_size])), (h_w1_limbs, .inl (cI, n_w1_limbs, .inl w1_limbs_a))] sz) := by
  refine Met.ofW (cc := prog_2_method_3_code) (maxL := 2) (ret := none) (by decide +kernel) rfl ?_
  intro p e s m args below meth c s₁ B hml hv
  obtain ⟨rfl, hsz, hP, hK, hD0, hX⟩ := hv
  have hx := B.exec
  have hb := B.bytes
  have hr := B.returns
  have hts := atoms_spec (ws := ws_Big_copy) B.pre
  have hw : ∀ w ∈ zw, w.before [.ref h_v, .ref h_w1].toArray s = true := fun w h => hts w (List.mem_cons_of_mem _ h)
  have hown : s.vm.findClass R_Big = some m.cls := findClass_of_methodNamed B.named
  have hlocks := B.notSynchronized
  subst hsz
  have hD := hD0.self (sz := s.heap.size)
  generalize hAe : va_A [(h_v, .inr (0, [.ref h_v_limbs, .int v_size])), (h_v_limbs, .inl (cI, n_v_limbs, .inl v_limbs_a)), (h_w1, .inr (0, [.ref h_w1_limbs, .int w1_size])), (h_w1_limbs, .inl (cI, n_w1_limbs, .inl w1_limbs_a))] s.heap.size = A at hD hX ⊢
  have hA : ∀ q : Nat, s.heap.size ≤ q → A q := fun q h => by rw [← hAe]; exact Or.inr h
  have hS : va_S A s.heap s.heap [] := va_S.rf
  have hl := lv_entry [.ref h_v, .ref h_w1] (n := 2) (Nat.le_of_ble_eq_true rfl)
  rw [lg_entry_eq]
  generalize (lg_sl [.ref h_v, .ref h_w1] ++ List.replicate (2 - (lg_sl [.ref h_v, .ref h_w1]).length) Slot.unset).toArray = ls at hl ⊢
  have hl : lv_has ls 2 [(0, .ref h_v), (1, .ref h_w1)] := hl
  refine zz_endv hx hb hr hlocks (fun Qq hend => ?_)
  unfold f_Big_copy at hf
  refine lv_aload_n hx hb d_Big_copy_0 rfl (lv_at hl 0 rfl) ?_
  refine lv_aload_n hx hb d_Big_copy_1 rfl (lv_at hl 1 rfl) ?_
  refine va_get (D := (dC, dI)) (ci := 0) (v := .int w1_size) (C := R_Big) (T := T_Big) (N := 2) hx hb hw in_Big hown hK hP 2 rfl rfl 1 (by decide) (hw _ wd_91) (fun _ h9 => h9) rfl d_Big_copy_2 ?_
  refine lv_aload_n hx hb d_Big_copy_5 rfl (lv_at hl 0 rfl) ?_
  refine va_get (D := (dC, dI)) (ci := 0) (v := .ref h_v_limbs) (C := R_Big) (T := T_Big) (N := 2) hx hb hw in_Big hown hK hP 0 rfl rfl 0 (by decide) (hw _ wd_90) (fun _ h9 => h9) rfl d_Big_copy_6 ?_
  refine va_alen (v := nI n_v_limbs) hx hb hK hP 1 0 rfl rfl rfl d_Big_copy_9 ?_
  obtain ⟨u_1, hu_1, hf⟩ := zz_bd hf
  refine zz_ci (ws' := [(h_v, .inr (0, [.ref h_v_limbs, .int v_size])), (h_v_limbs, .inl (cI, n_v_limbs, .inl v_limbs_a)), (h_w1, .inr (0, [.ref h_w1_limbs, .int w1_size])), (h_w1_limbs, .inl (cI, n_w1_limbs, .inl w1_limbs_a))]) (wc := []) (w' := []) hP hD hS hA [] [0, 1, 2, 3] [0, 1, 2, 3] rfl rfl (by decide) (by decide) rfl (by decide) (va_runS (As := [.int w1_size, .int (nI n_v_limbs)]) (rest := [.ref h_v]) ⟨hx, hb, hml, hown, hw⟩ (c_Mat_min l dC dI cI cC cB cJ _ w1_size (nI n_v_limbs) u_1 hu_1) (va_cwS 2 hw (zg_S wd_363 wd_364 wd_16 wd_365) rfl rfl rfl hd_Mat_min ⟨Nat.le_of_ble_eq_true rfl, Nat.le_of_ble_eq_true rfl⟩) (zz_preS zz_TE hP hD hK hS hA trivial [] rfl (by decide)) rfl rfl hl.1 rfl (lv_room (Nat.le_of_ble_eq_true rfl)) d_Big_copy_10 ⟨Nat.zero_le _, Nat.zero_le _⟩) (fun H locs hP hD hS => ?_)
  refine va_put (D := (dC, dI)) (ci := 0) (v := .int u_1) (ty := .int) (C := R_Big) (T := T_Big) (N := 2) hx hb hw in_Big ty_Big tyok_Big nm_Big hown hK hP hD hS 0 rfl rfl 1 (by decide) (hw _ wd_91) (fun _ h9 => h9) rfl (tyok_Big 1 (by decide)) rfl rfl (Nat.le_of_ble_eq_true rfl) d_Big_copy_13 (fun H locs hP hD hS => ?_)
  have hP : va_P (dC, dI) vwCl [(h_v, .inr (0, [.ref h_v_limbs, .int u_1])), (h_v_limbs, .inl (cI, n_v_limbs, .inl v_limbs_a)), (h_w1, .inr (0, [.ref h_w1_limbs, .int w1_size])), (h_w1_limbs, .inl (cI, n_w1_limbs, .inl w1_limbs_a))] H := hP
  have hD : va_D A [(h_v, .inr (0, [.ref h_v_limbs, .int u_1])), (h_v_limbs, .inl (cI, n_v_limbs, .inl v_limbs_a)), (h_w1, .inr (0, [.ref h_w1_limbs, .int w1_size])), (h_w1_limbs, .inl (cI, n_w1_limbs, .inl w1_limbs_a))] := hD
  refine lv_aload_n hx hb d_Big_copy_16 rfl (lv_at hl 1 rfl) ?_
  refine va_get (D := (dC, dI)) (ci := 0) (v := .ref h_w1_limbs) (C := R_Big) (T := T_Big) (N := 2) hx hb hw in_Big hown hK hP 2 rfl rfl 0 (by decide) (hw _ wd_90) (fun _ h9 => h9) rfl d_Big_copy_17 ?_
  refine lv_iconst (v := 0) hx hb d_Big_copy_20 (by decide) ?_
  refine lv_aload_n hx hb d_Big_copy_21 rfl (lv_at hl 0 rfl) ?_
  refine va_get (D := (dC, dI)) (ci := 0) (v := .ref h_v_limbs) (C := R_Big) (T := T_Big) (N := 2) hx hb hw in_Big hown hK hP 0 rfl rfl 0 (by decide) (hw _ wd_90) (fun _ h9 => h9) rfl d_Big_copy_22 ?_
  refine lv_iconst (v := 0) hx hb d_Big_copy_25 (by decide) ?_
  refine lv_aload_n hx hb d_Big_copy_26 rfl (lv_at hl 0 rfl) ?_
  refine va_get (D := (dC, dI)) (ci := 0) (v := .int u_1) (C := R_Big) (T := T_Big) (N := 2) hx hb hw in_Big hown hK hP 0 rfl rfl 1 (by decide) (hw _ wd_91) (fun _ h9 => h9) rfl d_Big_copy_27 ?_
  obtain ⟨hb_2, hf⟩ := zz_gd hf
  obtain ⟨g1, g2, g3, g4, g5⟩ := zz_cpD hb_2
  refine va_copyi hx hb (hml.trans hl.1.symm) hown (hw _ wd_397) (hw _ wd_399) (hw _ wd_398) (hw _ wd_22) hK hP hD hS 3 1 0 0 rfl rfl rfl rfl rfl g1 g2 g3 g4 g5 (fun _ _ => rfl) (Nat.le_of_ble_eq_true rfl) (Nat.le_of_ble_eq_true rfl) d_Big_copy_30 (fun H locs hP hD hS => ?_)
  have hP : va_P (dC, dI) vwCl [(h_v, .inr (0, [.ref h_v_limbs, .int u_1])), (h_v_limbs, .inl (cI, n_v_limbs, .inl (va_cpy w1_limbs_a v_limbs_a (0 : Int32).toNatClampNeg (0 : Int32).toNatClampNeg u_1.toNatClampNeg))), (h_w1, .inr (0, [.ref h_w1_limbs, .int w1_size])), (h_w1_limbs, .inl (cI, n_w1_limbs, .inl w1_limbs_a))] H := hP
  have hD : va_D A [(h_v, .inr (0, [.ref h_v_limbs, .int u_1])), (h_v_limbs, .inl (cI, n_v_limbs, .inl (va_cpy w1_limbs_a v_limbs_a (0 : Int32).toNatClampNeg (0 : Int32).toNatClampNeg u_1.toNatClampNeg))), (h_w1, .inr (0, [.ref h_w1_limbs, .int w1_size])), (h_w1_limbs, .inl (cI, n_w1_limbs, .inl w1_limbs_a))] := hD
  cases hf
  exact hend 33 ls _ _ d_Big_copy_33 hP hD hS
