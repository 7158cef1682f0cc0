abbrev ws_Sho_isReadBelow : List Cond := .code y_Sho_isReadBelow prog_8_method_5_code 2 (some .boolean) :: zw
abbrev rm_Sho_isReadBelow : Room := { frames := 2, cells := 0, slots := 0, locals := 43 }
theorem hd_Sho_isReadBelow : y_Sho_isReadBelow.cls = "RealText$Shortest" ∧ y_Sho_isReadBelow.cls ≠ "java/lang/invoke/MethodHandle" ∧ y_Sho_isReadBelow.cls ≠ "java/lang/invoke/VarHandle" ∧ (parseMethodDescriptor y_Sho_isReadBelow.desc).map (fun d => d.parameters.length) = some 0 := by decide +kernel
theorem d_Sho_isReadBelow_0 : decode prog_8_method_5_code 0 = .ok (.aload_n 0, 1) := by decide +kernel
theorem d_Sho_isReadBelow_1 : decode prog_8_method_5_code 1 = .ok (.getfield 14, 3) := by decide +kernel
theorem d_Sho_isReadBelow_4 : decode prog_8_method_5_code 4 = .ok (.aload_n 0, 1) := by decide +kernel
theorem d_Sho_isReadBelow_5 : decode prog_8_method_5_code 5 = .ok (.getfield 21, 3) := by decide +kernel
theorem d_Sho_isReadBelow_8 : decode prog_8_method_5_code 8 = .ok (.invokevirtual 99, 3) := by decide +kernel
theorem d_Sho_isReadBelow_11 : decode prog_8_method_5_code 11 = .ok (.istore_n 1, 1) := by decide +kernel
theorem d_Sho_isReadBelow_12 : decode prog_8_method_5_code 12 = .ok (.iload_n 1, 1) := by decide +kernel
theorem d_Sho_isReadBelow_13 : decode prog_8_method_5_code 13 = .ok (.ifCond .lt 14, 3) := by decide +kernel
theorem d_Sho_isReadBelow_16 : decode prog_8_method_5_code 16 = .ok (.iload_n 1, 1) := by decide +kernel
theorem d_Sho_isReadBelow_17 : decode prog_8_method_5_code 17 = .ok (.ifCond .ne 14, 3) := by decide +kernel
theorem d_Sho_isReadBelow_20 : decode prog_8_method_5_code 20 = .ok (.aload_n 0, 1) := by decide +kernel
theorem d_Sho_isReadBelow_21 : decode prog_8_method_5_code 21 = .ok (.getfield 40, 3) := by decide +kernel
theorem d_Sho_isReadBelow_24 : decode prog_8_method_5_code 24 = .ok (.ifCond .eq 7, 3) := by decide +kernel
theorem d_Sho_isReadBelow_27 : decode prog_8_method_5_code 27 = .ok (.iconst 1, 1) := by decide +kernel
theorem d_Sho_isReadBelow_28 : decode prog_8_method_5_code 28 = .ok (.goto 4, 3) := by decide +kernel
theorem d_Sho_isReadBelow_31 : decode prog_8_method_5_code 31 = .ok (.iconst 0, 1) := by decide +kernel
theorem d_Sho_isReadBelow_32 : decode prog_8_method_5_code 32 = .ok (.ireturn, 1) := by decide +kernel
def f_Sho_isReadBelow (fu : Nat) (n_v_rest_limbs : Nat) (n_v_halfGap_limbs : Nat) (v_isEven : Int32) (v_rest_size : Int32) (v_rest_limbs_a : Nat → Int32) (v_halfGap_size : Int32) (v_halfGap_limbs_a : Nat → Int32) : Option (Int32) :=
  (f_Big_compare fu n_v_rest_limbs n_v_halfGap_limbs v_rest_size v_rest_limbs_a v_halfGap_size v_halfGap_limbs_a).bind fun u_1 =>
  (if u_1 < 0 then
  some (1)
  else
  (if u_1 = 0 then
  (if v_isEven = 0 then
  some (0)
  else
  some (1))
  else
  some (0)))
set_option maxHeartbeats 4000000 in
set_option maxRecDepth 100000 in
theorem c_Sho_isReadBelow (l : Launch) (dC : Nat → ClassId) (dI : Nat → Nat → Nat) (cI cC cB cJ : ClassId) (fu : Nat) (sz : Nat) (h_v : Nat) (h_v_rest : Nat) (h_v_rest_limbs : Nat) (h_v_halfGap : Nat) (h_v_halfGap_limbs : Nat) (h_v_unit : Nat) (h_v_sum : Nat) (n_v_rest_limbs : Nat) (n_v_halfGap_limbs : Nat) (v_isNarrowBelow : Int32) (v_isEven : Int32) (v_number : Int64) (v_power : Int32) (v_rest_size : Int32) (v_rest_limbs_a : Nat → Int32) (v_halfGap_size : Int32) (v_halfGap_limbs_a : Nat → Int32) (u : Int32) (hf : f_Sho_isReadBelow fu n_v_rest_limbs n_v_halfGap_limbs v_isEven v_rest_size v_rest_limbs_a v_halfGap_size v_halfGap_limbs_a = some u) : Met l y_Sho_isReadBelow ws_Sho_isReadBelow rm_Sho_isReadBelow (zz_P zz_T (dC, dI) vwCl (zz_tys cI cC cB cJ) [.ref h_v] [(h_v, .inr (5, [.ref h_v_rest, .ref h_v_unit, .ref h_v_halfGap, .ref h_v_sum, .int v_isNarrowBelow, .int v_isEven, .long v_number, .int v_power])), (h_v_rest, .inr (0, [.ref h_v_rest_limbs, .int v_rest_size])), (h_v_rest_limbs, .inl (cI, n_v_rest_limbs, .inl v_rest_limbs_a)), (h_v_halfGap, .inr (0, [.ref h_v_halfGap_limbs, .int v_halfGap_size])), (h_v_halfGap_limbs, .inl (cI, n_v_halfGap_limbs, .inl v_halfGap_limbs_a))] sz) (zz_Qi (dC, dI) vwCl u [(h_v, .inr (5, [.ref h_v_rest, .ref h_v_unit, .ref h_v_halfGap, .ref h_v_sum, .int v_isNarrowBelow, .int v_isEven, .long v_number, .int v_power])), (h_v_rest, .inr (0, [.ref h_v_rest_limbs, .int v_rest_size])), (h_v_rest_limbs, .inl (cI, n_v_rest_limbs, .inl v_rest_limbs_a)), (h_v_halfGap, .inr (0, [.ref h_v_halfGap_limbs, .int v_halfGap_size])), (h_v_halfGap_limbs, .inl (cI, n_v_halfGap_limbs, .inl v_halfGap_limbs_a))] (va_A [(h_v, .inr (5, [.ref h_v_rest, .ref h_v_unit, .ref h_v_halfGap, .ref h_v_sum, .int v_isNarrowBelow, .int v_isEven, .long v_number, .int v_power])), (h_v_rest, .inr (0, [.ref h_v_rest_limbs, .int v_rest_size])), (h_v_rest_limbs, .inl (cI, n_v_rest_limbs, .inl v_rest_limbs_a)), (h_v_halfGap, .inr (0, [.ref h_v_halfGap_limbs, .int v_halfGap_size])), (h_v_halfGap_limbs, .inl (cI, n_v_halfGap_limbs, .inl v_halfGap_limbs_a))] sz)) 0 0 (va_A [(h_v, .inr (5, [.ref h_v_rest, .ref h_v_unit, .ref h_v_halfGap, .ref h_v_sum, .int v_isNarrowBelow, .int v_isEven, .long v_number, .int v_power])), (h_v_rest, .inr (0, [.ref h_v_rest_limbs, .int v_rest_size])), (h_v_rest_limbs, .inl (cI, n_v_rest_limbs, .inl v_rest_limbs_a)), (h_v_halfGap, .inr (0, [.ref h_v_halfGap_limbs, .int v_halfGap_size])), (h_v_halfGap_limbs, .inl (cI, n_v_halfGap_limbs, .inl v_halfGap_limbs_a))] sz) := by
  refine Met.ofW (cc := prog_8_method_5_code) (maxL := 2) (ret := (some .boolean)) (by decide +kernel) rfl ?_
  intro p e s m args below meth c s₁ B hml hv
  obtain ⟨rfl, hsz, hP, hK, hD0, hX⟩ := hv
  have hx := B.exec
  have hb := B.bytes
  have hr := B.returns
  have hts := atoms_spec (ws := ws_Sho_isReadBelow) B.pre
  have hw : ∀ w ∈ zw, w.before [.ref h_v].toArray s = true := fun w h => hts w (List.mem_cons_of_mem _ h)
  have hown : s.vm.findClass R_Sho = some m.cls := findClass_of_methodNamed B.named
  have hlocks := B.notSynchronized
  subst hsz
  have hD := hD0.self (sz := s.heap.size)
  generalize hAe : va_A [(h_v, .inr (5, [.ref h_v_rest, .ref h_v_unit, .ref h_v_halfGap, .ref h_v_sum, .int v_isNarrowBelow, .int v_isEven, .long v_number, .int v_power])), (h_v_rest, .inr (0, [.ref h_v_rest_limbs, .int v_rest_size])), (h_v_rest_limbs, .inl (cI, n_v_rest_limbs, .inl v_rest_limbs_a)), (h_v_halfGap, .inr (0, [.ref h_v_halfGap_limbs, .int v_halfGap_size])), (h_v_halfGap_limbs, .inl (cI, n_v_halfGap_limbs, .inl v_halfGap_limbs_a))] s.heap.size = A at hD hX ⊢
  have hA : ∀ q : Nat, s.heap.size ≤ q → A q := fun q h => by rw [← hAe]; exact Or.inr h
  have hS : va_S A s.heap s.heap [] := va_S.rf
  have hl := lv_entry [.ref h_v] (n := 2) (Nat.le_of_ble_eq_true rfl)
  rw [lg_entry_eq]
  generalize (lg_sl [.ref h_v] ++ List.replicate (2 - (lg_sl [.ref h_v]).length) Slot.unset).toArray = ls at hl ⊢
  have hl : lv_has ls 2 [(0, .ref h_v)] := hl
  refine zz_endz hx hb hr hlocks (fun Qq hend => ?_)
  unfold f_Sho_isReadBelow at hf
  refine lv_aload_n hx hb d_Sho_isReadBelow_0 rfl (lv_at hl 0 rfl) ?_
  refine va_get (D := (dC, dI)) (ci := 5) (v := .ref h_v_rest) (C := R_Sho) (T := T_Sho) (N := 8) hx hb hw in_Sho hown hK hP 0 rfl rfl 0 (by decide) (hw _ wd_125) (fun _ h9 => h9) rfl d_Sho_isReadBelow_1 ?_
  refine lv_aload_n hx hb d_Sho_isReadBelow_4 rfl (lv_at hl 0 rfl) ?_
  refine va_get (D := (dC, dI)) (ci := 5) (v := .ref h_v_halfGap) (C := R_Sho) (T := T_Sho) (N := 8) hx hb hw in_Sho hown hK hP 0 rfl rfl 2 (by decide) (hw _ wd_127) (fun _ h9 => h9) rfl d_Sho_isReadBelow_5 ?_
  obtain ⟨u_1, hu_1, hf⟩ := zz_bd hf
  refine zz_ci (ws' := [(h_v, .inr (5, [.ref h_v_rest, .ref h_v_unit, .ref h_v_halfGap, .ref h_v_sum, .int v_isNarrowBelow, .int v_isEven, .long v_number, .int v_power])), (h_v_rest, .inr (0, [.ref h_v_rest_limbs, .int v_rest_size])), (h_v_rest_limbs, .inl (cI, n_v_rest_limbs, .inl v_rest_limbs_a)), (h_v_halfGap, .inr (0, [.ref h_v_halfGap_limbs, .int v_halfGap_size])), (h_v_halfGap_limbs, .inl (cI, n_v_halfGap_limbs, .inl v_halfGap_limbs_a))]) (wc := [(h_v_rest, .inr (0, [.ref h_v_rest_limbs, .int v_rest_size])), (h_v_rest_limbs, .inl (cI, n_v_rest_limbs, .inl v_rest_limbs_a)), (h_v_halfGap, .inr (0, [.ref h_v_halfGap_limbs, .int v_halfGap_size])), (h_v_halfGap_limbs, .inl (cI, n_v_halfGap_limbs, .inl v_halfGap_limbs_a))]) (w' := [(h_v_rest, .inr (0, [.ref h_v_rest_limbs, .int v_rest_size])), (h_v_rest_limbs, .inl (cI, n_v_rest_limbs, .inl v_rest_limbs_a)), (h_v_halfGap, .inr (0, [.ref h_v_halfGap_limbs, .int v_halfGap_size])), (h_v_halfGap_limbs, .inl (cI, n_v_halfGap_limbs, .inl v_halfGap_limbs_a))]) hP hD hS hA [1, 2, 3, 4] [0] [0, 1, 2, 3, 4] rfl rfl (by decide) (by decide) rfl (by decide) (va_runV (As := [.ref h_v_halfGap]) (rest := []) ⟨hx, hb, hml, hown, hw⟩ (c_Big_compare l dC dI cI cC cB cJ fu _ h_v_rest h_v_rest_limbs h_v_halfGap h_v_halfGap_limbs n_v_rest_limbs n_v_halfGap_limbs v_rest_size v_rest_limbs_a v_halfGap_size v_halfGap_limbs_a u_1 hu_1) (cwV 1 hw (zg_V wd_371 wd_372 wd_373 wd_5 wd_374) rfl rfl rfl hd_Big_compare ⟨Nat.le_of_ble_eq_true rfl, Nat.le_of_ble_eq_true rfl⟩) (zz_preV zz_TE (va_recv (q0 := 1) (ci := 0) hK hP rfl rfl) hP hD hK hS hA trivial [1, 2, 3, 4] rfl (by decide)) rfl rfl hl.1 rfl (lv_room (Nat.le_of_ble_eq_true rfl)) d_Sho_isReadBelow_8 ⟨Nat.zero_le _, Nat.zero_le _⟩) (fun H locs hP hD hS => ?_)
  refine lv_istore_n hx hb d_Sho_isReadBelow_11 rfl hl (by decide) rfl (fun ls hl => ?_)
  have hl : lv_has ls 2 [(1, .int u_1), (0, .ref h_v)] := hl
  refine lv_iload_n hx hb d_Sho_isReadBelow_12 rfl (lv_at hl 0 rfl) ?_
  refine lv_if_lt (tgt := 27) hx hb d_Sho_isReadBelow_13 (by decide) (fun hc => ?_) (fun hc => ?_)
  · have hf := zz_ifp hc hf
    refine lv_iconst (v := 1) hx hb d_Sho_isReadBelow_27 (by decide) ?_
    refine lv_goto (tgt := 32) hx hb d_Sho_isReadBelow_28 (by decide) ?_
    cases hf
    exact hend 32 ls _ _ narrow_b1 d_Sho_isReadBelow_32 hP hD hS
  · have hf := zz_ifn hc hf
    refine lv_iload_n hx hb d_Sho_isReadBelow_16 rfl (lv_at hl 0 rfl) ?_
    refine lv_if_ne (tgt := 31) hx hb d_Sho_isReadBelow_17 (by decide) (fun hc => ?_) (fun hc => ?_)
    · have hf := zz_ifn hc hf
      refine lv_iconst (v := 0) hx hb d_Sho_isReadBelow_31 (by decide) ?_
      cases hf
      exact hend 32 ls _ _ narrow_b0 d_Sho_isReadBelow_32 hP hD hS
    · have hf := zz_ifp hc hf
      refine lv_aload_n hx hb d_Sho_isReadBelow_20 rfl (lv_at hl 1 rfl) ?_
      refine va_get (D := (dC, dI)) (ci := 5) (v := .int v_isEven) (C := R_Sho) (T := T_Sho) (N := 8) hx hb hw in_Sho hown hK hP 0 rfl rfl 5 (by decide) (hw _ wd_130) (fun _ h9 => h9) rfl d_Sho_isReadBelow_21 ?_
      refine lv_if_eq (tgt := 31) hx hb d_Sho_isReadBelow_24 (by decide) (fun hc => ?_) (fun hc => ?_)
      · have hf := zz_ifp hc hf
        refine lv_iconst (v := 0) hx hb d_Sho_isReadBelow_31 (by decide) ?_
        cases hf
        exact hend 32 ls _ _ narrow_b0 d_Sho_isReadBelow_32 hP hD hS
      · have hf := zz_ifn hc hf
        refine lv_iconst (v := 1) hx hb d_Sho_isReadBelow_27 (by decide) ?_
        refine lv_goto (tgt := 32) hx hb d_Sho_isReadBelow_28 (by decide) ?_
        cases hf
        exact hend 32 ls _ _ narrow_b1 d_Sho_isReadBelow_32 hP hD hS
abbrev ws_Sho_isReadAbove : List Cond := .code y_Sho_isReadAbove prog_8_method_6_code 2 (some .boolean) :: zw
abbrev rm_Sho_isReadAbove : Room := { frames := 3, cells := 0, slots := 0, locals := 221 }
theorem hd_Sho_isReadAbove : y_Sho_isReadAbove.cls = "RealText$Shortest" ∧ y_Sho_isReadAbove.cls ≠ "java/lang/invoke/MethodHandle" ∧ y_Sho_isReadAbove.cls ≠ "java/lang/invoke/VarHandle" ∧ (parseMethodDescriptor y_Sho_isReadAbove.desc).map (fun d => d.parameters.length) = some 0 := by decide +kernel
theorem d_Sho_isReadAbove_0 : decode prog_8_method_6_code 0 = .ok (.aload_n 0, 1) := by decide +kernel
theorem d_Sho_isReadAbove_1 : decode prog_8_method_6_code 1 = .ok (.getfield 24, 3) := by decide +kernel
theorem d_Sho_isReadAbove_4 : decode prog_8_method_6_code 4 = .ok (.aload_n 0, 1) := by decide +kernel
theorem d_Sho_isReadAbove_5 : decode prog_8_method_6_code 5 = .ok (.getfield 14, 3) := by decide +kernel
theorem d_Sho_isReadAbove_8 : decode prog_8_method_6_code 8 = .ok (.invokevirtual 111, 3) := by decide +kernel
theorem d_Sho_isReadAbove_11 : decode prog_8_method_6_code 11 = .ok (.aload_n 0, 1) := by decide +kernel
theorem d_Sho_isReadAbove_12 : decode prog_8_method_6_code 12 = .ok (.getfield 24, 3) := by decide +kernel
theorem d_Sho_isReadAbove_15 : decode prog_8_method_6_code 15 = .ok (.aload_n 0, 1) := by decide +kernel
theorem d_Sho_isReadAbove_16 : decode prog_8_method_6_code 16 = .ok (.getfield 21, 3) := by decide +kernel
theorem d_Sho_isReadAbove_19 : decode prog_8_method_6_code 19 = .ok (.invokevirtual 114, 3) := by decide +kernel
theorem d_Sho_isReadAbove_22 : decode prog_8_method_6_code 22 = .ok (.aload_n 0, 1) := by decide +kernel
theorem d_Sho_isReadAbove_23 : decode prog_8_method_6_code 23 = .ok (.getfield 37, 3) := by decide +kernel
theorem d_Sho_isReadAbove_26 : decode prog_8_method_6_code 26 = .ok (.ifCond .eq 14, 3) := by decide +kernel
theorem d_Sho_isReadAbove_29 : decode prog_8_method_6_code 29 = .ok (.aload_n 0, 1) := by decide +kernel
theorem d_Sho_isReadAbove_30 : decode prog_8_method_6_code 30 = .ok (.getfield 24, 3) := by decide +kernel
theorem d_Sho_isReadAbove_33 : decode prog_8_method_6_code 33 = .ok (.aload_n 0, 1) := by decide +kernel
theorem d_Sho_isReadAbove_34 : decode prog_8_method_6_code 34 = .ok (.getfield 21, 3) := by decide +kernel
theorem d_Sho_isReadAbove_37 : decode prog_8_method_6_code 37 = .ok (.invokevirtual 114, 3) := by decide +kernel
theorem d_Sho_isReadAbove_40 : decode prog_8_method_6_code 40 = .ok (.aload_n 0, 1) := by decide +kernel
theorem d_Sho_isReadAbove_41 : decode prog_8_method_6_code 41 = .ok (.getfield 24, 3) := by decide +kernel
theorem d_Sho_isReadAbove_44 : decode prog_8_method_6_code 44 = .ok (.aload_n 0, 1) := by decide +kernel
theorem d_Sho_isReadAbove_45 : decode prog_8_method_6_code 45 = .ok (.getfield 18, 3) := by decide +kernel
theorem d_Sho_isReadAbove_48 : decode prog_8_method_6_code 48 = .ok (.invokevirtual 99, 3) := by decide +kernel
theorem d_Sho_isReadAbove_51 : decode prog_8_method_6_code 51 = .ok (.istore_n 1, 1) := by decide +kernel
theorem d_Sho_isReadAbove_52 : decode prog_8_method_6_code 52 = .ok (.iload_n 1, 1) := by decide +kernel
theorem d_Sho_isReadAbove_53 : decode prog_8_method_6_code 53 = .ok (.ifCond .gt 14, 3) := by decide +kernel
theorem d_Sho_isReadAbove_56 : decode prog_8_method_6_code 56 = .ok (.iload_n 1, 1) := by decide +kernel
theorem d_Sho_isReadAbove_57 : decode prog_8_method_6_code 57 = .ok (.ifCond .ne 14, 3) := by decide +kernel
theorem d_Sho_isReadAbove_60 : decode prog_8_method_6_code 60 = .ok (.aload_n 0, 1) := by decide +kernel
theorem d_Sho_isReadAbove_61 : decode prog_8_method_6_code 61 = .ok (.getfield 40, 3) := by decide +kernel
theorem d_Sho_isReadAbove_64 : decode prog_8_method_6_code 64 = .ok (.ifCond .eq 7, 3) := by decide +kernel
theorem d_Sho_isReadAbove_67 : decode prog_8_method_6_code 67 = .ok (.iconst 1, 1) := by decide +kernel
theorem d_Sho_isReadAbove_68 : decode prog_8_method_6_code 68 = .ok (.goto 4, 3) := by decide +kernel
theorem d_Sho_isReadAbove_71 : decode prog_8_method_6_code 71 = .ok (.iconst 0, 1) := by decide +kernel
theorem d_Sho_isReadAbove_72 : decode prog_8_method_6_code 72 = .ok (.ireturn, 1) := by decide +kernel
def f_Sho_isReadAbove_40 (fu : Nat) (n_v_rest_limbs : Nat) (n_v_unit_limbs : Nat) (n_v_halfGap_limbs : Nat) (n_v_sum_limbs : Nat) (v_isNarrowBelow : Int32) (v_isEven : Int32) (v_rest_size : Int32) (v_rest_limbs_a : Nat → Int32) (v_unit_size : Int32) (v_unit_limbs_a : Nat → Int32) (v_halfGap_size : Int32) (v_halfGap_limbs_a : Nat → Int32)  (v_sum_size : Int32) (v_sum_limbs_a : Nat → Int32) : Option (Int32 × Int32 × (Nat → Int32)) :=
  (f_Big_compare fu n_v_sum_limbs n_v_unit_limbs v_sum_size v_sum_limbs_a v_unit_size v_unit_limbs_a).bind fun u_3 =>
  (if 0 < u_3 then
  some (1, v_sum_size, v_sum_limbs_a)
  else
  (if u_3 = 0 then
  (if v_isEven = 0 then
  some (0, v_sum_size, v_sum_limbs_a)
  else
  some (1, v_sum_size, v_sum_limbs_a))
  else
  some (0, v_sum_size, v_sum_limbs_a)))
def f_Sho_isReadAbove (fu : Nat) (n_v_rest_limbs : Nat) (n_v_unit_limbs : Nat) (n_v_halfGap_limbs : Nat) (n_v_sum_limbs : Nat) (v_isNarrowBelow : Int32) (v_isEven : Int32) (v_rest_size : Int32) (v_rest_limbs_a : Nat → Int32) (v_unit_size : Int32) (v_unit_limbs_a : Nat → Int32) (v_halfGap_size : Int32) (v_halfGap_limbs_a : Nat → Int32) (v_sum_size : Int32) (v_sum_limbs_a : Nat → Int32) : Option (Int32 × Int32 × (Nat → Int32)) :=
  (f_Big_copy n_v_sum_limbs n_v_rest_limbs v_sum_size v_sum_limbs_a v_rest_size v_rest_limbs_a).bind fun u_1 =>
  (f_Big_add fu n_v_sum_limbs n_v_halfGap_limbs u_1.1 u_1.2 v_halfGap_size v_halfGap_limbs_a).bind fun u_2 =>
  (if v_isNarrowBelow = 0 then
  f_Sho_isReadAbove_40 fu n_v_rest_limbs n_v_unit_limbs n_v_halfGap_limbs n_v_sum_limbs v_isNarrowBelow v_isEven v_rest_size v_rest_limbs_a v_unit_size v_unit_limbs_a v_halfGap_size v_halfGap_limbs_a u_2.1 u_2.2
  else
  (f_Big_add fu n_v_sum_limbs n_v_halfGap_limbs u_2.1 u_2.2 v_halfGap_size v_halfGap_limbs_a).bind fun u_4 =>
  f_Sho_isReadAbove_40 fu n_v_rest_limbs n_v_unit_limbs n_v_halfGap_limbs n_v_sum_limbs v_isNarrowBelow v_isEven v_rest_size v_rest_limbs_a v_unit_size v_unit_limbs_a v_halfGap_size v_halfGap_limbs_a u_4.1 u_4.2)
set_option maxHeartbeats 4000000 in
set_option maxRecDepth 100000 in
theorem c_Sho_isReadAbove (l : Launch) (dC : Nat → ClassId) (dI : Nat → Nat → Nat) (cI cC cB cJ : ClassId) (fu : Nat) (sz : Nat) (h_v : Nat) (h_v_rest : Nat) (h_v_rest_limbs : Nat) (h_v_unit : Nat) (h_v_unit_limbs : Nat) (h_v_halfGap : Nat) (h_v_halfGap_limbs : Nat) (h_v_sum : Nat) (h_v_sum_limbs : Nat) (n_v_rest_limbs : Nat) (n_v_unit_limbs : Nat) (n_v_halfGap_limbs : Nat) (n_v_sum_limbs : Nat) (v_isNarrowBelow : Int32) (v_isEven : Int32) (v_number : Int64) (v_power : Int32) (v_rest_size : Int32) (v_rest_limbs_a : Nat → Int32) (v_unit_size : Int32) (v_unit_limbs_a : Nat → Int32) (v_halfGap_size : Int32) (v_halfGap_limbs_a : Nat → Int32) (v_sum_size : Int32) (v_sum_limbs_a : Nat → Int32) (u : Int32 × Int32 × (Nat → Int32)) (hf : f_Sho_isReadAbove fu n_v_rest_limbs n_v_unit_limbs n_v_halfGap_limbs n_v_sum_limbs v_isNarrowBelow v_isEven v_rest_size v_rest_limbs_a v_unit_size v_unit_limbs_a v_halfGap_size v_halfGap_limbs_a v_sum_size v_sum_limbs_a = some u) : Met l y_Sho_isReadAbove ws_Sho_isReadAbove rm_Sho_isReadAbove (zz_P zz_T (dC, dI) vwCl (zz_tys cI cC cB cJ) [.ref h_v] [(h_v, .inr (5, [.ref h_v_rest, .ref h_v_unit, .ref h_v_halfGap, .ref h_v_sum, .int v_isNarrowBelow, .int v_isEven, .long v_number, .int v_power])), (h_v_rest, .inr (0, [.ref h_v_rest_limbs, .int v_rest_size])), (h_v_rest_limbs, .inl (cI, n_v_rest_limbs, .inl v_rest_limbs_a)), (h_v_unit, .inr (0, [.ref h_v_unit_limbs, .int v_unit_size])), (h_v_unit_limbs, .inl (cI, n_v_unit_limbs, .inl v_unit_limbs_a)), (h_v_halfGap, .inr (0, [.ref h_v_halfGap_limbs, .int v_halfGap_size])), (h_v_halfGap_limbs, .inl (cI, n_v_halfGap_limbs, .inl v_halfGap_limbs_a)), (h_v_sum, .inr (0, [.ref h_v_sum_limbs, .int v_sum_size])), (h_v_sum_limbs, .inl (cI, n_v_sum_limbs, .inl v_sum_limbs_a))] sz) (zz_Qi (dC, dI) vwCl u.1 [(h_v, .inr (5, [.ref h_v_rest, .ref h_v_unit, .ref h_v_halfGap, .ref h_v_sum, .int v_isNarrowBelow, .int v_isEven, .long v_number, .int v_power])), (h_v_rest, .inr (0, [.ref h_v_rest_limbs, .int v_rest_size])), (h_v_rest_limbs, .inl (cI, n_v_rest_limbs, .inl v_rest_limbs_a)), (h_v_unit, .inr (0, [.ref h_v_unit_limbs, .int v_unit_size])), (h_v_unit_limbs, .inl (cI, n_v_unit_limbs, .inl v_unit_limbs_a)), (h_v_halfGap, .inr (0, [.ref h_v_halfGap_limbs, .int v_halfGap_size])), (h_v_halfGap_limbs, .inl (cI, n_v_halfGap_limbs, .inl v_halfGap_limbs_a)), (h_v_sum, .inr (0, [.ref h_v_sum_limbs, .int u.2.1])), (h_v_sum_limbs, .inl (cI, n_v_sum_limbs, .inl u.2.2))] (va_A [(h_v, .inr (5, [.ref h_v_rest, .ref h_v_unit, .ref h_v_halfGap, .ref h_v_sum, .int v_isNarrowBelow, .int v_isEven, .long v_number, .int v_power])), (h_v_rest, .inr (0, [.ref h_v_rest_limbs, .int v_rest_size])), (h_v_rest_limbs, .inl (cI, n_v_rest_limbs, .inl v_rest_limbs_a)), (h_v_unit, .inr (0, [.ref h_v_unit_limbs, .int v_unit_size])), (h_v_unit_limbs, .inl (cI, n_v_unit_limbs, .inl v_unit_limbs_a)), (h_v_halfGap, .inr (0, [.ref h_v_halfGap_limbs, .int v_halfGap_size])), (h_v_halfGap_limbs, .inl (cI, n_v_halfGap_limbs, .inl v_halfGap_limbs_a)), (h_v_sum, .inr (0, [.ref h_v_sum_limbs, .int v_sum_size])), (h_v_sum_limbs, .inl (cI, n_v_sum_limbs, .inl v_sum_limbs_a))] sz)) 0 0 (va_A [(h_v, .inr (5, [.ref h_v_rest, .ref h_v_unit, .ref h_v_halfGap, .ref h_v_sum, .int v_isNarrowBelow, .int v_isEven, .long v_number, .int v_power])), (h_v_rest, .inr (0, [.ref h_v_rest_limbs, .int v_rest_size])), (h_v_rest_limbs, .inl (cI, n_v_rest_limbs, .inl v_rest_limbs_a)), (h_v_unit, .inr (0, [.ref h_v_unit_limbs, .int v_unit_size])), (h_v_unit_limbs, .inl (cI, n_v_unit_limbs, .inl v_unit_limbs_a)), (h_v_halfGap, .inr (0, [.ref h_v_halfGap_limbs, .int v_halfGap_size])), (h_v_halfGap_limbs, .inl (cI, n_v_halfGap_limbs, .inl v_halfGap_limbs_a)), (h_v_sum, .inr (0, [.ref h_v_sum_limbs, .int v_sum_size])), (h_v_sum_limbs, .inl (cI, n_v_sum_limbs, .inl v_sum_limbs_a))] sz) := by
  refine Met.ofW (cc := prog_8_method_6_code) (maxL := 2) (ret := (some .boolean)) (by decide +kernel) rfl ?_
  intro p e s m args below meth c s₁ B hml hv
  obtain ⟨rfl, hsz, hP, hK, hD0, hX⟩ := hv
  have hx := B.exec
  have hb := B.bytes
  have hr := B.returns
  have hts := atoms_spec (ws := ws_Sho_isReadAbove) B.pre
  have hw : ∀ w ∈ zw, w.before [.ref h_v].toArray s = true := fun w h => hts w (List.mem_cons_of_mem _ h)
  have hown : s.vm.findClass R_Sho = some m.cls := findClass_of_methodNamed B.named
  have hlocks := B.notSynchronized
  subst hsz
  have hD := hD0.self (sz := s.heap.size)
  generalize hAe : va_A [(h_v, .inr (5, [.ref h_v_rest, .ref h_v_unit, .ref h_v_halfGap, .ref h_v_sum, .int v_isNarrowBelow, .int v_isEven, .long v_number, .int v_power])), (h_v_rest, .inr (0, [.ref h_v_rest_limbs, .int v_rest_size])), (h_v_rest_limbs, .inl (cI, n_v_rest_limbs, .inl v_rest_limbs_a)), (h_v_unit, .inr (0, [.ref h_v_unit_limbs, .int v_unit_size])), (h_v_unit_limbs, .inl (cI, n_v_unit_limbs, .inl v_unit_limbs_a)), (h_v_halfGap, .inr (0, [.ref h_v_halfGap_limbs, .int v_halfGap_size])), (h_v_halfGap_limbs, .inl (cI, n_v_halfGap_limbs, .inl v_halfGap_limbs_a)), (h_v_sum, .inr (0, [.ref h_v_sum_limbs, .int v_sum_size])), (h_v_sum_limbs, .inl (cI, n_v_sum_limbs, .inl v_sum_limbs_a))] s.heap.size = A at hD hX ⊢
  have hA : ∀ q : Nat, s.heap.size ≤ q → A q := fun q h => by rw [← hAe]; exact Or.inr h
  have hS : va_S A s.heap s.heap [] := va_S.rf
  have hl := lv_entry [.ref h_v] (n := 2) (Nat.le_of_ble_eq_true rfl)
  rw [lg_entry_eq]
  generalize (lg_sl [.ref h_v] ++ List.replicate (2 - (lg_sl [.ref h_v]).length) Slot.unset).toArray = ls at hl ⊢
  have hl : lv_has ls 2 [(0, .ref h_v)] := hl
  refine zz_endz hx hb hr hlocks (fun Qq hend => ?_)
  have hL_40 : ∀ (v_sum_size : Int32) (v_sum_limbs_a : Nat → Int32) (ls : Array Slot) (H : Heap) (locs : List Loc), lv_has ls 2 [(0, .ref h_v)] → va_P (dC, dI) vwCl [(h_v, .inr (5, [.ref h_v_rest, .ref h_v_unit, .ref h_v_halfGap, .ref h_v_sum, .int v_isNarrowBelow, .int v_isEven, .long v_number, .int v_power])), (h_v_rest, .inr (0, [.ref h_v_rest_limbs, .int v_rest_size])), (h_v_rest_limbs, .inl (cI, n_v_rest_limbs, .inl v_rest_limbs_a)), (h_v_unit, .inr (0, [.ref h_v_unit_limbs, .int v_unit_size])), (h_v_unit_limbs, .inl (cI, n_v_unit_limbs, .inl v_unit_limbs_a)), (h_v_halfGap, .inr (0, [.ref h_v_halfGap_limbs, .int v_halfGap_size])), (h_v_halfGap_limbs, .inl (cI, n_v_halfGap_limbs, .inl v_halfGap_limbs_a)), (h_v_sum, .inr (0, [.ref h_v_sum_limbs, .int v_sum_size])), (h_v_sum_limbs, .inl (cI, n_v_sum_limbs, .inl v_sum_limbs_a))] H → va_D A [(h_v, .inr (5, [.ref h_v_rest, .ref h_v_unit, .ref h_v_halfGap, .ref h_v_sum, .int v_isNarrowBelow, .int v_isEven, .long v_number, .int v_power])), (h_v_rest, .inr (0, [.ref h_v_rest_limbs, .int v_rest_size])), (h_v_rest_limbs, .inl (cI, n_v_rest_limbs, .inl v_rest_limbs_a)), (h_v_unit, .inr (0, [.ref h_v_unit_limbs, .int v_unit_size])), (h_v_unit_limbs, .inl (cI, n_v_unit_limbs, .inl v_unit_limbs_a)), (h_v_halfGap, .inr (0, [.ref h_v_halfGap_limbs, .int v_halfGap_size])), (h_v_halfGap_limbs, .inl (cI, n_v_halfGap_limbs, .inl v_halfGap_limbs_a)), (h_v_sum, .inr (0, [.ref h_v_sum_limbs, .int v_sum_size])), (h_v_sum_limbs, .inl (cI, n_v_sum_limbs, .inl v_sum_limbs_a))] → va_S A s.heap H locs → f_Sho_isReadAbove_40 fu n_v_rest_limbs n_v_unit_limbs n_v_halfGap_limbs n_v_sum_limbs v_isNarrowBelow v_isEven v_rest_size v_rest_limbs_a v_unit_size v_unit_limbs_a v_halfGap_size v_halfGap_limbs_a v_sum_size v_sum_limbs_a = some u → W p l e (headSpec ws_Sho_isReadAbove rm_Sho_isReadAbove).room s m [.ref h_v].toArray below meth c H locs 0 0 Qq (F0 m 40 ls []) := by
    intro v_sum_size v_sum_limbs_a ls H locs hl hP hD hS hf
    unfold f_Sho_isReadAbove_40 at hf
    refine lv_aload_n hx hb d_Sho_isReadAbove_40 rfl (lv_at hl 0 rfl) ?_
    refine va_get (D := (dC, dI)) (ci := 5) (v := .ref h_v_sum) (C := R_Sho) (T := T_Sho) (N := 8) hx hb hw in_Sho hown hK hP 0 rfl rfl 3 (by decide) (hw _ wd_128) (fun _ h9 => h9) rfl d_Sho_isReadAbove_41 ?_
    refine lv_aload_n hx hb d_Sho_isReadAbove_44 rfl (lv_at hl 0 rfl) ?_
    refine va_get (D := (dC, dI)) (ci := 5) (v := .ref h_v_unit) (C := R_Sho) (T := T_Sho) (N := 8) hx hb hw in_Sho hown hK hP 0 rfl rfl 1 (by decide) (hw _ wd_126) (fun _ h9 => h9) rfl d_Sho_isReadAbove_45 ?_
    obtain ⟨u_3, hu_3, hf⟩ := zz_bd hf
    refine zz_ci (ws' := [(h_v, .inr (5, [.ref h_v_rest, .ref h_v_unit, .ref h_v_halfGap, .ref h_v_sum, .int v_isNarrowBelow, .int v_isEven, .long v_number, .int v_power])), (h_v_rest, .inr (0, [.ref h_v_rest_limbs, .int v_rest_size])), (h_v_rest_limbs, .inl (cI, n_v_rest_limbs, .inl v_rest_limbs_a)), (h_v_unit, .inr (0, [.ref h_v_unit_limbs, .int v_unit_size])), (h_v_unit_limbs, .inl (cI, n_v_unit_limbs, .inl v_unit_limbs_a)), (h_v_halfGap, .inr (0, [.ref h_v_halfGap_limbs, .int v_halfGap_size])), (h_v_halfGap_limbs, .inl (cI, n_v_halfGap_limbs, .inl v_halfGap_limbs_a)), (h_v_sum, .inr (0, [.ref h_v_sum_limbs, .int v_sum_size])), (h_v_sum_limbs, .inl (cI, n_v_sum_limbs, .inl v_sum_limbs_a))]) (wc := [(h_v_sum, .inr (0, [.ref h_v_sum_limbs, .int v_sum_size])), (h_v_sum_limbs, .inl (cI, n_v_sum_limbs, .inl v_sum_limbs_a)), (h_v_unit, .inr (0, [.ref h_v_unit_limbs, .int v_unit_size])), (h_v_unit_limbs, .inl (cI, n_v_unit_limbs, .inl v_unit_limbs_a))]) (w' := [(h_v_sum, .inr (0, [.ref h_v_sum_limbs, .int v_sum_size])), (h_v_sum_limbs, .inl (cI, n_v_sum_limbs, .inl v_sum_limbs_a)), (h_v_unit, .inr (0, [.ref h_v_unit_limbs, .int v_unit_size])), (h_v_unit_limbs, .inl (cI, n_v_unit_limbs, .inl v_unit_limbs_a))]) hP hD hS hA [7, 8, 3, 4] [0, 1, 2, 5, 6] [0, 1, 2, 7, 8, 3, 4, 5, 6] rfl rfl (by decide) (by decide) rfl (by decide) (va_runV (As := [.ref h_v_unit]) (rest := []) ⟨hx, hb, hml, hown, hw⟩ (c_Big_compare l dC dI cI cC cB cJ fu _ h_v_sum h_v_sum_limbs h_v_unit h_v_unit_limbs n_v_sum_limbs n_v_unit_limbs v_sum_size v_sum_limbs_a v_unit_size v_unit_limbs_a u_3 hu_3) (cwV 1 hw (zg_V wd_371 wd_372 wd_373 wd_5 wd_374) rfl rfl rfl hd_Big_compare ⟨Nat.le_of_ble_eq_true rfl, Nat.le_of_ble_eq_true rfl⟩) (zz_preV zz_TE (va_recv (q0 := 7) (ci := 0) hK hP rfl rfl) hP hD hK hS hA trivial [7, 8, 3, 4] rfl (by decide)) rfl rfl hl.1 rfl (lv_room (Nat.le_of_ble_eq_true rfl)) d_Sho_isReadAbove_48 ⟨Nat.zero_le _, Nat.zero_le _⟩) (fun H locs hP hD hS => ?_)
    refine lv_istore_n hx hb d_Sho_isReadAbove_51 rfl hl (by decide) rfl (fun ls hl => ?_)
    have hl : lv_has ls 2 [(1, .int u_3), (0, .ref h_v)] := hl
    refine lv_iload_n hx hb d_Sho_isReadAbove_52 rfl (lv_at hl 0 rfl) ?_
    refine lv_if_gt (tgt := 67) hx hb d_Sho_isReadAbove_53 (by decide) (fun hc => ?_) (fun hc => ?_)
    · have hf := zz_ifp hc hf
      refine lv_iconst (v := 1) hx hb d_Sho_isReadAbove_67 (by decide) ?_
      refine lv_goto (tgt := 72) hx hb d_Sho_isReadAbove_68 (by decide) ?_
      cases hf
      exact hend 72 ls _ _ narrow_b1 d_Sho_isReadAbove_72 hP hD hS
    · have hf := zz_ifn hc hf
      refine lv_iload_n hx hb d_Sho_isReadAbove_56 rfl (lv_at hl 0 rfl) ?_
      refine lv_if_ne (tgt := 71) hx hb d_Sho_isReadAbove_57 (by decide) (fun hc => ?_) (fun hc => ?_)
      · have hf := zz_ifn hc hf
        refine lv_iconst (v := 0) hx hb d_Sho_isReadAbove_71 (by decide) ?_
        cases hf
        exact hend 72 ls _ _ narrow_b0 d_Sho_isReadAbove_72 hP hD hS
      · have hf := zz_ifp hc hf
        refine lv_aload_n hx hb d_Sho_isReadAbove_60 rfl (lv_at hl 1 rfl) ?_
        refine va_get (D := (dC, dI)) (ci := 5) (v := .int v_isEven) (C := R_Sho) (T := T_Sho) (N := 8) hx hb hw in_Sho hown hK hP 0 rfl rfl 5 (by decide) (hw _ wd_130) (fun _ h9 => h9) rfl d_Sho_isReadAbove_61 ?_
        refine lv_if_eq (tgt := 71) hx hb d_Sho_isReadAbove_64 (by decide) (fun hc => ?_) (fun hc => ?_)
        · have hf := zz_ifp hc hf
          refine lv_iconst (v := 0) hx hb d_Sho_isReadAbove_71 (by decide) ?_
          cases hf
          exact hend 72 ls _ _ narrow_b0 d_Sho_isReadAbove_72 hP hD hS
        · have hf := zz_ifn hc hf
          refine lv_iconst (v := 1) hx hb d_Sho_isReadAbove_67 (by decide) ?_
          refine lv_goto (tgt := 72) hx hb d_Sho_isReadAbove_68 (by decide) ?_
          cases hf
          exact hend 72 ls _ _ narrow_b1 d_Sho_isReadAbove_72 hP hD hS
  unfold f_Sho_isReadAbove at hf
  refine lv_aload_n hx hb d_Sho_isReadAbove_0 rfl (lv_at hl 0 rfl) ?_
  refine va_get (D := (dC, dI)) (ci := 5) (v := .ref h_v_sum) (C := R_Sho) (T := T_Sho) (N := 8) hx hb hw in_Sho hown hK hP 0 rfl rfl 3 (by decide) (hw _ wd_128) (fun _ h9 => h9) rfl d_Sho_isReadAbove_1 ?_
  refine lv_aload_n hx hb d_Sho_isReadAbove_4 rfl (lv_at hl 0 rfl) ?_
  refine va_get (D := (dC, dI)) (ci := 5) (v := .ref h_v_rest) (C := R_Sho) (T := T_Sho) (N := 8) hx hb hw in_Sho hown hK hP 0 rfl rfl 0 (by decide) (hw _ wd_125) (fun _ h9 => h9) rfl d_Sho_isReadAbove_5 ?_
  obtain ⟨u_1, hu_1, hf⟩ := zz_bd hf
  refine zz_cv (ws' := [(h_v, .inr (5, [.ref h_v_rest, .ref h_v_unit, .ref h_v_halfGap, .ref h_v_sum, .int v_isNarrowBelow, .int v_isEven, .long v_number, .int v_power])), (h_v_rest, .inr (0, [.ref h_v_rest_limbs, .int v_rest_size])), (h_v_rest_limbs, .inl (cI, n_v_rest_limbs, .inl v_rest_limbs_a)), (h_v_unit, .inr (0, [.ref h_v_unit_limbs, .int v_unit_size])), (h_v_unit_limbs, .inl (cI, n_v_unit_limbs, .inl v_unit_limbs_a)), (h_v_halfGap, .inr (0, [.ref h_v_halfGap_limbs, .int v_halfGap_size])), (h_v_halfGap_limbs, .inl (cI, n_v_halfGap_limbs, .inl v_halfGap_limbs_a)), (h_v_sum, .inr (0, [.ref h_v_sum_limbs, .int u_1.1])), (h_v_sum_limbs, .inl (cI, n_v_sum_limbs, .inl u_1.2))]) (wc := [(h_v_sum, .inr (0, [.ref h_v_sum_limbs, .int v_sum_size])), (h_v_sum_limbs, .inl (cI, n_v_sum_limbs, .inl v_sum_limbs_a)), (h_v_rest, .inr (0, [.ref h_v_rest_limbs, .int v_rest_size])), (h_v_rest_limbs, .inl (cI, n_v_rest_limbs, .inl v_rest_limbs_a))]) (w' := [(h_v_sum, .inr (0, [.ref h_v_sum_limbs, .int u_1.1])), (h_v_sum_limbs, .inl (cI, n_v_sum_limbs, .inl u_1.2)), (h_v_rest, .inr (0, [.ref h_v_rest_limbs, .int v_rest_size])), (h_v_rest_limbs, .inl (cI, n_v_rest_limbs, .inl v_rest_limbs_a))]) hP hD hS hA [7, 8, 1, 2] [0, 3, 4, 5, 6] [0, 7, 8, 1, 2, 3, 4, 5, 6] rfl rfl (by decide) (by decide) rfl (by decide) (va_runV (As := [.ref h_v_rest]) (rest := []) ⟨hx, hb, hml, hown, hw⟩ (c_Big_copy l dC dI cI cC cB cJ _ h_v_sum h_v_sum_limbs h_v_rest h_v_rest_limbs n_v_sum_limbs n_v_rest_limbs v_sum_size v_sum_limbs_a v_rest_size v_rest_limbs_a u_1 hu_1) (cwV 1 hw (zg_V wd_393 wd_394 wd_395 wd_5 wd_396) rfl rfl rfl hd_Big_copy ⟨Nat.le_of_ble_eq_true rfl, Nat.le_of_ble_eq_true rfl⟩) (zz_preV zz_TE (va_recv (q0 := 7) (ci := 0) hK hP rfl rfl) hP hD hK hS hA trivial [7, 8, 1, 2] rfl (by decide)) rfl rfl hl.1 rfl (lv_room (Nat.le_of_ble_eq_true rfl)) d_Sho_isReadAbove_8 ⟨Nat.zero_le _, Nat.zero_le _⟩) (fun H locs hP hD hS => ?_)
  refine lv_aload_n hx hb d_Sho_isReadAbove_11 rfl (lv_at hl 0 rfl) ?_
  refine va_get (D := (dC, dI)) (ci := 5) (v := .ref h_v_sum) (C := R_Sho) (T := T_Sho) (N := 8) hx hb hw in_Sho hown hK hP 0 rfl rfl 3 (by decide) (hw _ wd_128) (fun _ h9 => h9) rfl d_Sho_isReadAbove_12 ?_
  refine lv_aload_n hx hb d_Sho_isReadAbove_15 rfl (lv_at hl 0 rfl) ?_
  refine va_get (D := (dC, dI)) (ci := 5) (v := .ref h_v_halfGap) (C := R_Sho) (T := T_Sho) (N := 8) hx hb hw in_Sho hown hK hP 0 rfl rfl 2 (by decide) (hw _ wd_127) (fun _ h9 => h9) rfl d_Sho_isReadAbove_16 ?_
  obtain ⟨u_2, hu_2, hf⟩ := zz_bd hf
  refine zz_cv (ws' := [(h_v, .inr (5, [.ref h_v_rest, .ref h_v_unit, .ref h_v_halfGap, .ref h_v_sum, .int v_isNarrowBelow, .int v_isEven, .long v_number, .int v_power])), (h_v_rest, .inr (0, [.ref h_v_rest_limbs, .int v_rest_size])), (h_v_rest_limbs, .inl (cI, n_v_rest_limbs, .inl v_rest_limbs_a)), (h_v_unit, .inr (0, [.ref h_v_unit_limbs, .int v_unit_size])), (h_v_unit_limbs, .inl (cI, n_v_unit_limbs, .inl v_unit_limbs_a)), (h_v_halfGap, .inr (0, [.ref h_v_halfGap_limbs, .int v_halfGap_size])), (h_v_halfGap_limbs, .inl (cI, n_v_halfGap_limbs, .inl v_halfGap_limbs_a)), (h_v_sum, .inr (0, [.ref h_v_sum_limbs, .int u_2.1])), (h_v_sum_limbs, .inl (cI, n_v_sum_limbs, .inl u_2.2))]) (wc := [(h_v_sum, .inr (0, [.ref h_v_sum_limbs, .int u_1.1])), (h_v_sum_limbs, .inl (cI, n_v_sum_limbs, .inl u_1.2)), (h_v_halfGap, .inr (0, [.ref h_v_halfGap_limbs, .int v_halfGap_size])), (h_v_halfGap_limbs, .inl (cI, n_v_halfGap_limbs, .inl v_halfGap_limbs_a))]) (w' := [(h_v_sum, .inr (0, [.ref h_v_sum_limbs, .int u_2.1])), (h_v_sum_limbs, .inl (cI, n_v_sum_limbs, .inl u_2.2)), (h_v_halfGap, .inr (0, [.ref h_v_halfGap_limbs, .int v_halfGap_size])), (h_v_halfGap_limbs, .inl (cI, n_v_halfGap_limbs, .inl v_halfGap_limbs_a))]) hP hD hS hA [7, 8, 5, 6] [0, 1, 2, 3, 4] [0, 1, 2, 3, 4, 7, 8, 5, 6] rfl rfl (by decide) (by decide) rfl (by decide) (va_runV (As := [.ref h_v_halfGap]) (rest := []) ⟨hx, hb, hml, hown, hw⟩ (c_Big_add l dC dI cI cC cB cJ fu _ h_v_sum h_v_sum_limbs h_v_halfGap h_v_halfGap_limbs n_v_sum_limbs n_v_halfGap_limbs u_1.1 u_1.2 v_halfGap_size v_halfGap_limbs_a u_2 hu_2) (cwV 1 hw (zg_V wd_400 wd_401 wd_402 wd_5 wd_403) rfl rfl rfl hd_Big_add ⟨Nat.le_of_ble_eq_true rfl, Nat.le_of_ble_eq_true rfl⟩) (zz_preV zz_TE (va_recv (q0 := 7) (ci := 0) hK hP rfl rfl) hP hD hK hS hA trivial [7, 8, 5, 6] rfl (by decide)) rfl rfl hl.1 rfl (lv_room (Nat.le_of_ble_eq_true rfl)) d_Sho_isReadAbove_19 ⟨Nat.zero_le _, Nat.zero_le _⟩) (fun H locs hP hD hS => ?_)
  refine lv_aload_n hx hb d_Sho_isReadAbove_22 rfl (lv_at hl 0 rfl) ?_
  refine va_get (D := (dC, dI)) (ci := 5) (v := .int v_isNarrowBelow) (C := R_Sho) (T := T_Sho) (N := 8) hx hb hw in_Sho hown hK hP 0 rfl rfl 4 (by decide) (hw _ wd_129) (fun _ h9 => h9) rfl d_Sho_isReadAbove_23 ?_
  refine lv_if_eq (tgt := 40) hx hb d_Sho_isReadAbove_26 (by decide) (fun hc => ?_) (fun hc => ?_)
  · have hf := zz_ifp hc hf
    exact hL_40 u_2.1 u_2.2 ls _ _ (lv_sub hl [0] rfl) hP hD hS hf
  · have hf := zz_ifn hc hf
    refine lv_aload_n hx hb d_Sho_isReadAbove_29 rfl (lv_at hl 0 rfl) ?_
    refine va_get (D := (dC, dI)) (ci := 5) (v := .ref h_v_sum) (C := R_Sho) (T := T_Sho) (N := 8) hx hb hw in_Sho hown hK hP 0 rfl rfl 3 (by decide) (hw _ wd_128) (fun _ h9 => h9) rfl d_Sho_isReadAbove_30 ?_
    refine lv_aload_n hx hb d_Sho_isReadAbove_33 rfl (lv_at hl 0 rfl) ?_
    refine va_get (D := (dC, dI)) (ci := 5) (v := .ref h_v_halfGap) (C := R_Sho) (T := T_Sho) (N := 8) hx hb hw in_Sho hown hK hP 0 rfl rfl 2 (by decide) (hw _ wd_127) (fun _ h9 => h9) rfl d_Sho_isReadAbove_34 ?_
    obtain ⟨u_4, hu_4, hf⟩ := zz_bd hf
    refine zz_cv (ws' := [(h_v, .inr (5, [.ref h_v_rest, .ref h_v_unit, .ref h_v_halfGap, .ref h_v_sum, .int v_isNarrowBelow, .int v_isEven, .long v_number, .int v_power])), (h_v_rest, .inr (0, [.ref h_v_rest_limbs, .int v_rest_size])), (h_v_rest_limbs, .inl (cI, n_v_rest_limbs, .inl v_rest_limbs_a)), (h_v_unit, .inr (0, [.ref h_v_unit_limbs, .int v_unit_size])), (h_v_unit_limbs, .inl (cI, n_v_unit_limbs, .inl v_unit_limbs_a)), (h_v_halfGap, .inr (0, [.ref h_v_halfGap_limbs, .int v_halfGap_size])), (h_v_halfGap_limbs, .inl (cI, n_v_halfGap_limbs, .inl v_halfGap_limbs_a)), (h_v_sum, .inr (0, [.ref h_v_sum_limbs, .int u_4.1])), (h_v_sum_limbs, .inl (cI, n_v_sum_limbs, .inl u_4.2))]) (wc := [(h_v_sum, .inr (0, [.ref h_v_sum_limbs, .int u_2.1])), (h_v_sum_limbs, .inl (cI, n_v_sum_limbs, .inl u_2.2)), (h_v_halfGap, .inr (0, [.ref h_v_halfGap_limbs, .int v_halfGap_size])), (h_v_halfGap_limbs, .inl (cI, n_v_halfGap_limbs, .inl v_halfGap_limbs_a))]) (w' := [(h_v_sum, .inr (0, [.ref h_v_sum_limbs, .int u_4.1])), (h_v_sum_limbs, .inl (cI, n_v_sum_limbs, .inl u_4.2)), (h_v_halfGap, .inr (0, [.ref h_v_halfGap_limbs, .int v_halfGap_size])), (h_v_halfGap_limbs, .inl (cI, n_v_halfGap_limbs, .inl v_halfGap_limbs_a))]) hP hD hS hA [7, 8, 5, 6] [0, 1, 2, 3, 4] [0, 1, 2, 3, 4, 7, 8, 5, 6] rfl rfl (by decide) (by decide) rfl (by decide) (va_runV (As := [.ref h_v_halfGap]) (rest := []) ⟨hx, hb, hml, hown, hw⟩ (c_Big_add l dC dI cI cC cB cJ fu _ h_v_sum h_v_sum_limbs h_v_halfGap h_v_halfGap_limbs n_v_sum_limbs n_v_halfGap_limbs u_2.1 u_2.2 v_halfGap_size v_halfGap_limbs_a u_4 hu_4) (cwV 1 hw (zg_V wd_400 wd_401 wd_402 wd_5 wd_403) rfl rfl rfl hd_Big_add ⟨Nat.le_of_ble_eq_true rfl, Nat.le_of_ble_eq_true rfl⟩) (zz_preV zz_TE (va_recv (q0 := 7) (ci := 0) hK hP rfl rfl) hP hD hK hS hA trivial [7, 8, 5, 6] rfl (by decide)) rfl rfl hl.1 rfl (lv_room (Nat.le_of_ble_eq_true rfl)) d_Sho_isReadAbove_37 ⟨Nat.zero_le _, Nat.zero_le _⟩) (fun H locs hP hD hS => ?_)
    exact hL_40 u_4.1 u_4.2 ls _ _ (lv_sub hl [0] rfl) hP hD hS hf
abbrev ws_Sho_isNearerAbove : List Cond := .code y_Sho_isNearerAbove prog_8_method_7_code 2 (some .boolean) :: zw
abbrev rm_Sho_isNearerAbove : Room := { frames := 3, cells := 0, slots := 0, locals := 221 }
theorem hd_Sho_isNearerAbove : y_Sho_isNearerAbove.cls = "RealText$Shortest" ∧ y_Sho_isNearerAbove.cls ≠ "java/lang/invoke/MethodHandle" ∧ y_Sho_isNearerAbove.cls ≠ "java/lang/invoke/VarHandle" ∧ (parseMethodDescriptor y_Sho_isNearerAbove.desc).map (fun d => d.parameters.length) = some 0 := by decide +kernel
theorem d_Sho_isNearerAbove_0 : decode prog_8_method_7_code 0 = .ok (.aload_n 0, 1) := by decide +kernel
theorem d_Sho_isNearerAbove_1 : decode prog_8_method_7_code 1 = .ok (.getfield 24, 3) := by decide +kernel
theorem d_Sho_isNearerAbove_4 : decode prog_8_method_7_code 4 = .ok (.aload_n 0, 1) := by decide +kernel
theorem d_Sho_isNearerAbove_5 : decode prog_8_method_7_code 5 = .ok (.getfield 14, 3) := by decide +kernel
theorem d_Sho_isNearerAbove_8 : decode prog_8_method_7_code 8 = .ok (.invokevirtual 111, 3) := by decide +kernel
theorem d_Sho_isNearerAbove_11 : decode prog_8_method_7_code 11 = .ok (.aload_n 0, 1) := by decide +kernel
theorem d_Sho_isNearerAbove_12 : decode prog_8_method_7_code 12 = .ok (.getfield 24, 3) := by decide +kernel
theorem d_Sho_isNearerAbove_15 : decode prog_8_method_7_code 15 = .ok (.aload_n 0, 1) := by decide +kernel
theorem d_Sho_isNearerAbove_16 : decode prog_8_method_7_code 16 = .ok (.getfield 14, 3) := by decide +kernel
theorem d_Sho_isNearerAbove_19 : decode prog_8_method_7_code 19 = .ok (.invokevirtual 114, 3) := by decide +kernel
theorem d_Sho_isNearerAbove_22 : decode prog_8_method_7_code 22 = .ok (.aload_n 0, 1) := by decide +kernel
theorem d_Sho_isNearerAbove_23 : decode prog_8_method_7_code 23 = .ok (.getfield 24, 3) := by decide +kernel
theorem d_Sho_isNearerAbove_26 : decode prog_8_method_7_code 26 = .ok (.aload_n 0, 1) := by decide +kernel
theorem d_Sho_isNearerAbove_27 : decode prog_8_method_7_code 27 = .ok (.getfield 18, 3) := by decide +kernel
theorem d_Sho_isNearerAbove_30 : decode prog_8_method_7_code 30 = .ok (.invokevirtual 99, 3) := by decide +kernel
theorem d_Sho_isNearerAbove_33 : decode prog_8_method_7_code 33 = .ok (.istore_n 1, 1) := by decide +kernel
theorem d_Sho_isNearerAbove_34 : decode prog_8_method_7_code 34 = .ok (.iload_n 1, 1) := by decide +kernel
theorem d_Sho_isNearerAbove_35 : decode prog_8_method_7_code 35 = .ok (.ifCond .gt 18, 3) := by decide +kernel
theorem d_Sho_isNearerAbove_38 : decode prog_8_method_7_code 38 = .ok (.iload_n 1, 1) := by decide +kernel
theorem d_Sho_isNearerAbove_39 : decode prog_8_method_7_code 39 = .ok (.ifCond .ne 18, 3) := by decide +kernel
theorem d_Sho_isNearerAbove_42 : decode prog_8_method_7_code 42 = .ok (.aload_n 0, 1) := by decide +kernel
theorem d_Sho_isNearerAbove_43 : decode prog_8_method_7_code 43 = .ok (.getfield 51, 3) := by decide +kernel
theorem d_Sho_isNearerAbove_46 : decode prog_8_method_7_code 46 = .ok (.lconst 1, 1) := by decide +kernel
theorem d_Sho_isNearerAbove_47 : decode prog_8_method_7_code 47 = .ok (.land, 1) := by decide +kernel
theorem d_Sho_isNearerAbove_48 : decode prog_8_method_7_code 48 = .ok (.lconst 0, 1) := by decide +kernel
theorem d_Sho_isNearerAbove_49 : decode prog_8_method_7_code 49 = .ok (.lcmp, 1) := by decide +kernel
theorem d_Sho_isNearerAbove_50 : decode prog_8_method_7_code 50 = .ok (.ifCond .eq 7, 3) := by decide +kernel
theorem d_Sho_isNearerAbove_53 : decode prog_8_method_7_code 53 = .ok (.iconst 1, 1) := by decide +kernel
theorem d_Sho_isNearerAbove_54 : decode prog_8_method_7_code 54 = .ok (.goto 4, 3) := by decide +kernel
theorem d_Sho_isNearerAbove_57 : decode prog_8_method_7_code 57 = .ok (.iconst 0, 1) := by decide +kernel
theorem d_Sho_isNearerAbove_58 : decode prog_8_method_7_code 58 = .ok (.ireturn, 1) := by decide +kernel
def f_Sho_isNearerAbove (fu : Nat) (n_v_rest_limbs : Nat) (n_v_unit_limbs : Nat) (n_v_sum_limbs : Nat) (v_number : Int64) (v_rest_size : Int32) (v_rest_limbs_a : Nat → Int32) (v_unit_size : Int32) (v_unit_limbs_a : Nat → Int32) (v_sum_size : Int32) (v_sum_limbs_a : Nat → Int32) : Option (Int32 × Int32 × (Nat → Int32)) :=
  (f_Big_copy n_v_sum_limbs n_v_rest_limbs v_sum_size v_sum_limbs_a v_rest_size v_rest_limbs_a).bind fun u_1 =>
  (f_Big_add fu n_v_sum_limbs n_v_rest_limbs u_1.1 u_1.2 v_rest_size v_rest_limbs_a).bind fun u_2 =>
  (f_Big_compare fu n_v_sum_limbs n_v_unit_limbs u_2.1 u_2.2 v_unit_size v_unit_limbs_a).bind fun u_3 =>
  (if 0 < u_3 then
  some (1, u_2.1, u_2.2)
  else
  (if u_3 = 0 then
  (if (lg_cmp (v_number &&& 1) 0) = 0 then
  some (0, u_2.1, u_2.2)
  else
  some (1, u_2.1, u_2.2))
  else
  some (0, u_2.1, u_2.2)))
set_option maxHeartbeats 4000000 in
set_option maxRecDepth 100000 in
theorem c_Sho_isNearerAbove (l : Launch) (dC : Nat → ClassId) (dI : Nat → Nat → Nat) (cI cC cB cJ : ClassId) (fu : Nat) (sz : Nat) (h_v : Nat) (h_v_rest : Nat) (h_v_rest_limbs : Nat) (h_v_unit : Nat) (h_v_unit_limbs : Nat) (h_v_sum : Nat) (h_v_sum_limbs : Nat) (h_v_halfGap : Nat) (n_v_rest_limbs : Nat) (n_v_unit_limbs : Nat) (n_v_sum_limbs : Nat) (v_isNarrowBelow : Int32) (v_isEven : Int32) (v_number : Int64) (v_power : Int32) (v_rest_size : Int32) (v_rest_limbs_a : Nat → Int32) (v_unit_size : Int32) (v_unit_limbs_a : Nat → Int32) (v_sum_size : Int32) (v_sum_limbs_a : Nat → Int32) (u : Int32 × Int32 × (Nat → Int32)) (hf : f_Sho_isNearerAbove fu n_v_rest_limbs n_v_unit_limbs n_v_sum_limbs v_number v_rest_size v_rest_limbs_a v_unit_size v_unit_limbs_a v_sum_size v_sum_limbs_a = some u) : Met l y_Sho_isNearerAbove ws_Sho_isNearerAbove rm_Sho_isNearerAbove (zz_P zz_T (dC, dI) vwCl (zz_tys cI cC cB cJ) [.ref h_v] [(h_v, .inr (5, [.ref h_v_rest, .ref h_v_unit, .ref h_v_halfGap, .ref h_v_sum, .int v_isNarrowBelow, .int v_isEven, .long v_number, .int v_power])), (h_v_rest, .inr (0, [.ref h_v_rest_limbs, .int v_rest_size])), (h_v_rest_limbs, .inl (cI, n_v_rest_limbs, .inl v_rest_limbs_a)), (h_v_unit, .inr (0, [.ref h_v_unit_limbs, .int v_unit_size])), (h_v_unit_limbs, .inl (cI, n_v_unit_limbs, .inl v_unit_limbs_a)), (h_v_sum, .inr (0, [.ref h_v_sum_limbs, .int v_sum_size])), (h_v_sum_limbs, .inl (cI, n_v_sum_limbs, .inl v_sum_limbs_a))] sz) (zz_Qi (dC, dI) vwCl u.1 [(h_v, .inr (5, [.ref h_v_rest, .ref h_v_unit, .ref h_v_halfGap, .ref h_v_sum, .int v_isNarrowBelow, .int v_isEven, .long v_number, .int v_power])), (h_v_rest, .inr (0, [.ref h_v_rest_limbs, .int v_rest_size])), (h_v_rest_limbs, .inl (cI, n_v_rest_limbs, .inl v_rest_limbs_a)), (h_v_unit, .inr (0, [.ref h_v_unit_limbs, .int v_unit_size])), (h_v_unit_limbs, .inl (cI, n_v_unit_limbs, .inl v_unit_limbs_a)), (h_v_sum, .inr (0, [.ref h_v_sum_limbs, .int u.2.1])), (h_v_sum_limbs, .inl (cI, n_v_sum_limbs, .inl u.2.2))] (va_A [(h_v, .inr (5, [.ref h_v_rest, .ref h_v_unit, .ref h_v_halfGap, .ref h_v_sum, .int v_isNarrowBelow, .int v_isEven, .long v_number, .int v_power])), (h_v_rest, .inr (0, [.ref h_v_rest_limbs, .int v_rest_size])), (h_v_rest_limbs, .inl (cI, n_v_rest_limbs, .inl v_rest_limbs_a)), (h_v_unit, .inr (0, [.ref h_v_unit_limbs, .int v_unit_size])), (h_v_unit_limbs, .inl (cI, n_v_unit_limbs, .inl v_unit_limbs_a)), (h_v_sum, .inr (0, [.ref h_v_sum_limbs, .int v_sum_size])), (h_v_sum_limbs, .inl (cI, n_v_sum_limbs, .inl v_sum_limbs_a))] sz)) 0 0 (va_A [(h_v, .inr (5, [.ref h_v_rest, .ref h_v_unit, .ref h_v_halfGap, .ref h_v_sum, .int v_isNarrowBelow, .int v_isEven, .long v_number, .int v_power])), (h_v_rest, .inr (0, [.ref h_v_rest_limbs, .int v_rest_size])), (h_v_rest_limbs, .inl (cI, n_v_rest_limbs, .inl v_rest_limbs_a)), (h_v_unit, .inr (0, [.ref h_v_unit_limbs, .int v_unit_size])), (h_v_unit_limbs, .inl (cI, n_v_unit_limbs, .inl v_unit_limbs_a)), (h_v_sum, .inr (0, [.ref h_v_sum_limbs, .int v_sum_size])), (h_v_sum_limbs, .inl (cI, n_v_sum_limbs, .inl v_sum_limbs_a))] sz) := by
  refine Met.ofW (cc := prog_8_method_7_code) (maxL := 2) (ret := (some .boolean)) (by decide +kernel) rfl ?_
  intro p e s m args below meth c s₁ B hml hv
  obtain ⟨rfl, hsz, hP, hK, hD0, hX⟩ := hv
  have hx := B.exec
  have hb := B.bytes
  have hr := B.returns
  have hts := atoms_spec (ws := ws_Sho_isNearerAbove) B.pre
  have hw : ∀ w ∈ zw, w.before [.ref h_v].toArray s = true := fun w h => hts w (List.mem_cons_of_mem _ h)
  have hown : s.vm.findClass R_Sho = some m.cls := findClass_of_methodNamed B.named
  have hlocks := B.notSynchronized
  subst hsz
  have hD := hD0.self (sz := s.heap.size)
  generalize hAe : va_A [(h_v, .inr (5, [.ref h_v_rest, .ref h_v_unit, .ref h_v_halfGap, .ref h_v_sum, .int v_isNarrowBelow, .int v_isEven, .long v_number, .int v_power])), (h_v_rest, .inr (0, [.ref h_v_rest_limbs, .int v_rest_size])), (h_v_rest_limbs, .inl (cI, n_v_rest_limbs, .inl v_rest_limbs_a)), (h_v_unit, .inr (0, [.ref h_v_unit_limbs, .int v_unit_size])), (h_v_unit_limbs, .inl (cI, n_v_unit_limbs, .inl v_unit_limbs_a)), (h_v_sum, .inr (0, [.ref h_v_sum_limbs, .int v_sum_size])), (h_v_sum_limbs, .inl (cI, n_v_sum_limbs, .inl v_sum_limbs_a))] s.heap.size = A at hD hX ⊢
  have hA : ∀ q : Nat, s.heap.size ≤ q → A q := fun q h => by rw [← hAe]; exact Or.inr h
  have hS : va_S A s.heap s.heap [] := va_S.rf
  have hl := lv_entry [.ref h_v] (n := 2) (Nat.le_of_ble_eq_true rfl)
  rw [lg_entry_eq]
  generalize (lg_sl [.ref h_v] ++ List.replicate (2 - (lg_sl [.ref h_v]).length) Slot.unset).toArray = ls at hl ⊢
  have hl : lv_has ls 2 [(0, .ref h_v)] := hl
  refine zz_endz hx hb hr hlocks (fun Qq hend => ?_)
  unfold f_Sho_isNearerAbove at hf
  refine lv_aload_n hx hb d_Sho_isNearerAbove_0 rfl (lv_at hl 0 rfl) ?_
  refine va_get (D := (dC, dI)) (ci := 5) (v := .ref h_v_sum) (C := R_Sho) (T := T_Sho) (N := 8) hx hb hw in_Sho hown hK hP 0 rfl rfl 3 (by decide) (hw _ wd_128) (fun _ h9 => h9) rfl d_Sho_isNearerAbove_1 ?_
  refine lv_aload_n hx hb d_Sho_isNearerAbove_4 rfl (lv_at hl 0 rfl) ?_
  refine va_get (D := (dC, dI)) (ci := 5) (v := .ref h_v_rest) (C := R_Sho) (T := T_Sho) (N := 8) hx hb hw in_Sho hown hK hP 0 rfl rfl 0 (by decide) (hw _ wd_125) (fun _ h9 => h9) rfl d_Sho_isNearerAbove_5 ?_
  obtain ⟨u_1, hu_1, hf⟩ := zz_bd hf
  refine zz_cv (ws' := [(h_v, .inr (5, [.ref h_v_rest, .ref h_v_unit, .ref h_v_halfGap, .ref h_v_sum, .int v_isNarrowBelow, .int v_isEven, .long v_number, .int v_power])), (h_v_rest, .inr (0, [.ref h_v_rest_limbs, .int v_rest_size])), (h_v_rest_limbs, .inl (cI, n_v_rest_limbs, .inl v_rest_limbs_a)), (h_v_unit, .inr (0, [.ref h_v_unit_limbs, .int v_unit_size])), (h_v_unit_limbs, .inl (cI, n_v_unit_limbs, .inl v_unit_limbs_a)), (h_v_sum, .inr (0, [.ref h_v_sum_limbs, .int u_1.1])), (h_v_sum_limbs, .inl (cI, n_v_sum_limbs, .inl u_1.2))]) (wc := [(h_v_sum, .inr (0, [.ref h_v_sum_limbs, .int v_sum_size])), (h_v_sum_limbs, .inl (cI, n_v_sum_limbs, .inl v_sum_limbs_a)), (h_v_rest, .inr (0, [.ref h_v_rest_limbs, .int v_rest_size])), (h_v_rest_limbs, .inl (cI, n_v_rest_limbs, .inl v_rest_limbs_a))]) (w' := [(h_v_sum, .inr (0, [.ref h_v_sum_limbs, .int u_1.1])), (h_v_sum_limbs, .inl (cI, n_v_sum_limbs, .inl u_1.2)), (h_v_rest, .inr (0, [.ref h_v_rest_limbs, .int v_rest_size])), (h_v_rest_limbs, .inl (cI, n_v_rest_limbs, .inl v_rest_limbs_a))]) hP hD hS hA [5, 6, 1, 2] [0, 3, 4] [0, 5, 6, 1, 2, 3, 4] rfl rfl (by decide) (by decide) rfl (by decide) (va_runV (As := [.ref h_v_rest]) (rest := []) ⟨hx, hb, hml, hown, hw⟩ (c_Big_copy l dC dI cI cC cB cJ _ h_v_sum h_v_sum_limbs h_v_rest h_v_rest_limbs n_v_sum_limbs n_v_rest_limbs v_sum_size v_sum_limbs_a v_rest_size v_rest_limbs_a u_1 hu_1) (cwV 1 hw (zg_V wd_393 wd_394 wd_395 wd_5 wd_396) rfl rfl rfl hd_Big_copy ⟨Nat.le_of_ble_eq_true rfl, Nat.le_of_ble_eq_true rfl⟩) (zz_preV zz_TE (va_recv (q0 := 5) (ci := 0) hK hP rfl rfl) hP hD hK hS hA trivial [5, 6, 1, 2] rfl (by decide)) rfl rfl hl.1 rfl (lv_room (Nat.le_of_ble_eq_true rfl)) d_Sho_isNearerAbove_8 ⟨Nat.zero_le _, Nat.zero_le _⟩) (fun H locs hP hD hS => ?_)
  refine lv_aload_n hx hb d_Sho_isNearerAbove_11 rfl (lv_at hl 0 rfl) ?_
  refine va_get (D := (dC, dI)) (ci := 5) (v := .ref h_v_sum) (C := R_Sho) (T := T_Sho) (N := 8) hx hb hw in_Sho hown hK hP 0 rfl rfl 3 (by decide) (hw _ wd_128) (fun _ h9 => h9) rfl d_Sho_isNearerAbove_12 ?_
  refine lv_aload_n hx hb d_Sho_isNearerAbove_15 rfl (lv_at hl 0 rfl) ?_
  refine va_get (D := (dC, dI)) (ci := 5) (v := .ref h_v_rest) (C := R_Sho) (T := T_Sho) (N := 8) hx hb hw in_Sho hown hK hP 0 rfl rfl 0 (by decide) (hw _ wd_125) (fun _ h9 => h9) rfl d_Sho_isNearerAbove_16 ?_
  obtain ⟨u_2, hu_2, hf⟩ := zz_bd hf
  refine zz_cv (ws' := [(h_v, .inr (5, [.ref h_v_rest, .ref h_v_unit, .ref h_v_halfGap, .ref h_v_sum, .int v_isNarrowBelow, .int v_isEven, .long v_number, .int v_power])), (h_v_rest, .inr (0, [.ref h_v_rest_limbs, .int v_rest_size])), (h_v_rest_limbs, .inl (cI, n_v_rest_limbs, .inl v_rest_limbs_a)), (h_v_unit, .inr (0, [.ref h_v_unit_limbs, .int v_unit_size])), (h_v_unit_limbs, .inl (cI, n_v_unit_limbs, .inl v_unit_limbs_a)), (h_v_sum, .inr (0, [.ref h_v_sum_limbs, .int u_2.1])), (h_v_sum_limbs, .inl (cI, n_v_sum_limbs, .inl u_2.2))]) (wc := [(h_v_sum, .inr (0, [.ref h_v_sum_limbs, .int u_1.1])), (h_v_sum_limbs, .inl (cI, n_v_sum_limbs, .inl u_1.2)), (h_v_rest, .inr (0, [.ref h_v_rest_limbs, .int v_rest_size])), (h_v_rest_limbs, .inl (cI, n_v_rest_limbs, .inl v_rest_limbs_a))]) (w' := [(h_v_sum, .inr (0, [.ref h_v_sum_limbs, .int u_2.1])), (h_v_sum_limbs, .inl (cI, n_v_sum_limbs, .inl u_2.2)), (h_v_rest, .inr (0, [.ref h_v_rest_limbs, .int v_rest_size])), (h_v_rest_limbs, .inl (cI, n_v_rest_limbs, .inl v_rest_limbs_a))]) hP hD hS hA [5, 6, 1, 2] [0, 3, 4] [0, 5, 6, 1, 2, 3, 4] rfl rfl (by decide) (by decide) rfl (by decide) (va_runV (As := [.ref h_v_rest]) (rest := []) ⟨hx, hb, hml, hown, hw⟩ (c_Big_add l dC dI cI cC cB cJ fu _ h_v_sum h_v_sum_limbs h_v_rest h_v_rest_limbs n_v_sum_limbs n_v_rest_limbs u_1.1 u_1.2 v_rest_size v_rest_limbs_a u_2 hu_2) (cwV 1 hw (zg_V wd_400 wd_401 wd_402 wd_5 wd_403) rfl rfl rfl hd_Big_add ⟨Nat.le_of_ble_eq_true rfl, Nat.le_of_ble_eq_true rfl⟩) (zz_preV zz_TE (va_recv (q0 := 5) (ci := 0) hK hP rfl rfl) hP hD hK hS hA trivial [5, 6, 1, 2] rfl (by decide)) rfl rfl hl.1 rfl (lv_room (Nat.le_of_ble_eq_true rfl)) d_Sho_isNearerAbove_19 ⟨Nat.zero_le _, Nat.zero_le _⟩) (fun H locs hP hD hS => ?_)
  refine lv_aload_n hx hb d_Sho_isNearerAbove_22 rfl (lv_at hl 0 rfl) ?_
  refine va_get (D := (dC, dI)) (ci := 5) (v := .ref h_v_sum) (C := R_Sho) (T := T_Sho) (N := 8) hx hb hw in_Sho hown hK hP 0 rfl rfl 3 (by decide) (hw _ wd_128) (fun _ h9 => h9) rfl d_Sho_isNearerAbove_23 ?_
  refine lv_aload_n hx hb d_Sho_isNearerAbove_26 rfl (lv_at hl 0 rfl) ?_
  refine va_get (D := (dC, dI)) (ci := 5) (v := .ref h_v_unit) (C := R_Sho) (T := T_Sho) (N := 8) hx hb hw in_Sho hown hK hP 0 rfl rfl 1 (by decide) (hw _ wd_126) (fun _ h9 => h9) rfl d_Sho_isNearerAbove_27 ?_
  obtain ⟨u_3, hu_3, hf⟩ := zz_bd hf
  refine zz_ci (ws' := [(h_v, .inr (5, [.ref h_v_rest, .ref h_v_unit, .ref h_v_halfGap, .ref h_v_sum, .int v_isNarrowBelow, .int v_isEven, .long v_number, .int v_power])), (h_v_rest, .inr (0, [.ref h_v_rest_limbs, .int v_rest_size])), (h_v_rest_limbs, .inl (cI, n_v_rest_limbs, .inl v_rest_limbs_a)), (h_v_unit, .inr (0, [.ref h_v_unit_limbs, .int v_unit_size])), (h_v_unit_limbs, .inl (cI, n_v_unit_limbs, .inl v_unit_limbs_a)), (h_v_sum, .inr (0, [.ref h_v_sum_limbs, .int u_2.1])), (h_v_sum_limbs, .inl (cI, n_v_sum_limbs, .inl u_2.2))]) (wc := [(h_v_sum, .inr (0, [.ref h_v_sum_limbs, .int u_2.1])), (h_v_sum_limbs, .inl (cI, n_v_sum_limbs, .inl u_2.2)), (h_v_unit, .inr (0, [.ref h_v_unit_limbs, .int v_unit_size])), (h_v_unit_limbs, .inl (cI, n_v_unit_limbs, .inl v_unit_limbs_a))]) (w' := [(h_v_sum, .inr (0, [.ref h_v_sum_limbs, .int u_2.1])), (h_v_sum_limbs, .inl (cI, n_v_sum_limbs, .inl u_2.2)), (h_v_unit, .inr (0, [.ref h_v_unit_limbs, .int v_unit_size])), (h_v_unit_limbs, .inl (cI, n_v_unit_limbs, .inl v_unit_limbs_a))]) hP hD hS hA [5, 6, 3, 4] [0, 1, 2] [0, 1, 2, 5, 6, 3, 4] rfl rfl (by decide) (by decide) rfl (by decide) (va_runV (As := [.ref h_v_unit]) (rest := []) ⟨hx, hb, hml, hown, hw⟩ (c_Big_compare l dC dI cI cC cB cJ fu _ h_v_sum h_v_sum_limbs h_v_unit h_v_unit_limbs n_v_sum_limbs n_v_unit_limbs u_2.1 u_2.2 v_unit_size v_unit_limbs_a u_3 hu_3) (cwV 1 hw (zg_V wd_371 wd_372 wd_373 wd_5 wd_374) rfl rfl rfl hd_Big_compare ⟨Nat.le_of_ble_eq_true rfl, Nat.le_of_ble_eq_true rfl⟩) (zz_preV zz_TE (va_recv (q0 := 5) (ci := 0) hK hP rfl rfl) hP hD hK hS hA trivial [5, 6, 3, 4] rfl (by decide)) rfl rfl hl.1 rfl (lv_room (Nat.le_of_ble_eq_true rfl)) d_Sho_isNearerAbove_30 ⟨Nat.zero_le _, Nat.zero_le _⟩) (fun H locs hP hD hS => ?_)
  refine lv_istore_n hx hb d_Sho_isNearerAbove_33 rfl hl (by decide) rfl (fun ls hl => ?_)
  have hl : lv_has ls 2 [(1, .int u_3), (0, .ref h_v)] := hl
  refine lv_iload_n hx hb d_Sho_isNearerAbove_34 rfl (lv_at hl 0 rfl) ?_
  refine lv_if_gt (tgt := 53) hx hb d_Sho_isNearerAbove_35 (by decide) (fun hc => ?_) (fun hc => ?_)
  · have hf := zz_ifp hc hf
    refine lv_iconst (v := 1) hx hb d_Sho_isNearerAbove_53 (by decide) ?_
    refine lv_goto (tgt := 58) hx hb d_Sho_isNearerAbove_54 (by decide) ?_
    cases hf
    exact hend 58 ls _ _ narrow_b1 d_Sho_isNearerAbove_58 hP hD hS
  · have hf := zz_ifn hc hf
    refine lv_iload_n hx hb d_Sho_isNearerAbove_38 rfl (lv_at hl 0 rfl) ?_
    refine lv_if_ne (tgt := 57) hx hb d_Sho_isNearerAbove_39 (by decide) (fun hc => ?_) (fun hc => ?_)
    · have hf := zz_ifn hc hf
      refine lv_iconst (v := 0) hx hb d_Sho_isNearerAbove_57 (by decide) ?_
      cases hf
      exact hend 58 ls _ _ narrow_b0 d_Sho_isNearerAbove_58 hP hD hS
    · have hf := zz_ifp hc hf
      refine lv_aload_n hx hb d_Sho_isNearerAbove_42 rfl (lv_at hl 1 rfl) ?_
      refine va_get (D := (dC, dI)) (ci := 5) (v := .long v_number) (C := R_Sho) (T := T_Sho) (N := 8) hx hb hw in_Sho hown hK hP 0 rfl rfl 6 (by decide) (hw _ wd_131) (fun _ h9 => h9) rfl d_Sho_isNearerAbove_43 ?_
      refine lv_lconst (v := 1) hx hb d_Sho_isNearerAbove_46 (by decide) ?_
      refine lv_land hx hb d_Sho_isNearerAbove_47 ?_
      refine lv_lconst (v := 0) hx hb d_Sho_isNearerAbove_48 (by decide) ?_
      refine W.lcmp hx hb d_Sho_isNearerAbove_49 ?_
      refine lv_if_eq (tgt := 57) hx hb d_Sho_isNearerAbove_50 (by decide) (fun hc => ?_) (fun hc => ?_)
      · have hf := zz_ifp hc hf
        refine lv_iconst (v := 0) hx hb d_Sho_isNearerAbove_57 (by decide) ?_
        cases hf
        exact hend 58 ls _ _ narrow_b0 d_Sho_isNearerAbove_58 hP hD hS
      · have hf := zz_ifn hc hf
        refine lv_iconst (v := 1) hx hb d_Sho_isNearerAbove_53 (by decide) ?_
        refine lv_goto (tgt := 58) hx hb d_Sho_isNearerAbove_54 (by decide) ?_
        cases hf
        exact hend 58 ls _ _ narrow_b1 d_Sho_isNearerAbove_58 hP hD hS
abbrev ws_Sho_nextDigit : List Cond := .code y_Sho_nextDigit prog_8_method_4_code 3 (some .int) :: zw
abbrev rm_Sho_nextDigit : Room := { frames := 2, cells := 0, slots := 0, locals := 47 }
theorem hd_Sho_nextDigit : y_Sho_nextDigit.cls = "RealText$Shortest" ∧ y_Sho_nextDigit.cls ≠ "java/lang/invoke/MethodHandle" ∧ y_Sho_nextDigit.cls ≠ "java/lang/invoke/VarHandle" ∧ (parseMethodDescriptor y_Sho_nextDigit.desc).map (fun d => d.parameters.length) = some 0 := by decide +kernel
theorem d_Sho_nextDigit_0 : decode prog_8_method_4_code 0 = .ok (.aload_n 0, 1) := by decide +kernel
theorem d_Sho_nextDigit_1 : decode prog_8_method_4_code 1 = .ok (.getfield 14, 3) := by decide +kernel
theorem d_Sho_nextDigit_4 : decode prog_8_method_4_code 4 = .ok (.bipush 10, 2) := by decide +kernel
theorem d_Sho_nextDigit_6 : decode prog_8_method_4_code 6 = .ok (.iconst 0, 1) := by decide +kernel
theorem d_Sho_nextDigit_7 : decode prog_8_method_4_code 7 = .ok (.invokevirtual 103, 3) := by decide +kernel
theorem d_Sho_nextDigit_10 : decode prog_8_method_4_code 10 = .ok (.aload_n 0, 1) := by decide +kernel
theorem d_Sho_nextDigit_11 : decode prog_8_method_4_code 11 = .ok (.getfield 21, 3) := by decide +kernel
theorem d_Sho_nextDigit_14 : decode prog_8_method_4_code 14 = .ok (.bipush 10, 2) := by decide +kernel
theorem d_Sho_nextDigit_16 : decode prog_8_method_4_code 16 = .ok (.iconst 0, 1) := by decide +kernel
theorem d_Sho_nextDigit_17 : decode prog_8_method_4_code 17 = .ok (.invokevirtual 103, 3) := by decide +kernel
theorem d_Sho_nextDigit_20 : decode prog_8_method_4_code 20 = .ok (.iconst 0, 1) := by decide +kernel
theorem d_Sho_nextDigit_21 : decode prog_8_method_4_code 21 = .ok (.istore_n 1, 1) := by decide +kernel
theorem d_Sho_nextDigit_22 : decode prog_8_method_4_code 22 = .ok (.iconst 1, 1) := by decide +kernel
theorem d_Sho_nextDigit_23 : decode prog_8_method_4_code 23 = .ok (.istore_n 2, 1) := by decide +kernel
theorem d_Sho_nextDigit_24 : decode prog_8_method_4_code 24 = .ok (.iload_n 2, 1) := by decide +kernel
theorem d_Sho_nextDigit_25 : decode prog_8_method_4_code 25 = .ok (.bipush 10, 2) := by decide +kernel
theorem d_Sho_nextDigit_27 : decode prog_8_method_4_code 27 = .ok (.if_icmp .ge 37, 3) := by decide +kernel
theorem d_Sho_nextDigit_30 : decode prog_8_method_4_code 30 = .ok (.aload_n 0, 1) := by decide +kernel
theorem d_Sho_nextDigit_31 : decode prog_8_method_4_code 31 = .ok (.getfield 14, 3) := by decide +kernel
theorem d_Sho_nextDigit_34 : decode prog_8_method_4_code 34 = .ok (.aload_n 0, 1) := by decide +kernel
theorem d_Sho_nextDigit_35 : decode prog_8_method_4_code 35 = .ok (.getfield 18, 3) := by decide +kernel
theorem d_Sho_nextDigit_38 : decode prog_8_method_4_code 38 = .ok (.invokevirtual 99, 3) := by decide +kernel
theorem d_Sho_nextDigit_41 : decode prog_8_method_4_code 41 = .ok (.ifCond .lt 23, 3) := by decide +kernel
theorem d_Sho_nextDigit_44 : decode prog_8_method_4_code 44 = .ok (.aload_n 0, 1) := by decide +kernel
theorem d_Sho_nextDigit_45 : decode prog_8_method_4_code 45 = .ok (.getfield 14, 3) := by decide +kernel
theorem d_Sho_nextDigit_48 : decode prog_8_method_4_code 48 = .ok (.aload_n 0, 1) := by decide +kernel
theorem d_Sho_nextDigit_49 : decode prog_8_method_4_code 49 = .ok (.getfield 18, 3) := by decide +kernel
theorem d_Sho_nextDigit_52 : decode prog_8_method_4_code 52 = .ok (.invokevirtual 107, 3) := by decide +kernel
theorem d_Sho_nextDigit_55 : decode prog_8_method_4_code 55 = .ok (.iinc 1 1, 3) := by decide +kernel
theorem d_Sho_nextDigit_58 : decode prog_8_method_4_code 58 = .ok (.iinc 2 1, 3) := by decide +kernel
theorem d_Sho_nextDigit_61 : decode prog_8_method_4_code 61 = .ok (.goto (-37), 3) := by decide +kernel
theorem d_Sho_nextDigit_64 : decode prog_8_method_4_code 64 = .ok (.iload_n 1, 1) := by decide +kernel
theorem d_Sho_nextDigit_65 : decode prog_8_method_4_code 65 = .ok (.ireturn, 1) := by decide +kernel
def f_Sho_nextDigit_24 (fu : Nat) (n_v_rest_limbs : Nat) (n_v_unit_limbs : Nat) (n_v_halfGap_limbs : Nat) (v_unit_size : Int32) (v_unit_limbs_a : Nat → Int32)  : Nat → Int32 → Int32 → Int32 → (Nat → Int32) → Int32 → (Nat → Int32) → Option (Int32 × Int32 × (Nat → Int32) × Int32 × (Nat → Int32))
  | 0, _, _, _, _, _, _ => none
  | n + 1, y1, y2, v_rest_size, v_rest_limbs_a, v_halfGap_size, v_halfGap_limbs_a =>
  (if 10 ≤ y2 then
  some (y1, v_rest_size, v_rest_limbs_a, v_halfGap_size, v_halfGap_limbs_a)
  else
  (f_Big_compare fu n_v_rest_limbs n_v_unit_limbs v_rest_size v_rest_limbs_a v_unit_size v_unit_limbs_a).bind fun u_3 =>
  (if u_3 < 0 then
  some (y1, v_rest_size, v_rest_limbs_a, v_halfGap_size, v_halfGap_limbs_a)
  else
  (f_Big_subtract fu n_v_rest_limbs n_v_unit_limbs v_rest_size v_rest_limbs_a v_unit_size v_unit_limbs_a).bind fun u_4 =>
  f_Sho_nextDigit_24 fu n_v_rest_limbs n_v_unit_limbs n_v_halfGap_limbs v_unit_size v_unit_limbs_a n (y1 + 1) (y2 + 1) u_4.1 u_4.2 v_halfGap_size v_halfGap_limbs_a))
theorem f_Sho_nextDigit_24_s (fu : Nat) (n_v_rest_limbs : Nat) (n_v_unit_limbs : Nat) (n_v_halfGap_limbs : Nat) (v_unit_size : Int32) (v_unit_limbs_a : Nat → Int32)  (n : Nat) (y1 : Int32) (y2 : Int32) (v_rest_size : Int32) (v_rest_limbs_a : Nat → Int32) (v_halfGap_size : Int32) (v_halfGap_limbs_a : Nat → Int32) : f_Sho_nextDigit_24 fu n_v_rest_limbs n_v_unit_limbs n_v_halfGap_limbs v_unit_size v_unit_limbs_a (n + 1) y1 y2 v_rest_size v_rest_limbs_a v_halfGap_size v_halfGap_limbs_a =
  (if 10 ≤ y2 then
  some (y1, v_rest_size, v_rest_limbs_a, v_halfGap_size, v_halfGap_limbs_a)
  else
  (f_Big_compare fu n_v_rest_limbs n_v_unit_limbs v_rest_size v_rest_limbs_a v_unit_size v_unit_limbs_a).bind fun u_3 =>
  (if u_3 < 0 then
  some (y1, v_rest_size, v_rest_limbs_a, v_halfGap_size, v_halfGap_limbs_a)
  else
  (f_Big_subtract fu n_v_rest_limbs n_v_unit_limbs v_rest_size v_rest_limbs_a v_unit_size v_unit_limbs_a).bind fun u_4 =>
  f_Sho_nextDigit_24 fu n_v_rest_limbs n_v_unit_limbs n_v_halfGap_limbs v_unit_size v_unit_limbs_a n (y1 + 1) (y2 + 1) u_4.1 u_4.2 v_halfGap_size v_halfGap_limbs_a)) := rfl
def f_Sho_nextDigit (fu : Nat) (n_v_rest_limbs : Nat) (n_v_unit_limbs : Nat) (n_v_halfGap_limbs : Nat) (v_rest_size : Int32) (v_rest_limbs_a : Nat → Int32) (v_unit_size : Int32) (v_unit_limbs_a : Nat → Int32) (v_halfGap_size : Int32) (v_halfGap_limbs_a : Nat → Int32) : Option (Int32 × Int32 × (Nat → Int32) × Int32 × (Nat → Int32)) :=
  (f_Big_multiplyAndAdd fu n_v_rest_limbs 10 0 v_rest_size v_rest_limbs_a).bind fun u_1 =>
  (f_Big_multiplyAndAdd fu n_v_halfGap_limbs 10 0 v_halfGap_size v_halfGap_limbs_a).bind fun u_2 =>
  f_Sho_nextDigit_24 fu n_v_rest_limbs n_v_unit_limbs n_v_halfGap_limbs v_unit_size v_unit_limbs_a fu 0 1 u_1.1 u_1.2 u_2.1 u_2.2
set_option maxHeartbeats 4000000 in
set_option maxRecDepth 100000 in
theorem c_Sho_nextDigit (l : Launch) (dC : Nat → ClassId) (dI : Nat → Nat → Nat) (cI cC cB cJ : ClassId) (fu : Nat) (sz : Nat) (h_v : Nat) (h_v_rest : Nat) (h_v_rest_limbs : Nat) (h_v_unit : Nat) (h_v_unit_limbs : Nat) (h_v_halfGap : Nat) (h_v_halfGap_limbs : Nat) (h_v_sum : Nat) (n_v_rest_limbs : Nat) (n_v_unit_limbs : Nat) (n_v_halfGap_limbs : Nat) (v_isNarrowBelow : Int32) (v_isEven : Int32) (v_number : Int64) (v_power : Int32) (v_rest_size : Int32) (v_rest_limbs_a : Nat → Int32) (v_unit_size : Int32) (v_unit_limbs_a : Nat → Int32) (v_halfGap_size : Int32) (v_halfGap_limbs_a : Nat → Int32) (u : Int32 × Int32 × (Nat → Int32) × Int32 × (Nat → Int32)) (hf : f_Sho_nextDigit fu n_v_rest_limbs n_v_unit_limbs n_v_halfGap_limbs v_rest_size v_rest_limbs_a v_unit_size v_unit_limbs_a v_halfGap_size v_halfGap_limbs_a = some u) : Met l y_Sho_nextDigit ws_Sho_nextDigit rm_Sho_nextDigit (zz_P zz_T (dC, dI) vwCl (zz_tys cI cC cB cJ) [.ref h_v] [(h_v, .inr (5, [.ref h_v_rest, .ref h_v_unit, .ref h_v_halfGap, .ref h_v_sum, .int v_isNarrowBelow, .int v_isEven, .long v_number, .int v_power])), (h_v_rest, .inr (0, [.ref h_v_rest_limbs, .int v_rest_size])), (h_v_rest_limbs, .inl (cI, n_v_rest_limbs, .inl v_rest_limbs_a)), (h_v_unit, .inr (0, [.ref h_v_unit_limbs, .int v_unit_size])), (h_v_unit_limbs, .inl (cI, n_v_unit_limbs, .inl v_unit_limbs_a)), (h_v_halfGap, .inr (0, [.ref h_v_halfGap_limbs, .int v_halfGap_size])), (h_v_halfGap_limbs, .inl (cI, n_v_halfGap_limbs, .inl v_halfGap_limbs_a))] sz) (zz_Qi (dC, dI) vwCl u.1 [(h_v, .inr (5, [.ref h_v_rest, .ref h_v_unit, .ref h_v_halfGap, .ref h_v_sum, .int v_isNarrowBelow, .int v_isEven, .long v_number, .int v_power])), (h_v_rest, .inr (0, [.ref h_v_rest_limbs, .int u.2.1])), (h_v_rest_limbs, .inl (cI, n_v_rest_limbs, .inl u.2.2.1)), (h_v_unit, .inr (0, [.ref h_v_unit_limbs, .int v_unit_size])), (h_v_unit_limbs, .inl (cI, n_v_unit_limbs, .inl v_unit_limbs_a)), (h_v_halfGap, .inr (0, [.ref h_v_halfGap_limbs, .int u.2.2.2.1])), (h_v_halfGap_limbs, .inl (cI, n_v_halfGap_limbs, .inl u.2.2.2.2))] (va_A [(h_v, .inr (5, [.ref h_v_rest, .ref h_v_unit, .ref h_v_halfGap, .ref h_v_sum, .int v_isNarrowBelow, .int v_isEven, .long v_number, .int v_power])), (h_v_rest, .inr (0, [.ref h_v_rest_limbs, .int v_rest_size])), (h_v_rest_limbs, .inl (cI, n_v_rest_limbs, .inl v_rest_limbs_a)), (h_v_unit, .inr (0, [.ref h_v_unit_limbs, .int v_unit_size])), (h_v_unit_limbs, .inl (cI, n_v_unit_limbs, .inl v_unit_limbs_a)), (h_v_halfGap, .inr (0, [.ref h_v_halfGap_limbs, .int v_halfGap_size])), (h_v_halfGap_limbs, .inl (cI, n_v_halfGap_limbs, .inl v_halfGap_limbs_a))] sz)) 0 0 (va_A [(h_v, .inr (5, [.ref h_v_rest, .ref h_v_unit, .ref h_v_halfGap, .ref h_v_sum, .int v_isNarrowBelow, .int v_isEven, .long v_number, .int v_power])), (h_v_rest, .inr (0, [.ref h_v_rest_limbs, .int v_rest_size])), (h_v_rest_limbs, .inl (cI, n_v_rest_limbs, .inl v_rest_limbs_a)), (h_v_unit, .inr (0, [.ref h_v_unit_limbs, .int v_unit_size])), (h_v_unit_limbs, .inl (cI, n_v_unit_limbs, .inl v_unit_limbs_a)), (h_v_halfGap, .inr (0, [.ref h_v_halfGap_limbs, .int v_halfGap_size])), (h_v_halfGap_limbs, .inl (cI, n_v_halfGap_limbs, .inl v_halfGap_limbs_a))] sz) := by
  refine Met.ofW (cc := prog_8_method_4_code) (maxL := 3) (ret := (some .int)) (by decide +kernel) rfl ?_
  intro p e s m args below meth c s₁ B hml hv
  obtain ⟨rfl, hsz, hP, hK, hD0, hX⟩ := hv
  have hx := B.exec
  have hb := B.bytes
  have hr := B.returns
  have hts := atoms_spec (ws := ws_Sho_nextDigit) B.pre
  have hw : ∀ w ∈ zw, w.before [.ref h_v].toArray s = true := fun w h => hts w (List.mem_cons_of_mem _ h)
  have hown : s.vm.findClass R_Sho = some m.cls := findClass_of_methodNamed B.named
  have hlocks := B.notSynchronized
  subst hsz
  have hD := hD0.self (sz := s.heap.size)
  generalize hAe : va_A [(h_v, .inr (5, [.ref h_v_rest, .ref h_v_unit, .ref h_v_halfGap, .ref h_v_sum, .int v_isNarrowBelow, .int v_isEven, .long v_number, .int v_power])), (h_v_rest, .inr (0, [.ref h_v_rest_limbs, .int v_rest_size])), (h_v_rest_limbs, .inl (cI, n_v_rest_limbs, .inl v_rest_limbs_a)), (h_v_unit, .inr (0, [.ref h_v_unit_limbs, .int v_unit_size])), (h_v_unit_limbs, .inl (cI, n_v_unit_limbs, .inl v_unit_limbs_a)), (h_v_halfGap, .inr (0, [.ref h_v_halfGap_limbs, .int v_halfGap_size])), (h_v_halfGap_limbs, .inl (cI, n_v_halfGap_limbs, .inl v_halfGap_limbs_a))] s.heap.size = A at hD hX ⊢
  have hA : ∀ q : Nat, s.heap.size ≤ q → A q := fun q h => by rw [← hAe]; exact Or.inr h
  have hS : va_S A s.heap s.heap [] := va_S.rf
  have hl := lv_entry [.ref h_v] (n := 3) (Nat.le_of_ble_eq_true rfl)
  rw [lg_entry_eq]
  generalize (lg_sl [.ref h_v] ++ List.replicate (3 - (lg_sl [.ref h_v]).length) Slot.unset).toArray = ls at hl ⊢
  have hl : lv_has ls 3 [(0, .ref h_v)] := hl
  refine zz_endi hx hb hr hlocks (fun Qq hend => ?_)
  have hL_24 : ∀ (n : Nat), ∀ (y1 : Int32) (y2 : Int32) (v_rest_size : Int32) (v_rest_limbs_a : Nat → Int32) (v_halfGap_size : Int32) (v_halfGap_limbs_a : Nat → Int32) (ls : Array Slot) (H : Heap) (locs : List Loc), lv_has ls 3 [(0, .ref h_v), (1, .int y1), (2, .int y2)] → va_P (dC, dI) vwCl [(h_v, .inr (5, [.ref h_v_rest, .ref h_v_unit, .ref h_v_halfGap, .ref h_v_sum, .int v_isNarrowBelow, .int v_isEven, .long v_number, .int v_power])), (h_v_rest, .inr (0, [.ref h_v_rest_limbs, .int v_rest_size])), (h_v_rest_limbs, .inl (cI, n_v_rest_limbs, .inl v_rest_limbs_a)), (h_v_unit, .inr (0, [.ref h_v_unit_limbs, .int v_unit_size])), (h_v_unit_limbs, .inl (cI, n_v_unit_limbs, .inl v_unit_limbs_a)), (h_v_halfGap, .inr (0, [.ref h_v_halfGap_limbs, .int v_halfGap_size])), (h_v_halfGap_limbs, .inl (cI, n_v_halfGap_limbs, .inl v_halfGap_limbs_a))] H → va_D A [(h_v, .inr (5, [.ref h_v_rest, .ref h_v_unit, .ref h_v_halfGap, .ref h_v_sum, .int v_isNarrowBelow, .int v_isEven, .long v_number, .int v_power])), (h_v_rest, .inr (0, [.ref h_v_rest_limbs, .int v_rest_size])), (h_v_rest_limbs, .inl (cI, n_v_rest_limbs, .inl v_rest_limbs_a)), (h_v_unit, .inr (0, [.ref h_v_unit_limbs, .int v_unit_size])), (h_v_unit_limbs, .inl (cI, n_v_unit_limbs, .inl v_unit_limbs_a)), (h_v_halfGap, .inr (0, [.ref h_v_halfGap_limbs, .int v_halfGap_size])), (h_v_halfGap_limbs, .inl (cI, n_v_halfGap_limbs, .inl v_halfGap_limbs_a))] → va_S A s.heap H locs → f_Sho_nextDigit_24 fu n_v_rest_limbs n_v_unit_limbs n_v_halfGap_limbs v_unit_size v_unit_limbs_a n y1 y2 v_rest_size v_rest_limbs_a v_halfGap_size v_halfGap_limbs_a = some u → W p l e (headSpec ws_Sho_nextDigit rm_Sho_nextDigit).room s m [.ref h_v].toArray below meth c H locs 0 0 Qq (F0 m 24 ls []) := by
    intro n
    induction n with
    | zero =>
      intro y1 y2 v_rest_size v_rest_limbs_a v_halfGap_size v_halfGap_limbs_a ls H locs hl hP hD hS hf
      exact zz_no hf
    | succ n ih =>
      intro y1 y2 v_rest_size v_rest_limbs_a v_halfGap_size v_halfGap_limbs_a ls H locs hl hP hD hS hf
      rw [f_Sho_nextDigit_24_s] at hf
      refine lv_iload_n hx hb d_Sho_nextDigit_24 rfl (lv_at hl 2 rfl) ?_
      refine lv_bipush (v := 10) hx hb d_Sho_nextDigit_25 (by decide) ?_
      refine lv_icmp_ge (tgt := 64) hx hb d_Sho_nextDigit_27 (by decide) (fun hc => ?_) (fun hc => ?_)
      · have hf := zz_ifp hc hf
        refine lv_iload_n hx hb d_Sho_nextDigit_64 rfl (lv_at hl 1 rfl) ?_
        cases hf
        exact hend 65 ls _ _ d_Sho_nextDigit_65 hP hD hS
      · have hf := zz_ifn hc hf
        refine lv_aload_n hx hb d_Sho_nextDigit_30 rfl (lv_at hl 0 rfl) ?_
        refine va_get (D := (dC, dI)) (ci := 5) (v := .ref h_v_rest) (C := R_Sho) (T := T_Sho) (N := 8) hx hb hw in_Sho hown hK hP 0 rfl rfl 0 (by decide) (hw _ wd_125) (fun _ h9 => h9) rfl d_Sho_nextDigit_31 ?_
        refine lv_aload_n hx hb d_Sho_nextDigit_34 rfl (lv_at hl 0 rfl) ?_
        refine va_get (D := (dC, dI)) (ci := 5) (v := .ref h_v_unit) (C := R_Sho) (T := T_Sho) (N := 8) hx hb hw in_Sho hown hK hP 0 rfl rfl 1 (by decide) (hw _ wd_126) (fun _ h9 => h9) rfl d_Sho_nextDigit_35 ?_
        obtain ⟨u_3, hu_3, hf⟩ := zz_bd hf
        refine zz_ci (ws' := [(h_v, .inr (5, [.ref h_v_rest, .ref h_v_unit, .ref h_v_halfGap, .ref h_v_sum, .int v_isNarrowBelow, .int v_isEven, .long v_number, .int v_power])), (h_v_rest, .inr (0, [.ref h_v_rest_limbs, .int v_rest_size])), (h_v_rest_limbs, .inl (cI, n_v_rest_limbs, .inl v_rest_limbs_a)), (h_v_unit, .inr (0, [.ref h_v_unit_limbs, .int v_unit_size])), (h_v_unit_limbs, .inl (cI, n_v_unit_limbs, .inl v_unit_limbs_a)), (h_v_halfGap, .inr (0, [.ref h_v_halfGap_limbs, .int v_halfGap_size])), (h_v_halfGap_limbs, .inl (cI, n_v_halfGap_limbs, .inl v_halfGap_limbs_a))]) (wc := [(h_v_rest, .inr (0, [.ref h_v_rest_limbs, .int v_rest_size])), (h_v_rest_limbs, .inl (cI, n_v_rest_limbs, .inl v_rest_limbs_a)), (h_v_unit, .inr (0, [.ref h_v_unit_limbs, .int v_unit_size])), (h_v_unit_limbs, .inl (cI, n_v_unit_limbs, .inl v_unit_limbs_a))]) (w' := [(h_v_rest, .inr (0, [.ref h_v_rest_limbs, .int v_rest_size])), (h_v_rest_limbs, .inl (cI, n_v_rest_limbs, .inl v_rest_limbs_a)), (h_v_unit, .inr (0, [.ref h_v_unit_limbs, .int v_unit_size])), (h_v_unit_limbs, .inl (cI, n_v_unit_limbs, .inl v_unit_limbs_a))]) hP hD hS hA [1, 2, 3, 4] [0, 5, 6] [0, 3, 4, 5, 6, 1, 2] rfl rfl (by decide) (by decide) rfl (by decide) (va_runV (As := [.ref h_v_unit]) (rest := []) ⟨hx, hb, hml, hown, hw⟩ (c_Big_compare l dC dI cI cC cB cJ fu _ h_v_rest h_v_rest_limbs h_v_unit h_v_unit_limbs n_v_rest_limbs n_v_unit_limbs v_rest_size v_rest_limbs_a v_unit_size v_unit_limbs_a u_3 hu_3) (cwV 1 hw (zg_V wd_371 wd_372 wd_373 wd_5 wd_374) rfl rfl rfl hd_Big_compare ⟨Nat.le_of_ble_eq_true rfl, Nat.le_of_ble_eq_true rfl⟩) (zz_preV zz_TE (va_recv (q0 := 1) (ci := 0) hK hP rfl rfl) hP hD hK hS hA trivial [1, 2, 3, 4] rfl (by decide)) rfl rfl hl.1 rfl (lv_room (Nat.le_of_ble_eq_true rfl)) d_Sho_nextDigit_38 ⟨Nat.zero_le _, Nat.zero_le _⟩) (fun H locs hP hD hS => ?_)
        refine lv_if_lt (tgt := 64) hx hb d_Sho_nextDigit_41 (by decide) (fun hc => ?_) (fun hc => ?_)
        · have hf := zz_ifp hc hf
          refine lv_iload_n hx hb d_Sho_nextDigit_64 rfl (lv_at hl 1 rfl) ?_
          cases hf
          exact hend 65 ls _ _ d_Sho_nextDigit_65 hP hD hS
        · have hf := zz_ifn hc hf
          refine lv_aload_n hx hb d_Sho_nextDigit_44 rfl (lv_at hl 0 rfl) ?_
          refine va_get (D := (dC, dI)) (ci := 5) (v := .ref h_v_rest) (C := R_Sho) (T := T_Sho) (N := 8) hx hb hw in_Sho hown hK hP 0 rfl rfl 0 (by decide) (hw _ wd_125) (fun _ h9 => h9) rfl d_Sho_nextDigit_45 ?_
          refine lv_aload_n hx hb d_Sho_nextDigit_48 rfl (lv_at hl 0 rfl) ?_
          refine va_get (D := (dC, dI)) (ci := 5) (v := .ref h_v_unit) (C := R_Sho) (T := T_Sho) (N := 8) hx hb hw in_Sho hown hK hP 0 rfl rfl 1 (by decide) (hw _ wd_126) (fun _ h9 => h9) rfl d_Sho_nextDigit_49 ?_
          obtain ⟨u_4, hu_4, hf⟩ := zz_bd hf
          refine zz_cv (ws' := [(h_v, .inr (5, [.ref h_v_rest, .ref h_v_unit, .ref h_v_halfGap, .ref h_v_sum, .int v_isNarrowBelow, .int v_isEven, .long v_number, .int v_power])), (h_v_rest, .inr (0, [.ref h_v_rest_limbs, .int u_4.1])), (h_v_rest_limbs, .inl (cI, n_v_rest_limbs, .inl u_4.2)), (h_v_unit, .inr (0, [.ref h_v_unit_limbs, .int v_unit_size])), (h_v_unit_limbs, .inl (cI, n_v_unit_limbs, .inl v_unit_limbs_a)), (h_v_halfGap, .inr (0, [.ref h_v_halfGap_limbs, .int v_halfGap_size])), (h_v_halfGap_limbs, .inl (cI, n_v_halfGap_limbs, .inl v_halfGap_limbs_a))]) (wc := [(h_v_rest, .inr (0, [.ref h_v_rest_limbs, .int v_rest_size])), (h_v_rest_limbs, .inl (cI, n_v_rest_limbs, .inl v_rest_limbs_a)), (h_v_unit, .inr (0, [.ref h_v_unit_limbs, .int v_unit_size])), (h_v_unit_limbs, .inl (cI, n_v_unit_limbs, .inl v_unit_limbs_a))]) (w' := [(h_v_rest, .inr (0, [.ref h_v_rest_limbs, .int u_4.1])), (h_v_rest_limbs, .inl (cI, n_v_rest_limbs, .inl u_4.2)), (h_v_unit, .inr (0, [.ref h_v_unit_limbs, .int v_unit_size])), (h_v_unit_limbs, .inl (cI, n_v_unit_limbs, .inl v_unit_limbs_a))]) hP hD hS hA [1, 2, 3, 4] [0, 5, 6] [0, 3, 4, 5, 6, 1, 2] rfl rfl (by decide) (by decide) rfl (by decide) (va_runV (As := [.ref h_v_unit]) (rest := []) ⟨hx, hb, hml, hown, hw⟩ (c_Big_subtract l dC dI cI cC cB cJ fu _ h_v_rest h_v_rest_limbs h_v_unit h_v_unit_limbs n_v_rest_limbs n_v_unit_limbs v_rest_size v_rest_limbs_a v_unit_size v_unit_limbs_a u_4 hu_4) (cwV 1 hw (zg_V wd_381 wd_382 wd_383 wd_5 wd_384) rfl rfl rfl hd_Big_subtract ⟨Nat.le_of_ble_eq_true rfl, Nat.le_of_ble_eq_true rfl⟩) (zz_preV zz_TE (va_recv (q0 := 1) (ci := 0) hK hP rfl rfl) hP hD hK hS hA trivial [1, 2, 3, 4] rfl (by decide)) rfl rfl hl.1 rfl (lv_room (Nat.le_of_ble_eq_true rfl)) d_Sho_nextDigit_52 ⟨Nat.zero_le _, Nat.zero_le _⟩) (fun H locs hP hD hS => ?_)
          refine lv_iinc (k := 1) (v := y1 + 1) hx hb d_Sho_nextDigit_55 hl rfl rfl (by decide) rfl (fun ls hl => ?_)
          have hl : lv_has ls 3 [(1, .int (y1 + 1)), (0, .ref h_v), (2, .int y2)] := hl
          refine lv_iinc (k := 2) (v := y2 + 1) hx hb d_Sho_nextDigit_58 hl rfl rfl (by decide) rfl (fun ls hl => ?_)
          have hl : lv_has ls 3 [(2, .int (y2 + 1)), (1, .int (y1 + 1)), (0, .ref h_v)] := hl
          refine lv_goto (tgt := 24) hx hb d_Sho_nextDigit_61 (by decide) ?_
          exact ih (y1 + 1) (y2 + 1) u_4.1 u_4.2 v_halfGap_size v_halfGap_limbs_a ls _ _ (lv_sub hl [2, 1, 0] rfl) hP hD hS hf
  unfold f_Sho_nextDigit at hf
  refine lv_aload_n hx hb d_Sho_nextDigit_0 rfl (lv_at hl 0 rfl) ?_
  refine va_get (D := (dC, dI)) (ci := 5) (v := .ref h_v_rest) (C := R_Sho) (T := T_Sho) (N := 8) hx hb hw in_Sho hown hK hP 0 rfl rfl 0 (by decide) (hw _ wd_125) (fun _ h9 => h9) rfl d_Sho_nextDigit_1 ?_
  refine lv_bipush (v := 10) hx hb d_Sho_nextDigit_4 (by decide) ?_
  refine lv_iconst (v := 0) hx hb d_Sho_nextDigit_6 (by decide) ?_
  obtain ⟨u_1, hu_1, hf⟩ := zz_bd hf
  refine zz_cv (ws' := [(h_v, .inr (5, [.ref h_v_rest, .ref h_v_unit, .ref h_v_halfGap, .ref h_v_sum, .int v_isNarrowBelow, .int v_isEven, .long v_number, .int v_power])), (h_v_rest, .inr (0, [.ref h_v_rest_limbs, .int u_1.1])), (h_v_rest_limbs, .inl (cI, n_v_rest_limbs, .inl u_1.2)), (h_v_unit, .inr (0, [.ref h_v_unit_limbs, .int v_unit_size])), (h_v_unit_limbs, .inl (cI, n_v_unit_limbs, .inl v_unit_limbs_a)), (h_v_halfGap, .inr (0, [.ref h_v_halfGap_limbs, .int v_halfGap_size])), (h_v_halfGap_limbs, .inl (cI, n_v_halfGap_limbs, .inl v_halfGap_limbs_a))]) (wc := [(h_v_rest, .inr (0, [.ref h_v_rest_limbs, .int v_rest_size])), (h_v_rest_limbs, .inl (cI, n_v_rest_limbs, .inl v_rest_limbs_a))]) (w' := [(h_v_rest, .inr (0, [.ref h_v_rest_limbs, .int u_1.1])), (h_v_rest_limbs, .inl (cI, n_v_rest_limbs, .inl u_1.2))]) hP hD hS hA [1, 2] [0, 3, 4, 5, 6] [0, 5, 6, 1, 2, 3, 4] rfl rfl (by decide) (by decide) rfl (by decide) (va_runV (As := [.int 10, .int 0]) (rest := []) ⟨hx, hb, hml, hown, hw⟩ (c_Big_multiplyAndAdd l dC dI cI cC cB cJ fu _ h_v_rest h_v_rest_limbs n_v_rest_limbs 10 0 v_rest_size v_rest_limbs_a u_1 hu_1) (cwV 2 hw (zg_V wd_375 wd_367 wd_368 wd_5 wd_369) rfl rfl rfl hd_Big_multiplyAndAdd ⟨Nat.le_of_ble_eq_true rfl, Nat.le_of_ble_eq_true rfl⟩) (zz_preV zz_TE (va_recv (q0 := 1) (ci := 0) hK hP rfl rfl) hP hD hK hS hA trivial [1, 2] rfl (by decide)) rfl rfl hl.1 rfl (lv_room (Nat.le_of_ble_eq_true rfl)) d_Sho_nextDigit_7 ⟨Nat.zero_le _, Nat.zero_le _⟩) (fun H locs hP hD hS => ?_)
  refine lv_aload_n hx hb d_Sho_nextDigit_10 rfl (lv_at hl 0 rfl) ?_
  refine va_get (D := (dC, dI)) (ci := 5) (v := .ref h_v_halfGap) (C := R_Sho) (T := T_Sho) (N := 8) hx hb hw in_Sho hown hK hP 0 rfl rfl 2 (by decide) (hw _ wd_127) (fun _ h9 => h9) rfl d_Sho_nextDigit_11 ?_
  refine lv_bipush (v := 10) hx hb d_Sho_nextDigit_14 (by decide) ?_
  refine lv_iconst (v := 0) hx hb d_Sho_nextDigit_16 (by decide) ?_
  obtain ⟨u_2, hu_2, hf⟩ := zz_bd hf
  refine zz_cv (ws' := [(h_v, .inr (5, [.ref h_v_rest, .ref h_v_unit, .ref h_v_halfGap, .ref h_v_sum, .int v_isNarrowBelow, .int v_isEven, .long v_number, .int v_power])), (h_v_rest, .inr (0, [.ref h_v_rest_limbs, .int u_1.1])), (h_v_rest_limbs, .inl (cI, n_v_rest_limbs, .inl u_1.2)), (h_v_unit, .inr (0, [.ref h_v_unit_limbs, .int v_unit_size])), (h_v_unit_limbs, .inl (cI, n_v_unit_limbs, .inl v_unit_limbs_a)), (h_v_halfGap, .inr (0, [.ref h_v_halfGap_limbs, .int u_2.1])), (h_v_halfGap_limbs, .inl (cI, n_v_halfGap_limbs, .inl u_2.2))]) (wc := [(h_v_halfGap, .inr (0, [.ref h_v_halfGap_limbs, .int v_halfGap_size])), (h_v_halfGap_limbs, .inl (cI, n_v_halfGap_limbs, .inl v_halfGap_limbs_a))]) (w' := [(h_v_halfGap, .inr (0, [.ref h_v_halfGap_limbs, .int u_2.1])), (h_v_halfGap_limbs, .inl (cI, n_v_halfGap_limbs, .inl u_2.2))]) hP hD hS hA [5, 6] [0, 1, 2, 3, 4] [0, 1, 2, 3, 4, 5, 6] rfl rfl (by decide) (by decide) rfl (by decide) (va_runV (As := [.int 10, .int 0]) (rest := []) ⟨hx, hb, hml, hown, hw⟩ (c_Big_multiplyAndAdd l dC dI cI cC cB cJ fu _ h_v_halfGap h_v_halfGap_limbs n_v_halfGap_limbs 10 0 v_halfGap_size v_halfGap_limbs_a u_2 hu_2) (cwV 2 hw (zg_V wd_375 wd_367 wd_368 wd_5 wd_369) rfl rfl rfl hd_Big_multiplyAndAdd ⟨Nat.le_of_ble_eq_true rfl, Nat.le_of_ble_eq_true rfl⟩) (zz_preV zz_TE (va_recv (q0 := 5) (ci := 0) hK hP rfl rfl) hP hD hK hS hA trivial [5, 6] rfl (by decide)) rfl rfl hl.1 rfl (lv_room (Nat.le_of_ble_eq_true rfl)) d_Sho_nextDigit_17 ⟨Nat.zero_le _, Nat.zero_le _⟩) (fun H locs hP hD hS => ?_)
  refine lv_iconst (v := 0) hx hb d_Sho_nextDigit_20 (by decide) ?_
  refine lv_istore_n hx hb d_Sho_nextDigit_21 rfl hl (by decide) rfl (fun ls hl => ?_)
  have hl : lv_has ls 3 [(1, .int 0), (0, .ref h_v)] := hl
  refine lv_iconst (v := 1) hx hb d_Sho_nextDigit_22 (by decide) ?_
  refine lv_istore_n hx hb d_Sho_nextDigit_23 rfl hl (by decide) rfl (fun ls hl => ?_)
  have hl : lv_has ls 3 [(2, .int 1), (1, .int 0), (0, .ref h_v)] := hl
  exact hL_24 fu 0 1 u_1.1 u_1.2 u_2.1 u_2.2 ls _ _ (lv_sub hl [2, 1, 0] rfl) hP hD hS hf
abbrev ws_Sho_start : List Cond := .code y_Sho_start prog_8_method_3_code 5 none :: zw
abbrev rm_Sho_start : Room := { frames := 4, cells := 0, slots := 0, locals := 90 }
theorem hd_Sho_start : y_Sho_start.cls = "RealText$Shortest" ∧ y_Sho_start.cls ≠ "java/lang/invoke/MethodHandle" ∧ y_Sho_start.cls ≠ "java/lang/invoke/VarHandle" ∧ (parseMethodDescriptor y_Sho_start.desc).map (fun d => d.parameters.length) = some 2 := by decide +kernel
theorem d_Sho_start_0 : decode prog_8_method_3_code 0 = .ok (.aload_n 0, 1) := by decide +kernel
theorem d_Sho_start_1 : decode prog_8_method_3_code 1 = .ok (.getfield 14, 3) := by decide +kernel
theorem d_Sho_start_4 : decode prog_8_method_3_code 4 = .ok (.lload_n 1, 1) := by decide +kernel
theorem d_Sho_start_5 : decode prog_8_method_3_code 5 = .ok (.invokevirtual 75, 3) := by decide +kernel
theorem d_Sho_start_8 : decode prog_8_method_3_code 8 = .ok (.aload_n 0, 1) := by decide +kernel
theorem d_Sho_start_9 : decode prog_8_method_3_code 9 = .ok (.getfield 14, 3) := by decide +kernel
theorem d_Sho_start_12 : decode prog_8_method_3_code 12 = .ok (.iconst 2, 1) := by decide +kernel
theorem d_Sho_start_13 : decode prog_8_method_3_code 13 = .ok (.invokevirtual 79, 3) := by decide +kernel
theorem d_Sho_start_16 : decode prog_8_method_3_code 16 = .ok (.aload_n 0, 1) := by decide +kernel
theorem d_Sho_start_17 : decode prog_8_method_3_code 17 = .ok (.getfield 18, 3) := by decide +kernel
theorem d_Sho_start_20 : decode prog_8_method_3_code 20 = .ok (.ldc2_w 82, 3) := by decide +kernel
theorem d_Sho_start_23 : decode prog_8_method_3_code 23 = .ok (.invokevirtual 75, 3) := by decide +kernel
theorem d_Sho_start_26 : decode prog_8_method_3_code 26 = .ok (.aload_n 0, 1) := by decide +kernel
theorem d_Sho_start_27 : decode prog_8_method_3_code 27 = .ok (.getfield 21, 3) := by decide +kernel
theorem d_Sho_start_30 : decode prog_8_method_3_code 30 = .ok (.aload_n 0, 1) := by decide +kernel
theorem d_Sho_start_31 : decode prog_8_method_3_code 31 = .ok (.getfield 37, 3) := by decide +kernel
theorem d_Sho_start_34 : decode prog_8_method_3_code 34 = .ok (.ifCond .eq 7, 3) := by decide +kernel
theorem d_Sho_start_37 : decode prog_8_method_3_code 37 = .ok (.lconst 1, 1) := by decide +kernel
theorem d_Sho_start_38 : decode prog_8_method_3_code 38 = .ok (.goto 6, 3) := by decide +kernel
theorem d_Sho_start_41 : decode prog_8_method_3_code 41 = .ok (.ldc2_w 84, 3) := by decide +kernel
theorem d_Sho_start_44 : decode prog_8_method_3_code 44 = .ok (.invokevirtual 75, 3) := by decide +kernel
theorem d_Sho_start_47 : decode prog_8_method_3_code 47 = .ok (.aload_n 0, 1) := by decide +kernel
theorem d_Sho_start_48 : decode prog_8_method_3_code 48 = .ok (.aload_n 0, 1) := by decide +kernel
theorem d_Sho_start_49 : decode prog_8_method_3_code 49 = .ok (.getfield 14, 3) := by decide +kernel
theorem d_Sho_start_52 : decode prog_8_method_3_code 52 = .ok (.invokevirtual 86, 3) := by decide +kernel
theorem d_Sho_start_55 : decode prog_8_method_3_code 55 = .ok (.iconst 3, 1) := by decide +kernel
theorem d_Sho_start_56 : decode prog_8_method_3_code 56 = .ok (.isub, 1) := by decide +kernel
theorem d_Sho_start_57 : decode prog_8_method_3_code 57 = .ok (.iload_n 3, 1) := by decide +kernel
theorem d_Sho_start_58 : decode prog_8_method_3_code 58 = .ok (.iadd, 1) := by decide +kernel
theorem d_Sho_start_59 : decode prog_8_method_3_code 59 = .ok (.sipush 30103, 3) := by decide +kernel
theorem d_Sho_start_62 : decode prog_8_method_3_code 62 = .ok (.imul, 1) := by decide +kernel
theorem d_Sho_start_63 : decode prog_8_method_3_code 63 = .ok (.ldc 89, 2) := by decide +kernel
theorem d_Sho_start_65 : decode prog_8_method_3_code 65 = .ok (.invokestatic 90, 3) := by decide +kernel
theorem d_Sho_start_68 : decode prog_8_method_3_code 68 = .ok (.putfield 61, 3) := by decide +kernel
theorem d_Sho_start_71 : decode prog_8_method_3_code 71 = .ok (.aload_n 0, 1) := by decide +kernel
theorem d_Sho_start_72 : decode prog_8_method_3_code 72 = .ok (.getfield 14, 3) := by decide +kernel
theorem d_Sho_start_75 : decode prog_8_method_3_code 75 = .ok (.iload_n 3, 1) := by decide +kernel
theorem d_Sho_start_76 : decode prog_8_method_3_code 76 = .ok (.invokevirtual 79, 3) := by decide +kernel
theorem d_Sho_start_79 : decode prog_8_method_3_code 79 = .ok (.aload_n 0, 1) := by decide +kernel
theorem d_Sho_start_80 : decode prog_8_method_3_code 80 = .ok (.getfield 21, 3) := by decide +kernel
theorem d_Sho_start_83 : decode prog_8_method_3_code 83 = .ok (.iload_n 3, 1) := by decide +kernel
theorem d_Sho_start_84 : decode prog_8_method_3_code 84 = .ok (.invokevirtual 79, 3) := by decide +kernel
theorem d_Sho_start_87 : decode prog_8_method_3_code 87 = .ok (.aload_n 0, 1) := by decide +kernel
theorem d_Sho_start_88 : decode prog_8_method_3_code 88 = .ok (.getfield 18, 3) := by decide +kernel
theorem d_Sho_start_91 : decode prog_8_method_3_code 91 = .ok (.iload_n 3, 1) := by decide +kernel
theorem d_Sho_start_92 : decode prog_8_method_3_code 92 = .ok (.ineg, 1) := by decide +kernel
theorem d_Sho_start_93 : decode prog_8_method_3_code 93 = .ok (.invokevirtual 79, 3) := by decide +kernel
theorem d_Sho_start_96 : decode prog_8_method_3_code 96 = .ok (.aload_n 0, 1) := by decide +kernel
theorem d_Sho_start_97 : decode prog_8_method_3_code 97 = .ok (.getfield 18, 3) := by decide +kernel
theorem d_Sho_start_100 : decode prog_8_method_3_code 100 = .ok (.aload_n 0, 1) := by decide +kernel
theorem d_Sho_start_101 : decode prog_8_method_3_code 101 = .ok (.getfield 61, 3) := by decide +kernel
theorem d_Sho_start_104 : decode prog_8_method_3_code 104 = .ok (.invokevirtual 96, 3) := by decide +kernel
theorem d_Sho_start_107 : decode prog_8_method_3_code 107 = .ok (.aload_n 0, 1) := by decide +kernel
theorem d_Sho_start_108 : decode prog_8_method_3_code 108 = .ok (.getfield 14, 3) := by decide +kernel
theorem d_Sho_start_111 : decode prog_8_method_3_code 111 = .ok (.aload_n 0, 1) := by decide +kernel
theorem d_Sho_start_112 : decode prog_8_method_3_code 112 = .ok (.getfield 61, 3) := by decide +kernel
theorem d_Sho_start_115 : decode prog_8_method_3_code 115 = .ok (.ineg, 1) := by decide +kernel
theorem d_Sho_start_116 : decode prog_8_method_3_code 116 = .ok (.invokevirtual 96, 3) := by decide +kernel
theorem d_Sho_start_119 : decode prog_8_method_3_code 119 = .ok (.aload_n 0, 1) := by decide +kernel
theorem d_Sho_start_120 : decode prog_8_method_3_code 120 = .ok (.getfield 21, 3) := by decide +kernel
theorem d_Sho_start_123 : decode prog_8_method_3_code 123 = .ok (.aload_n 0, 1) := by decide +kernel
theorem d_Sho_start_124 : decode prog_8_method_3_code 124 = .ok (.getfield 61, 3) := by decide +kernel
theorem d_Sho_start_127 : decode prog_8_method_3_code 127 = .ok (.ineg, 1) := by decide +kernel
theorem d_Sho_start_128 : decode prog_8_method_3_code 128 = .ok (.invokevirtual 96, 3) := by decide +kernel
theorem d_Sho_start_131 : decode prog_8_method_3_code 131 = .ok (.iconst 0, 1) := by decide +kernel
theorem d_Sho_start_132 : decode prog_8_method_3_code 132 = .ok (.istore 4, 2) := by decide +kernel
theorem d_Sho_start_134 : decode prog_8_method_3_code 134 = .ok (.iload 4, 2) := by decide +kernel
theorem d_Sho_start_136 : decode prog_8_method_3_code 136 = .ok (.iconst 3, 1) := by decide +kernel
theorem d_Sho_start_137 : decode prog_8_method_3_code 137 = .ok (.if_icmp .ge 43, 3) := by decide +kernel
theorem d_Sho_start_140 : decode prog_8_method_3_code 140 = .ok (.aload_n 0, 1) := by decide +kernel
theorem d_Sho_start_141 : decode prog_8_method_3_code 141 = .ok (.getfield 14, 3) := by decide +kernel
theorem d_Sho_start_144 : decode prog_8_method_3_code 144 = .ok (.aload_n 0, 1) := by decide +kernel
theorem d_Sho_start_145 : decode prog_8_method_3_code 145 = .ok (.getfield 18, 3) := by decide +kernel
theorem d_Sho_start_148 : decode prog_8_method_3_code 148 = .ok (.invokevirtual 99, 3) := by decide +kernel
theorem d_Sho_start_151 : decode prog_8_method_3_code 151 = .ok (.ifCond .lt 29, 3) := by decide +kernel
theorem d_Sho_start_154 : decode prog_8_method_3_code 154 = .ok (.aload_n 0, 1) := by decide +kernel
theorem d_Sho_start_155 : decode prog_8_method_3_code 155 = .ok (.getfield 18, 3) := by decide +kernel
theorem d_Sho_start_158 : decode prog_8_method_3_code 158 = .ok (.bipush 10, 2) := by decide +kernel
theorem d_Sho_start_160 : decode prog_8_method_3_code 160 = .ok (.iconst 0, 1) := by decide +kernel
theorem d_Sho_start_161 : decode prog_8_method_3_code 161 = .ok (.invokevirtual 103, 3) := by decide +kernel
theorem d_Sho_start_164 : decode prog_8_method_3_code 164 = .ok (.aload_n 0, 1) := by decide +kernel
theorem d_Sho_start_165 : decode prog_8_method_3_code 165 = .ok (.dup, 1) := by decide +kernel
theorem d_Sho_start_166 : decode prog_8_method_3_code 166 = .ok (.getfield 61, 3) := by decide +kernel
theorem d_Sho_start_169 : decode prog_8_method_3_code 169 = .ok (.iconst 1, 1) := by decide +kernel
theorem d_Sho_start_170 : decode prog_8_method_3_code 170 = .ok (.iadd, 1) := by decide +kernel
theorem d_Sho_start_171 : decode prog_8_method_3_code 171 = .ok (.putfield 61, 3) := by decide +kernel
theorem d_Sho_start_174 : decode prog_8_method_3_code 174 = .ok (.iinc 4 1, 3) := by decide +kernel
theorem d_Sho_start_177 : decode prog_8_method_3_code 177 = .ok (.goto (-43), 3) := by decide +kernel
theorem d_Sho_start_180 : decode prog_8_method_3_code 180 = .ok (.return_, 1) := by decide +kernel
def f_Sho_start_134 (fu : Nat) (n_v_rest_limbs : Nat) (n_v_unit_limbs : Nat) (n_v_halfGap_limbs : Nat) (x1 : Int64) (x3 : Int32) (v_isNarrowBelow : Int32)  : Nat → Int32 → Int32 → Int32 → (Nat → Int32) → Int32 → (Nat → Int32) → Int32 → (Nat → Int32) → Option (Int32 × Int32 × (Nat → Int32) × Int32 × (Nat → Int32) × Int32 × (Nat → Int32))
  | 0, _, _, _, _, _, _, _, _ => none
  | n + 1, y4, v_power, v_rest_size, v_rest_limbs_a, v_unit_size, v_unit_limbs_a, v_halfGap_size, v_halfGap_limbs_a =>
  (if 3 ≤ y4 then
  some (v_power, v_rest_size, v_rest_limbs_a, v_unit_size, v_unit_limbs_a, v_halfGap_size, v_halfGap_limbs_a)
  else
  (f_Big_compare fu n_v_rest_limbs n_v_unit_limbs v_rest_size v_rest_limbs_a v_unit_size v_unit_limbs_a).bind fun u_13 =>
  (if u_13 < 0 then
  some (v_power, v_rest_size, v_rest_limbs_a, v_unit_size, v_unit_limbs_a, v_halfGap_size, v_halfGap_limbs_a)
  else
  (f_Big_multiplyAndAdd fu n_v_unit_limbs 10 0 v_unit_size v_unit_limbs_a).bind fun u_14 =>
  f_Sho_start_134 fu n_v_rest_limbs n_v_unit_limbs n_v_halfGap_limbs x1 x3 v_isNarrowBelow n (y4 + 1) (v_power + 1) v_rest_size v_rest_limbs_a u_14.1 u_14.2 v_halfGap_size v_halfGap_limbs_a))
theorem f_Sho_start_134_s (fu : Nat) (n_v_rest_limbs : Nat) (n_v_unit_limbs : Nat) (n_v_halfGap_limbs : Nat) (x1 : Int64) (x3 : Int32) (v_isNarrowBelow : Int32)  (n : Nat) (y4 : Int32) (v_power : Int32) (v_rest_size : Int32) (v_rest_limbs_a : Nat → Int32) (v_unit_size : Int32) (v_unit_limbs_a : Nat → Int32) (v_halfGap_size : Int32) (v_halfGap_limbs_a : Nat → Int32) : f_Sho_start_134 fu n_v_rest_limbs n_v_unit_limbs n_v_halfGap_limbs x1 x3 v_isNarrowBelow (n + 1) y4 v_power v_rest_size v_rest_limbs_a v_unit_size v_unit_limbs_a v_halfGap_size v_halfGap_limbs_a =
  (if 3 ≤ y4 then
  some (v_power, v_rest_size, v_rest_limbs_a, v_unit_size, v_unit_limbs_a, v_halfGap_size, v_halfGap_limbs_a)
  else
  (f_Big_compare fu n_v_rest_limbs n_v_unit_limbs v_rest_size v_rest_limbs_a v_unit_size v_unit_limbs_a).bind fun u_13 =>
  (if u_13 < 0 then
  some (v_power, v_rest_size, v_rest_limbs_a, v_unit_size, v_unit_limbs_a, v_halfGap_size, v_halfGap_limbs_a)
  else
  (f_Big_multiplyAndAdd fu n_v_unit_limbs 10 0 v_unit_size v_unit_limbs_a).bind fun u_14 =>
  f_Sho_start_134 fu n_v_rest_limbs n_v_unit_limbs n_v_halfGap_limbs x1 x3 v_isNarrowBelow n (y4 + 1) (v_power + 1) v_rest_size v_rest_limbs_a u_14.1 u_14.2 v_halfGap_size v_halfGap_limbs_a)) := rfl
def f_Sho_start_44 (fu : Nat) (n_v_rest_limbs : Nat) (n_v_unit_limbs : Nat) (n_v_halfGap_limbs : Nat) (x1 : Int64) (x3 : Int32) (v_isNarrowBelow : Int32)  (k1 : Int64) (v_power : Int32) (v_rest_size : Int32) (v_rest_limbs_a : Nat → Int32) (v_unit_size : Int32) (v_unit_limbs_a : Nat → Int32) (v_halfGap_size : Int32) (v_halfGap_limbs_a : Nat → Int32) : Option (Int32 × Int32 × (Nat → Int32) × Int32 × (Nat → Int32) × Int32 × (Nat → Int32)) :=
  (f_Big_set fu n_v_halfGap_limbs k1 v_halfGap_size v_halfGap_limbs_a).bind fun u_4 =>
  (f_Big_bitLength fu n_v_rest_limbs v_rest_size v_rest_limbs_a).bind fun u_5 =>
  (f_Mat_floorDiv (((u_5 - 3) + x3) * 30103) 100000).bind fun u_6 =>
  (f_Big_shiftLeft fu n_v_rest_limbs x3 v_rest_size v_rest_limbs_a).bind fun u_7 =>
  (f_Big_shiftLeft fu n_v_halfGap_limbs x3 u_4.1 u_4.2).bind fun u_8 =>
  (f_Big_shiftLeft fu n_v_unit_limbs (-x3) v_unit_size v_unit_limbs_a).bind fun u_9 =>
  (f_Big_multiplyByTens fu n_v_unit_limbs u_6 u_9.1 u_9.2).bind fun u_10 =>
  (f_Big_multiplyByTens fu n_v_rest_limbs (-u_6) u_7.1 u_7.2).bind fun u_11 =>
  (f_Big_multiplyByTens fu n_v_halfGap_limbs (-u_6) u_8.1 u_8.2).bind fun u_12 =>
  f_Sho_start_134 fu n_v_rest_limbs n_v_unit_limbs n_v_halfGap_limbs x1 x3 v_isNarrowBelow fu 0 u_6 u_11.1 u_11.2 u_10.1 u_10.2 u_12.1 u_12.2
def f_Sho_start (fu : Nat) (n_v_rest_limbs : Nat) (n_v_unit_limbs : Nat) (n_v_halfGap_limbs : Nat) (x1 : Int64) (x3 : Int32) (v_isNarrowBelow : Int32) (v_power : Int32) (v_rest_size : Int32) (v_rest_limbs_a : Nat → Int32) (v_unit_size : Int32) (v_unit_limbs_a : Nat → Int32) (v_halfGap_size : Int32) (v_halfGap_limbs_a : Nat → Int32) : Option (Int32 × Int32 × (Nat → Int32) × Int32 × (Nat → Int32) × Int32 × (Nat → Int32)) :=
  (f_Big_set fu n_v_rest_limbs x1 v_rest_size v_rest_limbs_a).bind fun u_1 =>
  (f_Big_shiftLeft fu n_v_rest_limbs 2 u_1.1 u_1.2).bind fun u_2 =>
  (f_Big_set fu n_v_unit_limbs 4 v_unit_size v_unit_limbs_a).bind fun u_3 =>
  (if v_isNarrowBelow = 0 then
  f_Sho_start_44 fu n_v_rest_limbs n_v_unit_limbs n_v_halfGap_limbs x1 x3 v_isNarrowBelow 2 v_power u_2.1 u_2.2 u_3.1 u_3.2 v_halfGap_size v_halfGap_limbs_a
  else
  f_Sho_start_44 fu n_v_rest_limbs n_v_unit_limbs n_v_halfGap_limbs x1 x3 v_isNarrowBelow 1 v_power u_2.1 u_2.2 u_3.1 u_3.2 v_halfGap_size v_halfGap_limbs_a)
set_option maxHeartbeats 4000000 in
set_option maxRecDepth 100000 in
theorem c_Sho_start (l : Launch) (dC : Nat → ClassId) (dI : Nat → Nat → Nat) (cI cC cB cJ : ClassId) (adF : Nat → Nat) (tp : Nat) (adK adV : Nat → Nat) (fu : Nat) (sz : Nat) (h_v : Nat) (h_v_rest : Nat) (h_v_rest_limbs : Nat) (h_v_unit : Nat) (h_v_unit_limbs : Nat) (h_v_halfGap : Nat) (h_v_halfGap_limbs : Nat) (h_v_sum : Nat) (n_v_rest_limbs : Nat) (n_v_unit_limbs : Nat) (n_v_halfGap_limbs : Nat) (x1 : Int64) (x3 : Int32) (v_isNarrowBelow : Int32) (v_isEven : Int32) (v_number : Int64) (v_power : Int32) (v_rest_size : Int32) (v_rest_limbs_a : Nat → Int32) (v_unit_size : Int32) (v_unit_limbs_a : Nat → Int32) (v_halfGap_size : Int32) (v_halfGap_limbs_a : Nat → Int32) (u : Int32 × Int32 × (Nat → Int32) × Int32 × (Nat → Int32) × Int32 × (Nat → Int32)) (hf : f_Sho_start fu n_v_rest_limbs n_v_unit_limbs n_v_halfGap_limbs x1 x3 v_isNarrowBelow v_power v_rest_size v_rest_limbs_a v_unit_size v_unit_limbs_a v_halfGap_size v_halfGap_limbs_a = some u) : Met l y_Sho_start ws_Sho_start rm_Sho_start (zz_P (zx_E adF tp adK adV) (dC, dI) vwCl (zz_tys cI cC cB cJ) [.ref h_v, .long x1, .int x3] [(h_v, .inr (5, [.ref h_v_rest, .ref h_v_unit, .ref h_v_halfGap, .ref h_v_sum, .int v_isNarrowBelow, .int v_isEven, .long v_number, .int v_power])), (h_v_rest, .inr (0, [.ref h_v_rest_limbs, .int v_rest_size])), (h_v_rest_limbs, .inl (cI, n_v_rest_limbs, .inl v_rest_limbs_a)), (h_v_unit, .inr (0, [.ref h_v_unit_limbs, .int v_unit_size])), (h_v_unit_limbs, .inl (cI, n_v_unit_limbs, .inl v_unit_limbs_a)), (h_v_halfGap, .inr (0, [.ref h_v_halfGap_limbs, .int v_halfGap_size])), (h_v_halfGap_limbs, .inl (cI, n_v_halfGap_limbs, .inl v_halfGap_limbs_a))] sz) (zz_Qv (dC, dI) vwCl [(h_v, .inr (5, [.ref h_v_rest, .ref h_v_unit, .ref h_v_halfGap, .ref h_v_sum, .int v_isNarrowBelow, .int v_isEven, .long v_number, .int u.1])), (h_v_rest, .inr (0, [.ref h_v_rest_limbs, .int u.2.1])), (h_v_rest_limbs, .inl (cI, n_v_rest_limbs, .inl u.2.2.1)), (h_v_unit, .inr (0, [.ref h_v_unit_limbs, .int u.2.2.2.1])), (h_v_unit_limbs, .inl (cI, n_v_unit_limbs, .inl u.2.2.2.2.1)), (h_v_halfGap, .inr (0, [.ref h_v_halfGap_limbs, .int u.2.2.2.2.2.1])), (h_v_halfGap_limbs, .inl (cI, n_v_halfGap_limbs, .inl u.2.2.2.2.2.2))] (va_A [(h_v, .inr (5, [.ref h_v_rest, .ref h_v_unit, .ref h_v_halfGap, .ref h_v_sum, .int v_isNarrowBelow, .int v_isEven, .long v_number, .int v_power])), (h_v_rest, .inr (0, [.ref h_v_rest_limbs, .int v_rest_size])), (h_v_rest_limbs, .inl (cI, n_v_rest_limbs, .inl v_rest_limbs_a)), (h_v_unit, .inr (0, [.ref h_v_unit_limbs, .int v_unit_size])), (h_v_unit_limbs, .inl (cI, n_v_unit_limbs, .inl v_unit_limbs_a)), (h_v_halfGap, .inr (0, [.ref h_v_halfGap_limbs, .int v_halfGap_size])), (h_v_halfGap_limbs, .inl (cI, n_v_halfGap_limbs, .inl v_halfGap_limbs_a))] sz)) 0 0 (va_A [(h_v, .inr (5, [.ref h_v_rest, .ref h_v_unit, .ref h_v_halfGap, .ref h_v_sum, .int v_isNarrowBelow, .int v_isEven, .long v_number, .int v_power])), (h_v_rest, .inr (0, [.ref h_v_rest_limbs, .int v_rest_size])), (h_v_rest_limbs, .inl (cI, n_v_rest_limbs, .inl v_rest_limbs_a)), (h_v_unit, .inr (0, [.ref h_v_unit_limbs, .int v_unit_size])), (h_v_unit_limbs, .inl (cI, n_v_unit_limbs, .inl v_unit_limbs_a)), (h_v_halfGap, .inr (0, [.ref h_v_halfGap_limbs, .int v_halfGap_size])), (h_v_halfGap_limbs, .inl (cI, n_v_halfGap_limbs, .inl v_halfGap_limbs_a))] sz) := by
  refine Met.ofW (cc := prog_8_method_3_code) (maxL := 5) (ret := none) (by decide +kernel) rfl ?_
  intro p e s m args below meth c s₁ B hml hv
  obtain ⟨rfl, hsz, hP, hK, hD0, hX⟩ := hv
  have hx := B.exec
  have hb := B.bytes
  have hr := B.returns
  have hts := atoms_spec (ws := ws_Sho_start) B.pre
  have hw : ∀ w ∈ zw, w.before [.ref h_v, .long x1, .int x3].toArray s = true := fun w h => hts w (List.mem_cons_of_mem _ h)
  have hown : s.vm.findClass R_Sho = some m.cls := findClass_of_methodNamed B.named
  have hlocks := B.notSynchronized
  subst hsz
  have hD := hD0.self (sz := s.heap.size)
  generalize hAe : va_A [(h_v, .inr (5, [.ref h_v_rest, .ref h_v_unit, .ref h_v_halfGap, .ref h_v_sum, .int v_isNarrowBelow, .int v_isEven, .long v_number, .int v_power])), (h_v_rest, .inr (0, [.ref h_v_rest_limbs, .int v_rest_size])), (h_v_rest_limbs, .inl (cI, n_v_rest_limbs, .inl v_rest_limbs_a)), (h_v_unit, .inr (0, [.ref h_v_unit_limbs, .int v_unit_size])), (h_v_unit_limbs, .inl (cI, n_v_unit_limbs, .inl v_unit_limbs_a)), (h_v_halfGap, .inr (0, [.ref h_v_halfGap_limbs, .int v_halfGap_size])), (h_v_halfGap_limbs, .inl (cI, n_v_halfGap_limbs, .inl v_halfGap_limbs_a))] s.heap.size = A at hD hX ⊢
  have hA : ∀ q : Nat, s.heap.size ≤ q → A q := fun q h => by rw [← hAe]; exact Or.inr h
  have hS : va_S A s.heap s.heap [] := va_S.rf
  have hl := lv_entry [.ref h_v, .long x1, .int x3] (n := 5) (Nat.le_of_ble_eq_true rfl)
  rw [lg_entry_eq]
  generalize (lg_sl [.ref h_v, .long x1, .int x3] ++ List.replicate (5 - (lg_sl [.ref h_v, .long x1, .int x3]).length) Slot.unset).toArray = ls at hl ⊢
  have hl : lv_has ls 5 [(0, .ref h_v), (1, .long x1), (3, .int x3)] := hl
  refine zz_endv hx hb hr hlocks (fun Qq hend => ?_)
  have hL_134 : ∀ (n : Nat), ∀ (y4 : Int32) (v_power : Int32) (v_rest_size : Int32) (v_rest_limbs_a : Nat → Int32) (v_unit_size : Int32) (v_unit_limbs_a : Nat → Int32) (v_halfGap_size : Int32) (v_halfGap_limbs_a : Nat → Int32) (ls : Array Slot) (H : Heap) (locs : List Loc), lv_has ls 5 [(0, .ref h_v), (4, .int y4)] → va_P (dC, dI) vwCl [(h_v, .inr (5, [.ref h_v_rest, .ref h_v_unit, .ref h_v_halfGap, .ref h_v_sum, .int v_isNarrowBelow, .int v_isEven, .long v_number, .int v_power])), (h_v_rest, .inr (0, [.ref h_v_rest_limbs, .int v_rest_size])), (h_v_rest_limbs, .inl (cI, n_v_rest_limbs, .inl v_rest_limbs_a)), (h_v_unit, .inr (0, [.ref h_v_unit_limbs, .int v_unit_size])), (h_v_unit_limbs, .inl (cI, n_v_unit_limbs, .inl v_unit_limbs_a)), (h_v_halfGap, .inr (0, [.ref h_v_halfGap_limbs, .int v_halfGap_size])), (h_v_halfGap_limbs, .inl (cI, n_v_halfGap_limbs, .inl v_halfGap_limbs_a))] H → va_D A [(h_v, .inr (5, [.ref h_v_rest, .ref h_v_unit, .ref h_v_halfGap, .ref h_v_sum, .int v_isNarrowBelow, .int v_isEven, .long v_number, .int v_power])), (h_v_rest, .inr (0, [.ref h_v_rest_limbs, .int v_rest_size])), (h_v_rest_limbs, .inl (cI, n_v_rest_limbs, .inl v_rest_limbs_a)), (h_v_unit, .inr (0, [.ref h_v_unit_limbs, .int v_unit_size])), (h_v_unit_limbs, .inl (cI, n_v_unit_limbs, .inl v_unit_limbs_a)), (h_v_halfGap, .inr (0, [.ref h_v_halfGap_limbs, .int v_halfGap_size])), (h_v_halfGap_limbs, .inl (cI, n_v_halfGap_limbs, .inl v_halfGap_limbs_a))] → va_S A s.heap H locs → f_Sho_start_134 fu n_v_rest_limbs n_v_unit_limbs n_v_halfGap_limbs x1 x3 v_isNarrowBelow n y4 v_power v_rest_size v_rest_limbs_a v_unit_size v_unit_limbs_a v_halfGap_size v_halfGap_limbs_a = some u → W p l e (headSpec ws_Sho_start rm_Sho_start).room s m [.ref h_v, .long x1, .int x3].toArray below meth c H locs 0 0 Qq (F0 m 134 ls []) := by
    intro n
    induction n with
    | zero =>
      intro y4 v_power v_rest_size v_rest_limbs_a v_unit_size v_unit_limbs_a v_halfGap_size v_halfGap_limbs_a ls H locs hl hP hD hS hf
      exact zz_no hf
    | succ n ih =>
      intro y4 v_power v_rest_size v_rest_limbs_a v_unit_size v_unit_limbs_a v_halfGap_size v_halfGap_limbs_a ls H locs hl hP hD hS hf
      rw [f_Sho_start_134_s] at hf
      refine lv_iload hx hb d_Sho_start_134 (lv_at hl 1 rfl) ?_
      refine lv_iconst (v := 3) hx hb d_Sho_start_136 (by decide) ?_
      refine lv_icmp_ge (tgt := 180) hx hb d_Sho_start_137 (by decide) (fun hc => ?_) (fun hc => ?_)
      · have hf := zz_ifp hc hf
        cases hf
        exact hend 180 ls _ _ d_Sho_start_180 hP hD hS
      · have hf := zz_ifn hc hf
        refine lv_aload_n hx hb d_Sho_start_140 rfl (lv_at hl 0 rfl) ?_
        refine va_get (D := (dC, dI)) (ci := 5) (v := .ref h_v_rest) (C := R_Sho) (T := T_Sho) (N := 8) hx hb hw in_Sho hown hK hP 0 rfl rfl 0 (by decide) (hw _ wd_125) (fun _ h9 => h9) rfl d_Sho_start_141 ?_
        refine lv_aload_n hx hb d_Sho_start_144 rfl (lv_at hl 0 rfl) ?_
        refine va_get (D := (dC, dI)) (ci := 5) (v := .ref h_v_unit) (C := R_Sho) (T := T_Sho) (N := 8) hx hb hw in_Sho hown hK hP 0 rfl rfl 1 (by decide) (hw _ wd_126) (fun _ h9 => h9) rfl d_Sho_start_145 ?_
        obtain ⟨u_13, hu_13, hf⟩ := zz_bd hf
        refine zz_ci (ws' := [(h_v, .inr (5, [.ref h_v_rest, .ref h_v_unit, .ref h_v_halfGap, .ref h_v_sum, .int v_isNarrowBelow, .int v_isEven, .long v_number, .int v_power])), (h_v_rest, .inr (0, [.ref h_v_rest_limbs, .int v_rest_size])), (h_v_rest_limbs, .inl (cI, n_v_rest_limbs, .inl v_rest_limbs_a)), (h_v_unit, .inr (0, [.ref h_v_unit_limbs, .int v_unit_size])), (h_v_unit_limbs, .inl (cI, n_v_unit_limbs, .inl v_unit_limbs_a)), (h_v_halfGap, .inr (0, [.ref h_v_halfGap_limbs, .int v_halfGap_size])), (h_v_halfGap_limbs, .inl (cI, n_v_halfGap_limbs, .inl v_halfGap_limbs_a))]) (wc := [(h_v_rest, .inr (0, [.ref h_v_rest_limbs, .int v_rest_size])), (h_v_rest_limbs, .inl (cI, n_v_rest_limbs, .inl v_rest_limbs_a)), (h_v_unit, .inr (0, [.ref h_v_unit_limbs, .int v_unit_size])), (h_v_unit_limbs, .inl (cI, n_v_unit_limbs, .inl v_unit_limbs_a))]) (w' := [(h_v_rest, .inr (0, [.ref h_v_rest_limbs, .int v_rest_size])), (h_v_rest_limbs, .inl (cI, n_v_rest_limbs, .inl v_rest_limbs_a)), (h_v_unit, .inr (0, [.ref h_v_unit_limbs, .int v_unit_size])), (h_v_unit_limbs, .inl (cI, n_v_unit_limbs, .inl v_unit_limbs_a))]) hP hD hS hA [1, 2, 3, 4] [0, 5, 6] [0, 3, 4, 5, 6, 1, 2] rfl rfl (by decide) (by decide) rfl (by decide) (va_runV (As := [.ref h_v_unit]) (rest := []) ⟨hx, hb, hml, hown, hw⟩ (c_Big_compare l dC dI cI cC cB cJ fu _ h_v_rest h_v_rest_limbs h_v_unit h_v_unit_limbs n_v_rest_limbs n_v_unit_limbs v_rest_size v_rest_limbs_a v_unit_size v_unit_limbs_a u_13 hu_13) (cwV 1 hw (zg_V wd_371 wd_372 wd_373 wd_5 wd_374) rfl rfl rfl hd_Big_compare ⟨Nat.le_of_ble_eq_true rfl, Nat.le_of_ble_eq_true rfl⟩) (zz_preV zz_TE (va_recv (q0 := 1) (ci := 0) hK hP rfl rfl) hP hD hK hS hA trivial [1, 2, 3, 4] rfl (by decide)) rfl rfl hl.1 rfl (lv_room (Nat.le_of_ble_eq_true rfl)) d_Sho_start_148 ⟨Nat.zero_le _, Nat.zero_le _⟩) (fun H locs hP hD hS => ?_)
        refine lv_if_lt (tgt := 180) hx hb d_Sho_start_151 (by decide) (fun hc => ?_) (fun hc => ?_)
        · have hf := zz_ifp hc hf
          cases hf
          exact hend 180 ls _ _ d_Sho_start_180 hP hD hS
        · have hf := zz_ifn hc hf
          refine lv_aload_n hx hb d_Sho_start_154 rfl (lv_at hl 0 rfl) ?_
          refine va_get (D := (dC, dI)) (ci := 5) (v := .ref h_v_unit) (C := R_Sho) (T := T_Sho) (N := 8) hx hb hw in_Sho hown hK hP 0 rfl rfl 1 (by decide) (hw _ wd_126) (fun _ h9 => h9) rfl d_Sho_start_155 ?_
          refine lv_bipush (v := 10) hx hb d_Sho_start_158 (by decide) ?_
          refine lv_iconst (v := 0) hx hb d_Sho_start_160 (by decide) ?_
          obtain ⟨u_14, hu_14, hf⟩ := zz_bd hf
          refine zz_cv (ws' := [(h_v, .inr (5, [.ref h_v_rest, .ref h_v_unit, .ref h_v_halfGap, .ref h_v_sum, .int v_isNarrowBelow, .int v_isEven, .long v_number, .int v_power])), (h_v_rest, .inr (0, [.ref h_v_rest_limbs, .int v_rest_size])), (h_v_rest_limbs, .inl (cI, n_v_rest_limbs, .inl v_rest_limbs_a)), (h_v_unit, .inr (0, [.ref h_v_unit_limbs, .int u_14.1])), (h_v_unit_limbs, .inl (cI, n_v_unit_limbs, .inl u_14.2)), (h_v_halfGap, .inr (0, [.ref h_v_halfGap_limbs, .int v_halfGap_size])), (h_v_halfGap_limbs, .inl (cI, n_v_halfGap_limbs, .inl v_halfGap_limbs_a))]) (wc := [(h_v_unit, .inr (0, [.ref h_v_unit_limbs, .int v_unit_size])), (h_v_unit_limbs, .inl (cI, n_v_unit_limbs, .inl v_unit_limbs_a))]) (w' := [(h_v_unit, .inr (0, [.ref h_v_unit_limbs, .int u_14.1])), (h_v_unit_limbs, .inl (cI, n_v_unit_limbs, .inl u_14.2))]) hP hD hS hA [3, 4] [0, 1, 2, 5, 6] [0, 1, 2, 5, 6, 3, 4] rfl rfl (by decide) (by decide) rfl (by decide) (va_runV (As := [.int 10, .int 0]) (rest := []) ⟨hx, hb, hml, hown, hw⟩ (c_Big_multiplyAndAdd l dC dI cI cC cB cJ fu _ h_v_unit h_v_unit_limbs n_v_unit_limbs 10 0 v_unit_size v_unit_limbs_a u_14 hu_14) (cwV 2 hw (zg_V wd_375 wd_367 wd_368 wd_5 wd_369) rfl rfl rfl hd_Big_multiplyAndAdd ⟨Nat.le_of_ble_eq_true rfl, Nat.le_of_ble_eq_true rfl⟩) (zz_preV zz_TE (va_recv (q0 := 3) (ci := 0) hK hP rfl rfl) hP hD hK hS hA trivial [3, 4] rfl (by decide)) rfl rfl hl.1 rfl (lv_room (Nat.le_of_ble_eq_true rfl)) d_Sho_start_161 ⟨Nat.zero_le _, Nat.zero_le _⟩) (fun H locs hP hD hS => ?_)
          refine lv_aload_n hx hb d_Sho_start_164 rfl (lv_at hl 0 rfl) ?_
          refine lv_dup hx hb d_Sho_start_165 rfl ?_
          refine va_get (D := (dC, dI)) (ci := 5) (v := .int v_power) (C := R_Sho) (T := T_Sho) (N := 8) hx hb hw in_Sho hown hK hP 0 rfl rfl 7 (by decide) (hw _ wd_133) (fun _ h9 => h9) rfl d_Sho_start_166 ?_
          refine lv_iconst (v := 1) hx hb d_Sho_start_169 (by decide) ?_
          refine lv_iadd hx hb d_Sho_start_170 ?_
          refine va_put (D := (dC, dI)) (ci := 5) (v := .int (v_power + 1)) (ty := .int) (C := R_Sho) (T := T_Sho) (N := 8) hx hb hw in_Sho ty_Sho tyok_Sho nm_Sho hown hK hP hD hS 0 rfl rfl 7 (by decide) (hw _ wd_133) (fun _ h9 => h9) rfl (tyok_Sho 7 (by decide)) rfl rfl (Nat.le_of_ble_eq_true rfl) d_Sho_start_171 (fun H locs hP hD hS => ?_)
          have hP : va_P (dC, dI) vwCl [(h_v, .inr (5, [.ref h_v_rest, .ref h_v_unit, .ref h_v_halfGap, .ref h_v_sum, .int v_isNarrowBelow, .int v_isEven, .long v_number, .int (v_power + 1)])), (h_v_rest, .inr (0, [.ref h_v_rest_limbs, .int v_rest_size])), (h_v_rest_limbs, .inl (cI, n_v_rest_limbs, .inl v_rest_limbs_a)), (h_v_unit, .inr (0, [.ref h_v_unit_limbs, .int u_14.1])), (h_v_unit_limbs, .inl (cI, n_v_unit_limbs, .inl u_14.2)), (h_v_halfGap, .inr (0, [.ref h_v_halfGap_limbs, .int v_halfGap_size])), (h_v_halfGap_limbs, .inl (cI, n_v_halfGap_limbs, .inl v_halfGap_limbs_a))] H := hP
          have hD : va_D A [(h_v, .inr (5, [.ref h_v_rest, .ref h_v_unit, .ref h_v_halfGap, .ref h_v_sum, .int v_isNarrowBelow, .int v_isEven, .long v_number, .int (v_power + 1)])), (h_v_rest, .inr (0, [.ref h_v_rest_limbs, .int v_rest_size])), (h_v_rest_limbs, .inl (cI, n_v_rest_limbs, .inl v_rest_limbs_a)), (h_v_unit, .inr (0, [.ref h_v_unit_limbs, .int u_14.1])), (h_v_unit_limbs, .inl (cI, n_v_unit_limbs, .inl u_14.2)), (h_v_halfGap, .inr (0, [.ref h_v_halfGap_limbs, .int v_halfGap_size])), (h_v_halfGap_limbs, .inl (cI, n_v_halfGap_limbs, .inl v_halfGap_limbs_a))] := hD
          refine lv_iinc (k := 1) (v := y4 + 1) hx hb d_Sho_start_174 hl rfl rfl (by decide) rfl (fun ls hl => ?_)
          have hl : lv_has ls 5 [(4, .int (y4 + 1)), (0, .ref h_v)] := hl
          refine lv_goto (tgt := 134) hx hb d_Sho_start_177 (by decide) ?_
          exact ih (y4 + 1) (v_power + 1) v_rest_size v_rest_limbs_a u_14.1 u_14.2 v_halfGap_size v_halfGap_limbs_a ls _ _ (lv_sub hl [1, 0] rfl) hP hD hS hf
  have hL_44 : ∀ (k1 : Int64) (v_power : Int32) (v_rest_size : Int32) (v_rest_limbs_a : Nat → Int32) (v_unit_size : Int32) (v_unit_limbs_a : Nat → Int32) (v_halfGap_size : Int32) (v_halfGap_limbs_a : Nat → Int32) (ls : Array Slot) (H : Heap) (locs : List Loc), lv_has ls 5 [(0, .ref h_v), (3, .int x3)] → va_P (dC, dI) vwCl [(h_v, .inr (5, [.ref h_v_rest, .ref h_v_unit, .ref h_v_halfGap, .ref h_v_sum, .int v_isNarrowBelow, .int v_isEven, .long v_number, .int v_power])), (h_v_rest, .inr (0, [.ref h_v_rest_limbs, .int v_rest_size])), (h_v_rest_limbs, .inl (cI, n_v_rest_limbs, .inl v_rest_limbs_a)), (h_v_unit, .inr (0, [.ref h_v_unit_limbs, .int v_unit_size])), (h_v_unit_limbs, .inl (cI, n_v_unit_limbs, .inl v_unit_limbs_a)), (h_v_halfGap, .inr (0, [.ref h_v_halfGap_limbs, .int v_halfGap_size])), (h_v_halfGap_limbs, .inl (cI, n_v_halfGap_limbs, .inl v_halfGap_limbs_a))] H → va_D A [(h_v, .inr (5, [.ref h_v_rest, .ref h_v_unit, .ref h_v_halfGap, .ref h_v_sum, .int v_isNarrowBelow, .int v_isEven, .long v_number, .int v_power])), (h_v_rest, .inr (0, [.ref h_v_rest_limbs, .int v_rest_size])), (h_v_rest_limbs, .inl (cI, n_v_rest_limbs, .inl v_rest_limbs_a)), (h_v_unit, .inr (0, [.ref h_v_unit_limbs, .int v_unit_size])), (h_v_unit_limbs, .inl (cI, n_v_unit_limbs, .inl v_unit_limbs_a)), (h_v_halfGap, .inr (0, [.ref h_v_halfGap_limbs, .int v_halfGap_size])), (h_v_halfGap_limbs, .inl (cI, n_v_halfGap_limbs, .inl v_halfGap_limbs_a))] → va_S A s.heap H locs → f_Sho_start_44 fu n_v_rest_limbs n_v_unit_limbs n_v_halfGap_limbs x1 x3 v_isNarrowBelow k1 v_power v_rest_size v_rest_limbs_a v_unit_size v_unit_limbs_a v_halfGap_size v_halfGap_limbs_a = some u → W p l e (headSpec ws_Sho_start rm_Sho_start).room s m [.ref h_v, .long x1, .int x3].toArray below meth c H locs 0 0 Qq (F0 m 44 ls [.long k1, .ref h_v_halfGap]) := by
    intro k1 v_power v_rest_size v_rest_limbs_a v_unit_size v_unit_limbs_a v_halfGap_size v_halfGap_limbs_a ls H locs hl hP hD hS hf
    unfold f_Sho_start_44 at hf
    obtain ⟨u_4, hu_4, hf⟩ := zz_bd hf
    refine zz_cv (ws' := [(h_v, .inr (5, [.ref h_v_rest, .ref h_v_unit, .ref h_v_halfGap, .ref h_v_sum, .int v_isNarrowBelow, .int v_isEven, .long v_number, .int v_power])), (h_v_rest, .inr (0, [.ref h_v_rest_limbs, .int v_rest_size])), (h_v_rest_limbs, .inl (cI, n_v_rest_limbs, .inl v_rest_limbs_a)), (h_v_unit, .inr (0, [.ref h_v_unit_limbs, .int v_unit_size])), (h_v_unit_limbs, .inl (cI, n_v_unit_limbs, .inl v_unit_limbs_a)), (h_v_halfGap, .inr (0, [.ref h_v_halfGap_limbs, .int u_4.1])), (h_v_halfGap_limbs, .inl (cI, n_v_halfGap_limbs, .inl u_4.2))]) (wc := [(h_v_halfGap, .inr (0, [.ref h_v_halfGap_limbs, .int v_halfGap_size])), (h_v_halfGap_limbs, .inl (cI, n_v_halfGap_limbs, .inl v_halfGap_limbs_a))]) (w' := [(h_v_halfGap, .inr (0, [.ref h_v_halfGap_limbs, .int u_4.1])), (h_v_halfGap_limbs, .inl (cI, n_v_halfGap_limbs, .inl u_4.2))]) hP hD hS hA [5, 6] [0, 1, 2, 3, 4] [0, 1, 2, 3, 4, 5, 6] rfl rfl (by decide) (by decide) rfl (by decide) (va_runV (As := [.long k1]) (rest := []) ⟨hx, hb, hml, hown, hw⟩ (c_Big_set l dC dI cI cC cB cJ fu _ h_v_halfGap h_v_halfGap_limbs n_v_halfGap_limbs k1 v_halfGap_size v_halfGap_limbs_a u_4 hu_4) (cwV 1 hw (zg_V wd_322 wd_323 wd_324 wd_5 wd_325) rfl rfl rfl hd_Big_set ⟨Nat.le_of_ble_eq_true rfl, Nat.le_of_ble_eq_true rfl⟩) (zz_preV zz_TE (va_recv (q0 := 5) (ci := 0) hK hP rfl rfl) hP hD hK hS hA trivial [5, 6] rfl (by decide)) rfl rfl hl.1 rfl (lv_room (Nat.le_of_ble_eq_true rfl)) d_Sho_start_44 ⟨Nat.zero_le _, Nat.zero_le _⟩) (fun H locs hP hD hS => ?_)
    refine lv_aload_n hx hb d_Sho_start_47 rfl (lv_at hl 0 rfl) ?_
    refine lv_aload_n hx hb d_Sho_start_48 rfl (lv_at hl 0 rfl) ?_
    refine va_get (D := (dC, dI)) (ci := 5) (v := .ref h_v_rest) (C := R_Sho) (T := T_Sho) (N := 8) hx hb hw in_Sho hown hK hP 0 rfl rfl 0 (by decide) (hw _ wd_125) (fun _ h9 => h9) rfl d_Sho_start_49 ?_
    obtain ⟨u_5, hu_5, hf⟩ := zz_bd hf
    refine zz_ci (ws' := [(h_v, .inr (5, [.ref h_v_rest, .ref h_v_unit, .ref h_v_halfGap, .ref h_v_sum, .int v_isNarrowBelow, .int v_isEven, .long v_number, .int v_power])), (h_v_rest, .inr (0, [.ref h_v_rest_limbs, .int v_rest_size])), (h_v_rest_limbs, .inl (cI, n_v_rest_limbs, .inl v_rest_limbs_a)), (h_v_unit, .inr (0, [.ref h_v_unit_limbs, .int v_unit_size])), (h_v_unit_limbs, .inl (cI, n_v_unit_limbs, .inl v_unit_limbs_a)), (h_v_halfGap, .inr (0, [.ref h_v_halfGap_limbs, .int u_4.1])), (h_v_halfGap_limbs, .inl (cI, n_v_halfGap_limbs, .inl u_4.2))]) (wc := [(h_v_rest, .inr (0, [.ref h_v_rest_limbs, .int v_rest_size])), (h_v_rest_limbs, .inl (cI, n_v_rest_limbs, .inl v_rest_limbs_a))]) (w' := [(h_v_rest, .inr (0, [.ref h_v_rest_limbs, .int v_rest_size])), (h_v_rest_limbs, .inl (cI, n_v_rest_limbs, .inl v_rest_limbs_a))]) hP hD hS hA [1, 2] [0, 3, 4, 5, 6] [0, 5, 6, 1, 2, 3, 4] rfl rfl (by decide) (by decide) rfl (by decide) (va_runV (As := []) (rest := [.ref h_v]) ⟨hx, hb, hml, hown, hw⟩ (c_Big_bitLength l dC dI cI cC cB cJ fu _ h_v_rest h_v_rest_limbs n_v_rest_limbs v_rest_size v_rest_limbs_a u_5 hu_5) (cwV 0 hw (zg_V wd_345 wd_346 wd_347 wd_5 wd_348) rfl rfl rfl hd_Big_bitLength ⟨Nat.le_of_ble_eq_true rfl, Nat.le_of_ble_eq_true rfl⟩) (zz_preV zz_TE (va_recv (q0 := 1) (ci := 0) hK hP rfl rfl) hP hD hK hS hA trivial [1, 2] rfl (by decide)) rfl rfl hl.1 rfl (lv_room (Nat.le_of_ble_eq_true rfl)) d_Sho_start_52 ⟨Nat.zero_le _, Nat.zero_le _⟩) (fun H locs hP hD hS => ?_)
    refine lv_iconst (v := 3) hx hb d_Sho_start_55 (by decide) ?_
    refine lv_isub hx hb d_Sho_start_56 ?_
    refine lv_iload_n hx hb d_Sho_start_57 rfl (lv_at hl 1 rfl) ?_
    refine lv_iadd hx hb d_Sho_start_58 ?_
    refine lv_sipush (v := 30103) hx hb d_Sho_start_59 (by decide) ?_
    refine lv_imul hx hb d_Sho_start_62 ?_
    refine lv_ldc (v := 100000) hx hb hown (hw _ wd_349) d_Sho_start_63 ?_
    obtain ⟨u_6, hu_6, hf⟩ := zz_bd hf
    refine zz_ci (ws' := [(h_v, .inr (5, [.ref h_v_rest, .ref h_v_unit, .ref h_v_halfGap, .ref h_v_sum, .int v_isNarrowBelow, .int v_isEven, .long v_number, .int v_power])), (h_v_rest, .inr (0, [.ref h_v_rest_limbs, .int v_rest_size])), (h_v_rest_limbs, .inl (cI, n_v_rest_limbs, .inl v_rest_limbs_a)), (h_v_unit, .inr (0, [.ref h_v_unit_limbs, .int v_unit_size])), (h_v_unit_limbs, .inl (cI, n_v_unit_limbs, .inl v_unit_limbs_a)), (h_v_halfGap, .inr (0, [.ref h_v_halfGap_limbs, .int u_4.1])), (h_v_halfGap_limbs, .inl (cI, n_v_halfGap_limbs, .inl u_4.2))]) (wc := []) (w' := []) hP hD hS hA [] [0, 1, 2, 3, 4, 5, 6] [0, 1, 2, 3, 4, 5, 6] rfl rfl (by decide) (by decide) rfl (by decide) (va_runS (As := [.int (((u_5 - 3) + x3) * 30103), .int 100000]) (rest := [.ref h_v]) ⟨hx, hb, hml, hown, hw⟩ (c_Mat_floorDiv l dC dI cI cC cB cJ _ (((u_5 - 3) + x3) * 30103) 100000 u_6 hu_6) (va_cwS 2 hw (zg_S wd_350 wd_351 wd_16 wd_352) rfl rfl rfl hd_Mat_floorDiv ⟨Nat.le_of_ble_eq_true rfl, Nat.le_of_ble_eq_true rfl⟩) (zz_preS zz_TE hP hD hK hS hA trivial [] rfl (by decide)) rfl rfl hl.1 rfl (lv_room (Nat.le_of_ble_eq_true rfl)) d_Sho_start_65 ⟨Nat.zero_le _, Nat.zero_le _⟩) (fun H locs hP hD hS => ?_)
    refine va_put (D := (dC, dI)) (ci := 5) (v := .int u_6) (ty := .int) (C := R_Sho) (T := T_Sho) (N := 8) hx hb hw in_Sho ty_Sho tyok_Sho nm_Sho hown hK hP hD hS 0 rfl rfl 7 (by decide) (hw _ wd_133) (fun _ h9 => h9) rfl (tyok_Sho 7 (by decide)) rfl rfl (Nat.le_of_ble_eq_true rfl) d_Sho_start_68 (fun H locs hP hD hS => ?_)
    have hP : va_P (dC, dI) vwCl [(h_v, .inr (5, [.ref h_v_rest, .ref h_v_unit, .ref h_v_halfGap, .ref h_v_sum, .int v_isNarrowBelow, .int v_isEven, .long v_number, .int u_6])), (h_v_rest, .inr (0, [.ref h_v_rest_limbs, .int v_rest_size])), (h_v_rest_limbs, .inl (cI, n_v_rest_limbs, .inl v_rest_limbs_a)), (h_v_unit, .inr (0, [.ref h_v_unit_limbs, .int v_unit_size])), (h_v_unit_limbs, .inl (cI, n_v_unit_limbs, .inl v_unit_limbs_a)), (h_v_halfGap, .inr (0, [.ref h_v_halfGap_limbs, .int u_4.1])), (h_v_halfGap_limbs, .inl (cI, n_v_halfGap_limbs, .inl u_4.2))] H := hP
    have hD : va_D A [(h_v, .inr (5, [.ref h_v_rest, .ref h_v_unit, .ref h_v_halfGap, .ref h_v_sum, .int v_isNarrowBelow, .int v_isEven, .long v_number, .int u_6])), (h_v_rest, .inr (0, [.ref h_v_rest_limbs, .int v_rest_size])), (h_v_rest_limbs, .inl (cI, n_v_rest_limbs, .inl v_rest_limbs_a)), (h_v_unit, .inr (0, [.ref h_v_unit_limbs, .int v_unit_size])), (h_v_unit_limbs, .inl (cI, n_v_unit_limbs, .inl v_unit_limbs_a)), (h_v_halfGap, .inr (0, [.ref h_v_halfGap_limbs, .int u_4.1])), (h_v_halfGap_limbs, .inl (cI, n_v_halfGap_limbs, .inl u_4.2))] := hD
    refine lv_aload_n hx hb d_Sho_start_71 rfl (lv_at hl 0 rfl) ?_
    refine va_get (D := (dC, dI)) (ci := 5) (v := .ref h_v_rest) (C := R_Sho) (T := T_Sho) (N := 8) hx hb hw in_Sho hown hK hP 0 rfl rfl 0 (by decide) (hw _ wd_125) (fun _ h9 => h9) rfl d_Sho_start_72 ?_
    refine lv_iload_n hx hb d_Sho_start_75 rfl (lv_at hl 1 rfl) ?_
    obtain ⟨u_7, hu_7, hf⟩ := zz_bd hf
    refine zz_cv (ws' := [(h_v, .inr (5, [.ref h_v_rest, .ref h_v_unit, .ref h_v_halfGap, .ref h_v_sum, .int v_isNarrowBelow, .int v_isEven, .long v_number, .int u_6])), (h_v_rest, .inr (0, [.ref h_v_rest_limbs, .int u_7.1])), (h_v_rest_limbs, .inl (cI, n_v_rest_limbs, .inl u_7.2)), (h_v_unit, .inr (0, [.ref h_v_unit_limbs, .int v_unit_size])), (h_v_unit_limbs, .inl (cI, n_v_unit_limbs, .inl v_unit_limbs_a)), (h_v_halfGap, .inr (0, [.ref h_v_halfGap_limbs, .int u_4.1])), (h_v_halfGap_limbs, .inl (cI, n_v_halfGap_limbs, .inl u_4.2))]) (wc := [(h_v_rest, .inr (0, [.ref h_v_rest_limbs, .int v_rest_size])), (h_v_rest_limbs, .inl (cI, n_v_rest_limbs, .inl v_rest_limbs_a))]) (w' := [(h_v_rest, .inr (0, [.ref h_v_rest_limbs, .int u_7.1])), (h_v_rest_limbs, .inl (cI, n_v_rest_limbs, .inl u_7.2))]) hP hD hS hA [1, 2] [0, 3, 4, 5, 6] [0, 5, 6, 1, 2, 3, 4] rfl rfl (by decide) (by decide) rfl (by decide) (va_runV (As := [.int x3]) (rest := []) ⟨hx, hb, hml, hown, hw⟩ (c_Big_shiftLeft l dC dI cI cC cB cJ fu _ h_v_rest h_v_rest_limbs n_v_rest_limbs x3 v_rest_size v_rest_limbs_a u_7 hu_7) (cwV 1 hw (zg_V wd_335 wd_336 wd_337 wd_5 wd_338) rfl rfl rfl hd_Big_shiftLeft ⟨Nat.le_of_ble_eq_true rfl, Nat.le_of_ble_eq_true rfl⟩) (zz_preV zz_TE (va_recv (q0 := 1) (ci := 0) hK hP rfl rfl) hP hD hK hS hA trivial [1, 2] rfl (by decide)) rfl rfl hl.1 rfl (lv_room (Nat.le_of_ble_eq_true rfl)) d_Sho_start_76 ⟨Nat.zero_le _, Nat.zero_le _⟩) (fun H locs hP hD hS => ?_)
    refine lv_aload_n hx hb d_Sho_start_79 rfl (lv_at hl 0 rfl) ?_
    refine va_get (D := (dC, dI)) (ci := 5) (v := .ref h_v_halfGap) (C := R_Sho) (T := T_Sho) (N := 8) hx hb hw in_Sho hown hK hP 0 rfl rfl 2 (by decide) (hw _ wd_127) (fun _ h9 => h9) rfl d_Sho_start_80 ?_
    refine lv_iload_n hx hb d_Sho_start_83 rfl (lv_at hl 1 rfl) ?_
    obtain ⟨u_8, hu_8, hf⟩ := zz_bd hf
    refine zz_cv (ws' := [(h_v, .inr (5, [.ref h_v_rest, .ref h_v_unit, .ref h_v_halfGap, .ref h_v_sum, .int v_isNarrowBelow, .int v_isEven, .long v_number, .int u_6])), (h_v_rest, .inr (0, [.ref h_v_rest_limbs, .int u_7.1])), (h_v_rest_limbs, .inl (cI, n_v_rest_limbs, .inl u_7.2)), (h_v_unit, .inr (0, [.ref h_v_unit_limbs, .int v_unit_size])), (h_v_unit_limbs, .inl (cI, n_v_unit_limbs, .inl v_unit_limbs_a)), (h_v_halfGap, .inr (0, [.ref h_v_halfGap_limbs, .int u_8.1])), (h_v_halfGap_limbs, .inl (cI, n_v_halfGap_limbs, .inl u_8.2))]) (wc := [(h_v_halfGap, .inr (0, [.ref h_v_halfGap_limbs, .int u_4.1])), (h_v_halfGap_limbs, .inl (cI, n_v_halfGap_limbs, .inl u_4.2))]) (w' := [(h_v_halfGap, .inr (0, [.ref h_v_halfGap_limbs, .int u_8.1])), (h_v_halfGap_limbs, .inl (cI, n_v_halfGap_limbs, .inl u_8.2))]) hP hD hS hA [5, 6] [0, 1, 2, 3, 4] [0, 1, 2, 3, 4, 5, 6] rfl rfl (by decide) (by decide) rfl (by decide) (va_runV (As := [.int x3]) (rest := []) ⟨hx, hb, hml, hown, hw⟩ (c_Big_shiftLeft l dC dI cI cC cB cJ fu _ h_v_halfGap h_v_halfGap_limbs n_v_halfGap_limbs x3 u_4.1 u_4.2 u_8 hu_8) (cwV 1 hw (zg_V wd_335 wd_336 wd_337 wd_5 wd_338) rfl rfl rfl hd_Big_shiftLeft ⟨Nat.le_of_ble_eq_true rfl, Nat.le_of_ble_eq_true rfl⟩) (zz_preV zz_TE (va_recv (q0 := 5) (ci := 0) hK hP rfl rfl) hP hD hK hS hA trivial [5, 6] rfl (by decide)) rfl rfl hl.1 rfl (lv_room (Nat.le_of_ble_eq_true rfl)) d_Sho_start_84 ⟨Nat.zero_le _, Nat.zero_le _⟩) (fun H locs hP hD hS => ?_)
    refine lv_aload_n hx hb d_Sho_start_87 rfl (lv_at hl 0 rfl) ?_
    refine va_get (D := (dC, dI)) (ci := 5) (v := .ref h_v_unit) (C := R_Sho) (T := T_Sho) (N := 8) hx hb hw in_Sho hown hK hP 0 rfl rfl 1 (by decide) (hw _ wd_126) (fun _ h9 => h9) rfl d_Sho_start_88 ?_
    refine lv_iload_n hx hb d_Sho_start_91 rfl (lv_at hl 1 rfl) ?_
    refine lv_ineg hx hb d_Sho_start_92 ?_
    obtain ⟨u_9, hu_9, hf⟩ := zz_bd hf
    refine zz_cv (ws' := [(h_v, .inr (5, [.ref h_v_rest, .ref h_v_unit, .ref h_v_halfGap, .ref h_v_sum, .int v_isNarrowBelow, .int v_isEven, .long v_number, .int u_6])), (h_v_rest, .inr (0, [.ref h_v_rest_limbs, .int u_7.1])), (h_v_rest_limbs, .inl (cI, n_v_rest_limbs, .inl u_7.2)), (h_v_unit, .inr (0, [.ref h_v_unit_limbs, .int u_9.1])), (h_v_unit_limbs, .inl (cI, n_v_unit_limbs, .inl u_9.2)), (h_v_halfGap, .inr (0, [.ref h_v_halfGap_limbs, .int u_8.1])), (h_v_halfGap_limbs, .inl (cI, n_v_halfGap_limbs, .inl u_8.2))]) (wc := [(h_v_unit, .inr (0, [.ref h_v_unit_limbs, .int v_unit_size])), (h_v_unit_limbs, .inl (cI, n_v_unit_limbs, .inl v_unit_limbs_a))]) (w' := [(h_v_unit, .inr (0, [.ref h_v_unit_limbs, .int u_9.1])), (h_v_unit_limbs, .inl (cI, n_v_unit_limbs, .inl u_9.2))]) hP hD hS hA [3, 4] [0, 1, 2, 5, 6] [0, 1, 2, 5, 6, 3, 4] rfl rfl (by decide) (by decide) rfl (by decide) (va_runV (As := [.int (-x3)]) (rest := []) ⟨hx, hb, hml, hown, hw⟩ (c_Big_shiftLeft l dC dI cI cC cB cJ fu _ h_v_unit h_v_unit_limbs n_v_unit_limbs (-x3) v_unit_size v_unit_limbs_a u_9 hu_9) (cwV 1 hw (zg_V wd_335 wd_336 wd_337 wd_5 wd_338) rfl rfl rfl hd_Big_shiftLeft ⟨Nat.le_of_ble_eq_true rfl, Nat.le_of_ble_eq_true rfl⟩) (zz_preV zz_TE (va_recv (q0 := 3) (ci := 0) hK hP rfl rfl) hP hD hK hS hA trivial [3, 4] rfl (by decide)) rfl rfl hl.1 rfl (lv_room (Nat.le_of_ble_eq_true rfl)) d_Sho_start_93 ⟨Nat.zero_le _, Nat.zero_le _⟩) (fun H locs hP hD hS => ?_)
    refine lv_aload_n hx hb d_Sho_start_96 rfl (lv_at hl 0 rfl) ?_
    refine va_get (D := (dC, dI)) (ci := 5) (v := .ref h_v_unit) (C := R_Sho) (T := T_Sho) (N := 8) hx hb hw in_Sho hown hK hP 0 rfl rfl 1 (by decide) (hw _ wd_126) (fun _ h9 => h9) rfl d_Sho_start_97 ?_
    refine lv_aload_n hx hb d_Sho_start_100 rfl (lv_at hl 0 rfl) ?_
    refine va_get (D := (dC, dI)) (ci := 5) (v := .int u_6) (C := R_Sho) (T := T_Sho) (N := 8) hx hb hw in_Sho hown hK hP 0 rfl rfl 7 (by decide) (hw _ wd_133) (fun _ h9 => h9) rfl d_Sho_start_101 ?_
    obtain ⟨u_10, hu_10, hf⟩ := zz_bd hf
    refine zz_cv (ws' := [(h_v, .inr (5, [.ref h_v_rest, .ref h_v_unit, .ref h_v_halfGap, .ref h_v_sum, .int v_isNarrowBelow, .int v_isEven, .long v_number, .int u_6])), (h_v_rest, .inr (0, [.ref h_v_rest_limbs, .int u_7.1])), (h_v_rest_limbs, .inl (cI, n_v_rest_limbs, .inl u_7.2)), (h_v_unit, .inr (0, [.ref h_v_unit_limbs, .int u_10.1])), (h_v_unit_limbs, .inl (cI, n_v_unit_limbs, .inl u_10.2)), (h_v_halfGap, .inr (0, [.ref h_v_halfGap_limbs, .int u_8.1])), (h_v_halfGap_limbs, .inl (cI, n_v_halfGap_limbs, .inl u_8.2))]) (wc := [(h_v_unit, .inr (0, [.ref h_v_unit_limbs, .int u_9.1])), (h_v_unit_limbs, .inl (cI, n_v_unit_limbs, .inl u_9.2))]) (w' := [(h_v_unit, .inr (0, [.ref h_v_unit_limbs, .int u_10.1])), (h_v_unit_limbs, .inl (cI, n_v_unit_limbs, .inl u_10.2))]) hP hD hS hA [3, 4] [0, 1, 2, 5, 6] [0, 1, 2, 5, 6, 3, 4] rfl rfl (by decide) (by decide) rfl (by decide) (va_runV (As := [.int u_6]) (rest := []) ⟨hx, hb, hml, hown, hw⟩ (c_Big_multiplyByTens l dC dI cI cC cB cJ adF tp adK adV fu _ h_v_unit h_v_unit_limbs n_v_unit_limbs u_6 u_9.1 u_9.2 u_10 hu_10) (cwV 1 hw (zg_V wd_353 wd_354 wd_355 wd_5 wd_356) rfl rfl rfl hd_Big_multiplyByTens ⟨Nat.le_of_ble_eq_true rfl, Nat.le_of_ble_eq_true rfl⟩) (zz_preV (zx_ok adF tp adK adV) (va_recv (q0 := 3) (ci := 0) hK hP rfl rfl) hP hD hK hS hA hX [3, 4] rfl (by decide)) rfl rfl hl.1 rfl (lv_room (Nat.le_of_ble_eq_true rfl)) d_Sho_start_104 ⟨Nat.zero_le _, Nat.zero_le _⟩) (fun H locs hP hD hS => ?_)
    refine lv_aload_n hx hb d_Sho_start_107 rfl (lv_at hl 0 rfl) ?_
    refine va_get (D := (dC, dI)) (ci := 5) (v := .ref h_v_rest) (C := R_Sho) (T := T_Sho) (N := 8) hx hb hw in_Sho hown hK hP 0 rfl rfl 0 (by decide) (hw _ wd_125) (fun _ h9 => h9) rfl d_Sho_start_108 ?_
    refine lv_aload_n hx hb d_Sho_start_111 rfl (lv_at hl 0 rfl) ?_
    refine va_get (D := (dC, dI)) (ci := 5) (v := .int u_6) (C := R_Sho) (T := T_Sho) (N := 8) hx hb hw in_Sho hown hK hP 0 rfl rfl 7 (by decide) (hw _ wd_133) (fun _ h9 => h9) rfl d_Sho_start_112 ?_
    refine lv_ineg hx hb d_Sho_start_115 ?_
    obtain ⟨u_11, hu_11, hf⟩ := zz_bd hf
    refine zz_cv (ws' := [(h_v, .inr (5, [.ref h_v_rest, .ref h_v_unit, .ref h_v_halfGap, .ref h_v_sum, .int v_isNarrowBelow, .int v_isEven, .long v_number, .int u_6])), (h_v_rest, .inr (0, [.ref h_v_rest_limbs, .int u_11.1])), (h_v_rest_limbs, .inl (cI, n_v_rest_limbs, .inl u_11.2)), (h_v_unit, .inr (0, [.ref h_v_unit_limbs, .int u_10.1])), (h_v_unit_limbs, .inl (cI, n_v_unit_limbs, .inl u_10.2)), (h_v_halfGap, .inr (0, [.ref h_v_halfGap_limbs, .int u_8.1])), (h_v_halfGap_limbs, .inl (cI, n_v_halfGap_limbs, .inl u_8.2))]) (wc := [(h_v_rest, .inr (0, [.ref h_v_rest_limbs, .int u_7.1])), (h_v_rest_limbs, .inl (cI, n_v_rest_limbs, .inl u_7.2))]) (w' := [(h_v_rest, .inr (0, [.ref h_v_rest_limbs, .int u_11.1])), (h_v_rest_limbs, .inl (cI, n_v_rest_limbs, .inl u_11.2))]) hP hD hS hA [1, 2] [0, 3, 4, 5, 6] [0, 5, 6, 1, 2, 3, 4] rfl rfl (by decide) (by decide) rfl (by decide) (va_runV (As := [.int (-u_6)]) (rest := []) ⟨hx, hb, hml, hown, hw⟩ (c_Big_multiplyByTens l dC dI cI cC cB cJ adF tp adK adV fu _ h_v_rest h_v_rest_limbs n_v_rest_limbs (-u_6) u_7.1 u_7.2 u_11 hu_11) (cwV 1 hw (zg_V wd_353 wd_354 wd_355 wd_5 wd_356) rfl rfl rfl hd_Big_multiplyByTens ⟨Nat.le_of_ble_eq_true rfl, Nat.le_of_ble_eq_true rfl⟩) (zz_preV (zx_ok adF tp adK adV) (va_recv (q0 := 1) (ci := 0) hK hP rfl rfl) hP hD hK hS hA hX [1, 2] rfl (by decide)) rfl rfl hl.1 rfl (lv_room (Nat.le_of_ble_eq_true rfl)) d_Sho_start_116 ⟨Nat.zero_le _, Nat.zero_le _⟩) (fun H locs hP hD hS => ?_)
    refine lv_aload_n hx hb d_Sho_start_119 rfl (lv_at hl 0 rfl) ?_
    refine va_get (D := (dC, dI)) (ci := 5) (v := .ref h_v_halfGap) (C := R_Sho) (T := T_Sho) (N := 8) hx hb hw in_Sho hown hK hP 0 rfl rfl 2 (by decide) (hw _ wd_127) (fun _ h9 => h9) rfl d_Sho_start_120 ?_
    refine lv_aload_n hx hb d_Sho_start_123 rfl (lv_at hl 0 rfl) ?_
    refine va_get (D := (dC, dI)) (ci := 5) (v := .int u_6) (C := R_Sho) (T := T_Sho) (N := 8) hx hb hw in_Sho hown hK hP 0 rfl rfl 7 (by decide) (hw _ wd_133) (fun _ h9 => h9) rfl d_Sho_start_124 ?_
    refine lv_ineg hx hb d_Sho_start_127 ?_
    obtain ⟨u_12, hu_12, hf⟩ := zz_bd hf
    refine zz_cv (ws' := [(h_v, .inr (5, [.ref h_v_rest, .ref h_v_unit, .ref h_v_halfGap, .ref h_v_sum, .int v_isNarrowBelow, .int v_isEven, .long v_number, .int u_6])), (h_v_rest, .inr (0, [.ref h_v_rest_limbs, .int u_11.1])), (h_v_rest_limbs, .inl (cI, n_v_rest_limbs, .inl u_11.2)), (h_v_unit, .inr (0, [.ref h_v_unit_limbs, .int u_10.1])), (h_v_unit_limbs, .inl (cI, n_v_unit_limbs, .inl u_10.2)), (h_v_halfGap, .inr (0, [.ref h_v_halfGap_limbs, .int u_12.1])), (h_v_halfGap_limbs, .inl (cI, n_v_halfGap_limbs, .inl u_12.2))]) (wc := [(h_v_halfGap, .inr (0, [.ref h_v_halfGap_limbs, .int u_8.1])), (h_v_halfGap_limbs, .inl (cI, n_v_halfGap_limbs, .inl u_8.2))]) (w' := [(h_v_halfGap, .inr (0, [.ref h_v_halfGap_limbs, .int u_12.1])), (h_v_halfGap_limbs, .inl (cI, n_v_halfGap_limbs, .inl u_12.2))]) hP hD hS hA [5, 6] [0, 1, 2, 3, 4] [0, 1, 2, 3, 4, 5, 6] rfl rfl (by decide) (by decide) rfl (by decide) (va_runV (As := [.int (-u_6)]) (rest := []) ⟨hx, hb, hml, hown, hw⟩ (c_Big_multiplyByTens l dC dI cI cC cB cJ adF tp adK adV fu _ h_v_halfGap h_v_halfGap_limbs n_v_halfGap_limbs (-u_6) u_8.1 u_8.2 u_12 hu_12) (cwV 1 hw (zg_V wd_353 wd_354 wd_355 wd_5 wd_356) rfl rfl rfl hd_Big_multiplyByTens ⟨Nat.le_of_ble_eq_true rfl, Nat.le_of_ble_eq_true rfl⟩) (zz_preV (zx_ok adF tp adK adV) (va_recv (q0 := 5) (ci := 0) hK hP rfl rfl) hP hD hK hS hA hX [5, 6] rfl (by decide)) rfl rfl hl.1 rfl (lv_room (Nat.le_of_ble_eq_true rfl)) d_Sho_start_128 ⟨Nat.zero_le _, Nat.zero_le _⟩) (fun H locs hP hD hS => ?_)
    refine lv_iconst (v := 0) hx hb d_Sho_start_131 (by decide) ?_
    refine lv_istore hx hb d_Sho_start_132 hl (by decide) rfl (fun ls hl => ?_)
    have hl : lv_has ls 5 [(4, .int 0), (0, .ref h_v), (3, .int x3)] := hl
    exact hL_134 fu 0 u_6 u_11.1 u_11.2 u_10.1 u_10.2 u_12.1 u_12.2 ls _ _ (lv_sub hl [1, 0] rfl) hP hD hS hf
  unfold f_Sho_start at hf
  refine lv_aload_n hx hb d_Sho_start_0 rfl (lv_at hl 0 rfl) ?_
  refine va_get (D := (dC, dI)) (ci := 5) (v := .ref h_v_rest) (C := R_Sho) (T := T_Sho) (N := 8) hx hb hw in_Sho hown hK hP 0 rfl rfl 0 (by decide) (hw _ wd_125) (fun _ h9 => h9) rfl d_Sho_start_1 ?_
  refine lv_lload_n hx hb d_Sho_start_4 rfl (lv_at hl 1 rfl) ?_
  obtain ⟨u_1, hu_1, hf⟩ := zz_bd hf
  refine zz_cv (ws' := [(h_v, .inr (5, [.ref h_v_rest, .ref h_v_unit, .ref h_v_halfGap, .ref h_v_sum, .int v_isNarrowBelow, .int v_isEven, .long v_number, .int v_power])), (h_v_rest, .inr (0, [.ref h_v_rest_limbs, .int u_1.1])), (h_v_rest_limbs, .inl (cI, n_v_rest_limbs, .inl u_1.2)), (h_v_unit, .inr (0, [.ref h_v_unit_limbs, .int v_unit_size])), (h_v_unit_limbs, .inl (cI, n_v_unit_limbs, .inl v_unit_limbs_a)), (h_v_halfGap, .inr (0, [.ref h_v_halfGap_limbs, .int v_halfGap_size])), (h_v_halfGap_limbs, .inl (cI, n_v_halfGap_limbs, .inl v_halfGap_limbs_a))]) (wc := [(h_v_rest, .inr (0, [.ref h_v_rest_limbs, .int v_rest_size])), (h_v_rest_limbs, .inl (cI, n_v_rest_limbs, .inl v_rest_limbs_a))]) (w' := [(h_v_rest, .inr (0, [.ref h_v_rest_limbs, .int u_1.1])), (h_v_rest_limbs, .inl (cI, n_v_rest_limbs, .inl u_1.2))]) hP hD hS hA [1, 2] [0, 3, 4, 5, 6] [0, 5, 6, 1, 2, 3, 4] rfl rfl (by decide) (by decide) rfl (by decide) (va_runV (As := [.long x1]) (rest := []) ⟨hx, hb, hml, hown, hw⟩ (c_Big_set l dC dI cI cC cB cJ fu _ h_v_rest h_v_rest_limbs n_v_rest_limbs x1 v_rest_size v_rest_limbs_a u_1 hu_1) (cwV 1 hw (zg_V wd_322 wd_323 wd_324 wd_5 wd_325) rfl rfl rfl hd_Big_set ⟨Nat.le_of_ble_eq_true rfl, Nat.le_of_ble_eq_true rfl⟩) (zz_preV zz_TE (va_recv (q0 := 1) (ci := 0) hK hP rfl rfl) hP hD hK hS hA trivial [1, 2] rfl (by decide)) rfl rfl hl.1 rfl (lv_room (Nat.le_of_ble_eq_true rfl)) d_Sho_start_5 ⟨Nat.zero_le _, Nat.zero_le _⟩) (fun H locs hP hD hS => ?_)
  refine lv_aload_n hx hb d_Sho_start_8 rfl (lv_at hl 0 rfl) ?_
  refine va_get (D := (dC, dI)) (ci := 5) (v := .ref h_v_rest) (C := R_Sho) (T := T_Sho) (N := 8) hx hb hw in_Sho hown hK hP 0 rfl rfl 0 (by decide) (hw _ wd_125) (fun _ h9 => h9) rfl d_Sho_start_9 ?_
  refine lv_iconst (v := 2) hx hb d_Sho_start_12 (by decide) ?_
  obtain ⟨u_2, hu_2, hf⟩ := zz_bd hf
  refine zz_cv (ws' := [(h_v, .inr (5, [.ref h_v_rest, .ref h_v_unit, .ref h_v_halfGap, .ref h_v_sum, .int v_isNarrowBelow, .int v_isEven, .long v_number, .int v_power])), (h_v_rest, .inr (0, [.ref h_v_rest_limbs, .int u_2.1])), (h_v_rest_limbs, .inl (cI, n_v_rest_limbs, .inl u_2.2)), (h_v_unit, .inr (0, [.ref h_v_unit_limbs, .int v_unit_size])), (h_v_unit_limbs, .inl (cI, n_v_unit_limbs, .inl v_unit_limbs_a)), (h_v_halfGap, .inr (0, [.ref h_v_halfGap_limbs, .int v_halfGap_size])), (h_v_halfGap_limbs, .inl (cI, n_v_halfGap_limbs, .inl v_halfGap_limbs_a))]) (wc := [(h_v_rest, .inr (0, [.ref h_v_rest_limbs, .int u_1.1])), (h_v_rest_limbs, .inl (cI, n_v_rest_limbs, .inl u_1.2))]) (w' := [(h_v_rest, .inr (0, [.ref h_v_rest_limbs, .int u_2.1])), (h_v_rest_limbs, .inl (cI, n_v_rest_limbs, .inl u_2.2))]) hP hD hS hA [1, 2] [0, 3, 4, 5, 6] [0, 5, 6, 1, 2, 3, 4] rfl rfl (by decide) (by decide) rfl (by decide) (va_runV (As := [.int 2]) (rest := []) ⟨hx, hb, hml, hown, hw⟩ (c_Big_shiftLeft l dC dI cI cC cB cJ fu _ h_v_rest h_v_rest_limbs n_v_rest_limbs 2 u_1.1 u_1.2 u_2 hu_2) (cwV 1 hw (zg_V wd_335 wd_336 wd_337 wd_5 wd_338) rfl rfl rfl hd_Big_shiftLeft ⟨Nat.le_of_ble_eq_true rfl, Nat.le_of_ble_eq_true rfl⟩) (zz_preV zz_TE (va_recv (q0 := 1) (ci := 0) hK hP rfl rfl) hP hD hK hS hA trivial [1, 2] rfl (by decide)) rfl rfl hl.1 rfl (lv_room (Nat.le_of_ble_eq_true rfl)) d_Sho_start_13 ⟨Nat.zero_le _, Nat.zero_le _⟩) (fun H locs hP hD hS => ?_)
  refine lv_aload_n hx hb d_Sho_start_16 rfl (lv_at hl 0 rfl) ?_
  refine va_get (D := (dC, dI)) (ci := 5) (v := .ref h_v_unit) (C := R_Sho) (T := T_Sho) (N := 8) hx hb hw in_Sho hown hK hP 0 rfl rfl 1 (by decide) (hw _ wd_126) (fun _ h9 => h9) rfl d_Sho_start_17 ?_
  refine lv_ldc2 (v := 4) hx hb hown (hw _ wd_343) d_Sho_start_20 ?_
  obtain ⟨u_3, hu_3, hf⟩ := zz_bd hf
  refine zz_cv (ws' := [(h_v, .inr (5, [.ref h_v_rest, .ref h_v_unit, .ref h_v_halfGap, .ref h_v_sum, .int v_isNarrowBelow, .int v_isEven, .long v_number, .int v_power])), (h_v_rest, .inr (0, [.ref h_v_rest_limbs, .int u_2.1])), (h_v_rest_limbs, .inl (cI, n_v_rest_limbs, .inl u_2.2)), (h_v_unit, .inr (0, [.ref h_v_unit_limbs, .int u_3.1])), (h_v_unit_limbs, .inl (cI, n_v_unit_limbs, .inl u_3.2)), (h_v_halfGap, .inr (0, [.ref h_v_halfGap_limbs, .int v_halfGap_size])), (h_v_halfGap_limbs, .inl (cI, n_v_halfGap_limbs, .inl v_halfGap_limbs_a))]) (wc := [(h_v_unit, .inr (0, [.ref h_v_unit_limbs, .int v_unit_size])), (h_v_unit_limbs, .inl (cI, n_v_unit_limbs, .inl v_unit_limbs_a))]) (w' := [(h_v_unit, .inr (0, [.ref h_v_unit_limbs, .int u_3.1])), (h_v_unit_limbs, .inl (cI, n_v_unit_limbs, .inl u_3.2))]) hP hD hS hA [3, 4] [0, 1, 2, 5, 6] [0, 1, 2, 5, 6, 3, 4] rfl rfl (by decide) (by decide) rfl (by decide) (va_runV (As := [.long 4]) (rest := []) ⟨hx, hb, hml, hown, hw⟩ (c_Big_set l dC dI cI cC cB cJ fu _ h_v_unit h_v_unit_limbs n_v_unit_limbs 4 v_unit_size v_unit_limbs_a u_3 hu_3) (cwV 1 hw (zg_V wd_322 wd_323 wd_324 wd_5 wd_325) rfl rfl rfl hd_Big_set ⟨Nat.le_of_ble_eq_true rfl, Nat.le_of_ble_eq_true rfl⟩) (zz_preV zz_TE (va_recv (q0 := 3) (ci := 0) hK hP rfl rfl) hP hD hK hS hA trivial [3, 4] rfl (by decide)) rfl rfl hl.1 rfl (lv_room (Nat.le_of_ble_eq_true rfl)) d_Sho_start_23 ⟨Nat.zero_le _, Nat.zero_le _⟩) (fun H locs hP hD hS => ?_)
  refine lv_aload_n hx hb d_Sho_start_26 rfl (lv_at hl 0 rfl) ?_
  refine va_get (D := (dC, dI)) (ci := 5) (v := .ref h_v_halfGap) (C := R_Sho) (T := T_Sho) (N := 8) hx hb hw in_Sho hown hK hP 0 rfl rfl 2 (by decide) (hw _ wd_127) (fun _ h9 => h9) rfl d_Sho_start_27 ?_
  refine lv_aload_n hx hb d_Sho_start_30 rfl (lv_at hl 0 rfl) ?_
  refine va_get (D := (dC, dI)) (ci := 5) (v := .int v_isNarrowBelow) (C := R_Sho) (T := T_Sho) (N := 8) hx hb hw in_Sho hown hK hP 0 rfl rfl 4 (by decide) (hw _ wd_129) (fun _ h9 => h9) rfl d_Sho_start_31 ?_
  refine lv_if_eq (tgt := 41) hx hb d_Sho_start_34 (by decide) (fun hc => ?_) (fun hc => ?_)
  · have hf := zz_ifp hc hf
    refine lv_ldc2 (v := 2) hx hb hown (hw _ wd_344) d_Sho_start_41 ?_
    exact hL_44 2 v_power u_2.1 u_2.2 u_3.1 u_3.2 v_halfGap_size v_halfGap_limbs_a ls _ _ (lv_sub hl [0, 2] rfl) hP hD hS hf
  · have hf := zz_ifn hc hf
    refine lv_lconst (v := 1) hx hb d_Sho_start_37 (by decide) ?_
    refine lv_goto (tgt := 44) hx hb d_Sho_start_38 (by decide) ?_
    exact hL_44 1 v_power u_2.1 u_2.2 u_3.1 u_3.2 v_halfGap_size v_halfGap_limbs_a ls _ _ (lv_sub hl [0, 2] rfl) hP hD hS hf
abbrev ws_Sho_find : List Cond := .code y_Sho_find prog_8_method_2_code 9 none :: zw
abbrev rm_Sho_find : Room := { frames := 5, cells := 0, slots := 0, locals := 242 }
theorem hd_Sho_find : y_Sho_find.cls = "RealText$Shortest" ∧ y_Sho_find.cls ≠ "java/lang/invoke/MethodHandle" ∧ y_Sho_find.cls ≠ "java/lang/invoke/VarHandle" ∧ (parseMethodDescriptor y_Sho_find.desc).map (fun d => d.parameters.length) = some 2 := by decide +kernel
theorem d_Sho_find_0 : decode prog_8_method_2_code 0 = .ok (.aload_n 3, 1) := by decide +kernel
theorem d_Sho_find_1 : decode prog_8_method_2_code 1 = .ok (.lload_n 1, 1) := by decide +kernel
theorem d_Sho_find_2 : decode prog_8_method_2_code 2 = .ok (.invokevirtual 27, 3) := by decide +kernel
theorem d_Sho_find_5 : decode prog_8_method_2_code 5 = .ok (.lstore 4, 2) := by decide +kernel
theorem d_Sho_find_7 : decode prog_8_method_2_code 7 = .ok (.aload_n 0, 1) := by decide +kernel
theorem d_Sho_find_8 : decode prog_8_method_2_code 8 = .ok (.aload_n 3, 1) := by decide +kernel
theorem d_Sho_find_9 : decode prog_8_method_2_code 9 = .ok (.lload_n 1, 1) := by decide +kernel
theorem d_Sho_find_10 : decode prog_8_method_2_code 10 = .ok (.invokevirtual 33, 3) := by decide +kernel
theorem d_Sho_find_13 : decode prog_8_method_2_code 13 = .ok (.putfield 37, 3) := by decide +kernel
theorem d_Sho_find_16 : decode prog_8_method_2_code 16 = .ok (.aload_n 0, 1) := by decide +kernel
theorem d_Sho_find_17 : decode prog_8_method_2_code 17 = .ok (.lload 4, 2) := by decide +kernel
theorem d_Sho_find_19 : decode prog_8_method_2_code 19 = .ok (.lconst 1, 1) := by decide +kernel
theorem d_Sho_find_20 : decode prog_8_method_2_code 20 = .ok (.land, 1) := by decide +kernel
theorem d_Sho_find_21 : decode prog_8_method_2_code 21 = .ok (.lconst 0, 1) := by decide +kernel
theorem d_Sho_find_22 : decode prog_8_method_2_code 22 = .ok (.lcmp, 1) := by decide +kernel
theorem d_Sho_find_23 : decode prog_8_method_2_code 23 = .ok (.ifCond .ne 7, 3) := by decide +kernel
theorem d_Sho_find_26 : decode prog_8_method_2_code 26 = .ok (.iconst 1, 1) := by decide +kernel
theorem d_Sho_find_27 : decode prog_8_method_2_code 27 = .ok (.goto 4, 3) := by decide +kernel
theorem d_Sho_find_30 : decode prog_8_method_2_code 30 = .ok (.iconst 0, 1) := by decide +kernel
theorem d_Sho_find_31 : decode prog_8_method_2_code 31 = .ok (.putfield 40, 3) := by decide +kernel
theorem d_Sho_find_34 : decode prog_8_method_2_code 34 = .ok (.aload_n 0, 1) := by decide +kernel
theorem d_Sho_find_35 : decode prog_8_method_2_code 35 = .ok (.lload 4, 2) := by decide +kernel
theorem d_Sho_find_37 : decode prog_8_method_2_code 37 = .ok (.aload_n 3, 1) := by decide +kernel
theorem d_Sho_find_38 : decode prog_8_method_2_code 38 = .ok (.lload_n 1, 1) := by decide +kernel
theorem d_Sho_find_39 : decode prog_8_method_2_code 39 = .ok (.invokevirtual 43, 3) := by decide +kernel
theorem d_Sho_find_42 : decode prog_8_method_2_code 42 = .ok (.invokevirtual 47, 3) := by decide +kernel
theorem d_Sho_find_45 : decode prog_8_method_2_code 45 = .ok (.aload_n 0, 1) := by decide +kernel
theorem d_Sho_find_46 : decode prog_8_method_2_code 46 = .ok (.lconst 0, 1) := by decide +kernel
theorem d_Sho_find_47 : decode prog_8_method_2_code 47 = .ok (.putfield 51, 3) := by decide +kernel
theorem d_Sho_find_50 : decode prog_8_method_2_code 50 = .ok (.iconst 0, 1) := by decide +kernel
theorem d_Sho_find_51 : decode prog_8_method_2_code 51 = .ok (.istore 6, 2) := by decide +kernel
theorem d_Sho_find_53 : decode prog_8_method_2_code 53 = .ok (.iconst 0, 1) := by decide +kernel
theorem d_Sho_find_54 : decode prog_8_method_2_code 54 = .ok (.istore 7, 2) := by decide +kernel
theorem d_Sho_find_56 : decode prog_8_method_2_code 56 = .ok (.iconst 1, 1) := by decide +kernel
theorem d_Sho_find_57 : decode prog_8_method_2_code 57 = .ok (.istore 8, 2) := by decide +kernel
theorem d_Sho_find_59 : decode prog_8_method_2_code 59 = .ok (.iload 8, 2) := by decide +kernel
theorem d_Sho_find_61 : decode prog_8_method_2_code 61 = .ok (.bipush 17, 2) := by decide +kernel
theorem d_Sho_find_63 : decode prog_8_method_2_code 63 = .ok (.if_icmp .gt 87, 3) := by decide +kernel
theorem d_Sho_find_66 : decode prog_8_method_2_code 66 = .ok (.iload 6, 2) := by decide +kernel
theorem d_Sho_find_68 : decode prog_8_method_2_code 68 = .ok (.ifCond .ne 82, 3) := by decide +kernel
theorem d_Sho_find_71 : decode prog_8_method_2_code 71 = .ok (.iload 7, 2) := by decide +kernel
theorem d_Sho_find_73 : decode prog_8_method_2_code 73 = .ok (.ifCond .ne 77, 3) := by decide +kernel
theorem d_Sho_find_76 : decode prog_8_method_2_code 76 = .ok (.aload_n 0, 1) := by decide +kernel
theorem d_Sho_find_77 : decode prog_8_method_2_code 77 = .ok (.aload_n 0, 1) := by decide +kernel
theorem d_Sho_find_78 : decode prog_8_method_2_code 78 = .ok (.getfield 51, 3) := by decide +kernel
theorem d_Sho_find_81 : decode prog_8_method_2_code 81 = .ok (.ldc2_w 55, 3) := by decide +kernel
theorem d_Sho_find_84 : decode prog_8_method_2_code 84 = .ok (.lmul, 1) := by decide +kernel
theorem d_Sho_find_85 : decode prog_8_method_2_code 85 = .ok (.aload_n 0, 1) := by decide +kernel
theorem d_Sho_find_86 : decode prog_8_method_2_code 86 = .ok (.invokevirtual 57, 3) := by decide +kernel
theorem d_Sho_find_89 : decode prog_8_method_2_code 89 = .ok (.i2l, 1) := by decide +kernel
theorem d_Sho_find_90 : decode prog_8_method_2_code 90 = .ok (.ladd, 1) := by decide +kernel
theorem d_Sho_find_91 : decode prog_8_method_2_code 91 = .ok (.putfield 51, 3) := by decide +kernel
theorem d_Sho_find_94 : decode prog_8_method_2_code 94 = .ok (.aload_n 0, 1) := by decide +kernel
theorem d_Sho_find_95 : decode prog_8_method_2_code 95 = .ok (.dup, 1) := by decide +kernel
theorem d_Sho_find_96 : decode prog_8_method_2_code 96 = .ok (.getfield 61, 3) := by decide +kernel
theorem d_Sho_find_99 : decode prog_8_method_2_code 99 = .ok (.iconst 1, 1) := by decide +kernel
theorem d_Sho_find_100 : decode prog_8_method_2_code 100 = .ok (.isub, 1) := by decide +kernel
theorem d_Sho_find_101 : decode prog_8_method_2_code 101 = .ok (.putfield 61, 3) := by decide +kernel
theorem d_Sho_find_104 : decode prog_8_method_2_code 104 = .ok (.iload 8, 2) := by decide +kernel
theorem d_Sho_find_106 : decode prog_8_method_2_code 106 = .ok (.iconst 2, 1) := by decide +kernel
theorem d_Sho_find_107 : decode prog_8_method_2_code 107 = .ok (.if_icmp .lt 14, 3) := by decide +kernel
theorem d_Sho_find_110 : decode prog_8_method_2_code 110 = .ok (.aload_n 0, 1) := by decide +kernel
theorem d_Sho_find_111 : decode prog_8_method_2_code 111 = .ok (.invokevirtual 65, 3) := by decide +kernel
theorem d_Sho_find_114 : decode prog_8_method_2_code 114 = .ok (.ifCond .eq 7, 3) := by decide +kernel
theorem d_Sho_find_117 : decode prog_8_method_2_code 117 = .ok (.iconst 1, 1) := by decide +kernel
theorem d_Sho_find_118 : decode prog_8_method_2_code 118 = .ok (.goto 4, 3) := by decide +kernel
theorem d_Sho_find_121 : decode prog_8_method_2_code 121 = .ok (.iconst 0, 1) := by decide +kernel
theorem d_Sho_find_122 : decode prog_8_method_2_code 122 = .ok (.istore 6, 2) := by decide +kernel
theorem d_Sho_find_124 : decode prog_8_method_2_code 124 = .ok (.iload 8, 2) := by decide +kernel
theorem d_Sho_find_126 : decode prog_8_method_2_code 126 = .ok (.iconst 2, 1) := by decide +kernel
theorem d_Sho_find_127 : decode prog_8_method_2_code 127 = .ok (.if_icmp .lt 14, 3) := by decide +kernel
theorem d_Sho_find_130 : decode prog_8_method_2_code 130 = .ok (.aload_n 0, 1) := by decide +kernel
theorem d_Sho_find_131 : decode prog_8_method_2_code 131 = .ok (.invokevirtual 69, 3) := by decide +kernel
theorem d_Sho_find_134 : decode prog_8_method_2_code 134 = .ok (.ifCond .eq 7, 3) := by decide +kernel
theorem d_Sho_find_137 : decode prog_8_method_2_code 137 = .ok (.iconst 1, 1) := by decide +kernel
theorem d_Sho_find_138 : decode prog_8_method_2_code 138 = .ok (.goto 4, 3) := by decide +kernel
theorem d_Sho_find_141 : decode prog_8_method_2_code 141 = .ok (.iconst 0, 1) := by decide +kernel
theorem d_Sho_find_142 : decode prog_8_method_2_code 142 = .ok (.istore 7, 2) := by decide +kernel
theorem d_Sho_find_144 : decode prog_8_method_2_code 144 = .ok (.iinc 8 1, 3) := by decide +kernel
theorem d_Sho_find_147 : decode prog_8_method_2_code 147 = .ok (.goto (-88), 3) := by decide +kernel
theorem d_Sho_find_150 : decode prog_8_method_2_code 150 = .ok (.iload 7, 2) := by decide +kernel
theorem d_Sho_find_152 : decode prog_8_method_2_code 152 = .ok (.ifCond .eq 25, 3) := by decide +kernel
theorem d_Sho_find_155 : decode prog_8_method_2_code 155 = .ok (.iload 6, 2) := by decide +kernel
theorem d_Sho_find_157 : decode prog_8_method_2_code 157 = .ok (.ifCond .eq 10, 3) := by decide +kernel
theorem d_Sho_find_160 : decode prog_8_method_2_code 160 = .ok (.aload_n 0, 1) := by decide +kernel
theorem d_Sho_find_161 : decode prog_8_method_2_code 161 = .ok (.invokevirtual 72, 3) := by decide +kernel
theorem d_Sho_find_164 : decode prog_8_method_2_code 164 = .ok (.ifCond .eq 13, 3) := by decide +kernel
theorem d_Sho_find_167 : decode prog_8_method_2_code 167 = .ok (.aload_n 0, 1) := by decide +kernel
theorem d_Sho_find_168 : decode prog_8_method_2_code 168 = .ok (.dup, 1) := by decide +kernel
theorem d_Sho_find_169 : decode prog_8_method_2_code 169 = .ok (.getfield 51, 3) := by decide +kernel
theorem d_Sho_find_172 : decode prog_8_method_2_code 172 = .ok (.lconst 1, 1) := by decide +kernel
theorem d_Sho_find_173 : decode prog_8_method_2_code 173 = .ok (.ladd, 1) := by decide +kernel
theorem d_Sho_find_174 : decode prog_8_method_2_code 174 = .ok (.putfield 51, 3) := by decide +kernel
theorem d_Sho_find_177 : decode prog_8_method_2_code 177 = .ok (.return_, 1) := by decide +kernel
def f_Sho_find_150 (fu : Nat) (n_v_rest_limbs : Nat) (n_v_unit_limbs : Nat) (n_v_halfGap_limbs : Nat) (n_v_sum_limbs : Nat) (x1 : Int64) (x3 : Nat)  (y6 : Int32) (y7 : Int32) (v_isNarrowBelow : Int32) (v_isEven : Int32) (v_number : Int64) (v_power : Int32) (v_rest_size : Int32) (v_rest_limbs_a : Nat → Int32) (v_unit_size : Int32) (v_unit_limbs_a : Nat → Int32) (v_halfGap_size : Int32) (v_halfGap_limbs_a : Nat → Int32) (v_sum_size : Int32) (v_sum_limbs_a : Nat → Int32) : Option (Int32 × Int32 × Int64 × Int32 × Int32 × (Nat → Int32) × Int32 × (Nat → Int32) × Int32 × (Nat → Int32) × Int32 × (Nat → Int32)) :=
  (if y7 = 0 then
  some (v_isNarrowBelow, v_isEven, v_number, v_power, v_rest_size, v_rest_limbs_a, v_unit_size, v_unit_limbs_a, v_halfGap_size, v_halfGap_limbs_a, v_sum_size, v_sum_limbs_a)
  else
  (if y6 = 0 then
  some (v_isNarrowBelow, v_isEven, v_number + 1, v_power, v_rest_size, v_rest_limbs_a, v_unit_size, v_unit_limbs_a, v_halfGap_size, v_halfGap_limbs_a, v_sum_size, v_sum_limbs_a)
  else
  (f_Sho_isNearerAbove fu n_v_rest_limbs n_v_unit_limbs n_v_sum_limbs v_number v_rest_size v_rest_limbs_a v_unit_size v_unit_limbs_a v_sum_size v_sum_limbs_a).bind fun u_5 =>
  (if u_5.1 = 0 then
  some (v_isNarrowBelow, v_isEven, v_number, v_power, v_rest_size, v_rest_limbs_a, v_unit_size, v_unit_limbs_a, v_halfGap_size, v_halfGap_limbs_a, u_5.2.1, u_5.2.2)
  else
  some (v_isNarrowBelow, v_isEven, v_number + 1, v_power, v_rest_size, v_rest_limbs_a, v_unit_size, v_unit_limbs_a, v_halfGap_size, v_halfGap_limbs_a, u_5.2.1, u_5.2.2))))
def f_Sho_find_122 (fu : Nat) (n_v_rest_limbs : Nat) (n_v_unit_limbs : Nat) (n_v_halfGap_limbs : Nat) (n_v_sum_limbs : Nat) (x1 : Int64) (x3 : Nat) (self59 : Int32 → Int32 → Int32 → Int32 → Int32 → Int64 → Int32 → Int32 → (Nat → Int32) → Int32 → (Nat → Int32) → Int32 → (Nat → Int32) → Int32 → (Nat → Int32) → Option (Int32 × Int32 × Int64 × Int32 × Int32 × (Nat → Int32) × Int32 × (Nat → Int32) × Int32 × (Nat → Int32) × Int32 × (Nat → Int32))) (y8 : Int32) (k0 : Int32) (v_isNarrowBelow : Int32) (v_isEven : Int32) (v_number : Int64) (v_power : Int32) (v_rest_size : Int32) (v_rest_limbs_a : Nat → Int32) (v_unit_size : Int32) (v_unit_limbs_a : Nat → Int32) (v_halfGap_size : Int32) (v_halfGap_limbs_a : Nat → Int32) (v_sum_size : Int32) (v_sum_limbs_a : Nat → Int32) : Option (Int32 × Int32 × Int64 × Int32 × Int32 × (Nat → Int32) × Int32 × (Nat → Int32) × Int32 × (Nat → Int32) × Int32 × (Nat → Int32)) :=
  (if y8 < 2 then
  self59 k0 0 (y8 + 1) v_isNarrowBelow v_isEven v_number v_power v_rest_size v_rest_limbs_a v_unit_size v_unit_limbs_a v_halfGap_size v_halfGap_limbs_a v_sum_size v_sum_limbs_a
  else
  (f_Sho_isReadAbove fu n_v_rest_limbs n_v_unit_limbs n_v_halfGap_limbs n_v_sum_limbs v_isNarrowBelow v_isEven v_rest_size v_rest_limbs_a v_unit_size v_unit_limbs_a v_halfGap_size v_halfGap_limbs_a v_sum_size v_sum_limbs_a).bind fun u_7 =>
  (if u_7.1 = 0 then
  self59 k0 0 (y8 + 1) v_isNarrowBelow v_isEven v_number v_power v_rest_size v_rest_limbs_a v_unit_size v_unit_limbs_a v_halfGap_size v_halfGap_limbs_a u_7.2.1 u_7.2.2
  else
  self59 k0 1 (y8 + 1) v_isNarrowBelow v_isEven v_number v_power v_rest_size v_rest_limbs_a v_unit_size v_unit_limbs_a v_halfGap_size v_halfGap_limbs_a u_7.2.1 u_7.2.2))
def f_Sho_find_121 (fu : Nat) (n_v_rest_limbs : Nat) (n_v_unit_limbs : Nat) (n_v_halfGap_limbs : Nat) (n_v_sum_limbs : Nat) (x1 : Int64) (x3 : Nat) (self59 : Int32 → Int32 → Int32 → Int32 → Int32 → Int64 → Int32 → Int32 → (Nat → Int32) → Int32 → (Nat → Int32) → Int32 → (Nat → Int32) → Int32 → (Nat → Int32) → Option (Int32 × Int32 × Int64 × Int32 × Int32 × (Nat → Int32) × Int32 × (Nat → Int32) × Int32 × (Nat → Int32) × Int32 × (Nat → Int32))) (y8 : Int32) (v_isNarrowBelow : Int32) (v_isEven : Int32) (v_number : Int64) (v_power : Int32) (v_rest_size : Int32) (v_rest_limbs_a : Nat → Int32) (v_unit_size : Int32) (v_unit_limbs_a : Nat → Int32) (v_halfGap_size : Int32) (v_halfGap_limbs_a : Nat → Int32) (v_sum_size : Int32) (v_sum_limbs_a : Nat → Int32) : Option (Int32 × Int32 × Int64 × Int32 × Int32 × (Nat → Int32) × Int32 × (Nat → Int32) × Int32 × (Nat → Int32) × Int32 × (Nat → Int32)) :=
  f_Sho_find_122 fu n_v_rest_limbs n_v_unit_limbs n_v_halfGap_limbs n_v_sum_limbs x1 x3 self59 y8 0 v_isNarrowBelow v_isEven v_number v_power v_rest_size v_rest_limbs_a v_unit_size v_unit_limbs_a v_halfGap_size v_halfGap_limbs_a v_sum_size v_sum_limbs_a
def f_Sho_find_59 (fu : Nat) (n_v_rest_limbs : Nat) (n_v_unit_limbs : Nat) (n_v_halfGap_limbs : Nat) (n_v_sum_limbs : Nat) (x1 : Int64) (x3 : Nat)  : Nat → Int32 → Int32 → Int32 → Int32 → Int32 → Int64 → Int32 → Int32 → (Nat → Int32) → Int32 → (Nat → Int32) → Int32 → (Nat → Int32) → Int32 → (Nat → Int32) → Option (Int32 × Int32 × Int64 × Int32 × Int32 × (Nat → Int32) × Int32 × (Nat → Int32) × Int32 × (Nat → Int32) × Int32 × (Nat → Int32))
  | 0, _, _, _, _, _, _, _, _, _, _, _, _, _, _, _ => none
  | n + 1, y6, y7, y8, v_isNarrowBelow, v_isEven, v_number, v_power, v_rest_size, v_rest_limbs_a, v_unit_size, v_unit_limbs_a, v_halfGap_size, v_halfGap_limbs_a, v_sum_size, v_sum_limbs_a =>
  (if 17 < y8 then
  f_Sho_find_150 fu n_v_rest_limbs n_v_unit_limbs n_v_halfGap_limbs n_v_sum_limbs x1 x3 y6 y7 v_isNarrowBelow v_isEven v_number v_power v_rest_size v_rest_limbs_a v_unit_size v_unit_limbs_a v_halfGap_size v_halfGap_limbs_a v_sum_size v_sum_limbs_a
  else
  (if y6 = 0 then
  (if y7 = 0 then
  (f_Sho_nextDigit fu n_v_rest_limbs n_v_unit_limbs n_v_halfGap_limbs v_rest_size v_rest_limbs_a v_unit_size v_unit_limbs_a v_halfGap_size v_halfGap_limbs_a).bind fun u_6 =>
  (if y8 < 2 then
  f_Sho_find_121 fu n_v_rest_limbs n_v_unit_limbs n_v_halfGap_limbs n_v_sum_limbs x1 x3 (f_Sho_find_59 fu n_v_rest_limbs n_v_unit_limbs n_v_halfGap_limbs n_v_sum_limbs x1 x3 n) y8 v_isNarrowBelow v_isEven ((v_number * 10) + u_6.1.toInt64) (v_power - 1) u_6.2.1 u_6.2.2.1 v_unit_size v_unit_limbs_a u_6.2.2.2.1 u_6.2.2.2.2 v_sum_size v_sum_limbs_a
  else
  (f_Sho_isReadBelow fu n_v_rest_limbs n_v_halfGap_limbs v_isEven u_6.2.1 u_6.2.2.1 u_6.2.2.2.1 u_6.2.2.2.2).bind fun u_8 =>
  (if u_8 = 0 then
  f_Sho_find_121 fu n_v_rest_limbs n_v_unit_limbs n_v_halfGap_limbs n_v_sum_limbs x1 x3 (f_Sho_find_59 fu n_v_rest_limbs n_v_unit_limbs n_v_halfGap_limbs n_v_sum_limbs x1 x3 n) y8 v_isNarrowBelow v_isEven ((v_number * 10) + u_6.1.toInt64) (v_power - 1) u_6.2.1 u_6.2.2.1 v_unit_size v_unit_limbs_a u_6.2.2.2.1 u_6.2.2.2.2 v_sum_size v_sum_limbs_a
  else
  f_Sho_find_122 fu n_v_rest_limbs n_v_unit_limbs n_v_halfGap_limbs n_v_sum_limbs x1 x3 (f_Sho_find_59 fu n_v_rest_limbs n_v_unit_limbs n_v_halfGap_limbs n_v_sum_limbs x1 x3 n) y8 1 v_isNarrowBelow v_isEven ((v_number * 10) + u_6.1.toInt64) (v_power - 1) u_6.2.1 u_6.2.2.1 v_unit_size v_unit_limbs_a u_6.2.2.2.1 u_6.2.2.2.2 v_sum_size v_sum_limbs_a))
  else
  f_Sho_find_150 fu n_v_rest_limbs n_v_unit_limbs n_v_halfGap_limbs n_v_sum_limbs x1 x3 y6 y7 v_isNarrowBelow v_isEven v_number v_power v_rest_size v_rest_limbs_a v_unit_size v_unit_limbs_a v_halfGap_size v_halfGap_limbs_a v_sum_size v_sum_limbs_a)
  else
  f_Sho_find_150 fu n_v_rest_limbs n_v_unit_limbs n_v_halfGap_limbs n_v_sum_limbs x1 x3 y6 y7 v_isNarrowBelow v_isEven v_number v_power v_rest_size v_rest_limbs_a v_unit_size v_unit_limbs_a v_halfGap_size v_halfGap_limbs_a v_sum_size v_sum_limbs_a))
theorem f_Sho_find_59_s (fu : Nat) (n_v_rest_limbs : Nat) (n_v_unit_limbs : Nat) (n_v_halfGap_limbs : Nat) (n_v_sum_limbs : Nat) (x1 : Int64) (x3 : Nat)  (n : Nat) (y6 : Int32) (y7 : Int32) (y8 : Int32) (v_isNarrowBelow : Int32) (v_isEven : Int32) (v_number : Int64) (v_power : Int32) (v_rest_size : Int32) (v_rest_limbs_a : Nat → Int32) (v_unit_size : Int32) (v_unit_limbs_a : Nat → Int32) (v_halfGap_size : Int32) (v_halfGap_limbs_a : Nat → Int32) (v_sum_size : Int32) (v_sum_limbs_a : Nat → Int32) : f_Sho_find_59 fu n_v_rest_limbs n_v_unit_limbs n_v_halfGap_limbs n_v_sum_limbs x1 x3 (n + 1) y6 y7 y8 v_isNarrowBelow v_isEven v_number v_power v_rest_size v_rest_limbs_a v_unit_size v_unit_limbs_a v_halfGap_size v_halfGap_limbs_a v_sum_size v_sum_limbs_a =
  (if 17 < y8 then
  f_Sho_find_150 fu n_v_rest_limbs n_v_unit_limbs n_v_halfGap_limbs n_v_sum_limbs x1 x3 y6 y7 v_isNarrowBelow v_isEven v_number v_power v_rest_size v_rest_limbs_a v_unit_size v_unit_limbs_a v_halfGap_size v_halfGap_limbs_a v_sum_size v_sum_limbs_a
  else
  (if y6 = 0 then
  (if y7 = 0 then
  (f_Sho_nextDigit fu n_v_rest_limbs n_v_unit_limbs n_v_halfGap_limbs v_rest_size v_rest_limbs_a v_unit_size v_unit_limbs_a v_halfGap_size v_halfGap_limbs_a).bind fun u_6 =>
  (if y8 < 2 then
  f_Sho_find_121 fu n_v_rest_limbs n_v_unit_limbs n_v_halfGap_limbs n_v_sum_limbs x1 x3 (f_Sho_find_59 fu n_v_rest_limbs n_v_unit_limbs n_v_halfGap_limbs n_v_sum_limbs x1 x3 n) y8 v_isNarrowBelow v_isEven ((v_number * 10) + u_6.1.toInt64) (v_power - 1) u_6.2.1 u_6.2.2.1 v_unit_size v_unit_limbs_a u_6.2.2.2.1 u_6.2.2.2.2 v_sum_size v_sum_limbs_a
  else
  (f_Sho_isReadBelow fu n_v_rest_limbs n_v_halfGap_limbs v_isEven u_6.2.1 u_6.2.2.1 u_6.2.2.2.1 u_6.2.2.2.2).bind fun u_8 =>
  (if u_8 = 0 then
  f_Sho_find_121 fu n_v_rest_limbs n_v_unit_limbs n_v_halfGap_limbs n_v_sum_limbs x1 x3 (f_Sho_find_59 fu n_v_rest_limbs n_v_unit_limbs n_v_halfGap_limbs n_v_sum_limbs x1 x3 n) y8 v_isNarrowBelow v_isEven ((v_number * 10) + u_6.1.toInt64) (v_power - 1) u_6.2.1 u_6.2.2.1 v_unit_size v_unit_limbs_a u_6.2.2.2.1 u_6.2.2.2.2 v_sum_size v_sum_limbs_a
  else
  f_Sho_find_122 fu n_v_rest_limbs n_v_unit_limbs n_v_halfGap_limbs n_v_sum_limbs x1 x3 (f_Sho_find_59 fu n_v_rest_limbs n_v_unit_limbs n_v_halfGap_limbs n_v_sum_limbs x1 x3 n) y8 1 v_isNarrowBelow v_isEven ((v_number * 10) + u_6.1.toInt64) (v_power - 1) u_6.2.1 u_6.2.2.1 v_unit_size v_unit_limbs_a u_6.2.2.2.1 u_6.2.2.2.2 v_sum_size v_sum_limbs_a))
  else
  f_Sho_find_150 fu n_v_rest_limbs n_v_unit_limbs n_v_halfGap_limbs n_v_sum_limbs x1 x3 y6 y7 v_isNarrowBelow v_isEven v_number v_power v_rest_size v_rest_limbs_a v_unit_size v_unit_limbs_a v_halfGap_size v_halfGap_limbs_a v_sum_size v_sum_limbs_a)
  else
  f_Sho_find_150 fu n_v_rest_limbs n_v_unit_limbs n_v_halfGap_limbs n_v_sum_limbs x1 x3 y6 y7 v_isNarrowBelow v_isEven v_number v_power v_rest_size v_rest_limbs_a v_unit_size v_unit_limbs_a v_halfGap_size v_halfGap_limbs_a v_sum_size v_sum_limbs_a)) := rfl
def f_Sho_find_31 (fu : Nat) (n_v_rest_limbs : Nat) (n_v_unit_limbs : Nat) (n_v_halfGap_limbs : Nat) (n_v_sum_limbs : Nat) (x1 : Int64) (x3 : Nat)  (y4 : Int64) (k1 : Int32) (v_isNarrowBelow : Int32) (v_isEven : Int32) (v_number : Int64) (v_power : Int32) (v_rest_size : Int32) (v_rest_limbs_a : Nat → Int32) (v_unit_size : Int32) (v_unit_limbs_a : Nat → Int32) (v_halfGap_size : Int32) (v_halfGap_limbs_a : Nat → Int32) (v_sum_size : Int32) (v_sum_limbs_a : Nat → Int32) : Option (Int32 × Int32 × Int64 × Int32 × Int32 × (Nat → Int32) × Int32 × (Nat → Int32) × Int32 × (Nat → Int32) × Int32 × (Nat → Int32)) :=
  if zz_bo k1 = true then
  (f_Fmt_powerOf x3 x1).bind fun u_3 =>
  (f_Sho_start fu n_v_rest_limbs n_v_unit_limbs n_v_halfGap_limbs y4 u_3 v_isNarrowBelow v_power v_rest_size v_rest_limbs_a v_unit_size v_unit_limbs_a v_halfGap_size v_halfGap_limbs_a).bind fun u_4 =>
  f_Sho_find_59 fu n_v_rest_limbs n_v_unit_limbs n_v_halfGap_limbs n_v_sum_limbs x1 x3 fu 0 0 1 v_isNarrowBelow k1 0 u_4.1 u_4.2.1 u_4.2.2.1 u_4.2.2.2.1 u_4.2.2.2.2.1 u_4.2.2.2.2.2.1 u_4.2.2.2.2.2.2 v_sum_size v_sum_limbs_a
  else none
def f_Sho_find (fu : Nat) (n_v_rest_limbs : Nat) (n_v_unit_limbs : Nat) (n_v_halfGap_limbs : Nat) (n_v_sum_limbs : Nat) (x1 : Int64) (x3 : Nat) (v_isNarrowBelow : Int32) (v_isEven : Int32) (v_number : Int64) (v_power : Int32) (v_rest_size : Int32) (v_rest_limbs_a : Nat → Int32) (v_unit_size : Int32) (v_unit_limbs_a : Nat → Int32) (v_halfGap_size : Int32) (v_halfGap_limbs_a : Nat → Int32) (v_sum_size : Int32) (v_sum_limbs_a : Nat → Int32) : Option (Int32 × Int32 × Int64 × Int32 × Int32 × (Nat → Int32) × Int32 × (Nat → Int32) × Int32 × (Nat → Int32) × Int32 × (Nat → Int32)) :=
  (f_Fmt_significandOf x3 x1).bind fun u_1 =>
  (f_Fmt_isNarrowBelow x3 x1).bind fun u_2 =>
  if zz_bo u_2 = true then
  (if (lg_cmp (u_1 &&& 1) 0) = 0 then
  f_Sho_find_31 fu n_v_rest_limbs n_v_unit_limbs n_v_halfGap_limbs n_v_sum_limbs x1 x3 u_1 1 u_2 v_isEven v_number v_power v_rest_size v_rest_limbs_a v_unit_size v_unit_limbs_a v_halfGap_size v_halfGap_limbs_a v_sum_size v_sum_limbs_a
  else
  f_Sho_find_31 fu n_v_rest_limbs n_v_unit_limbs n_v_halfGap_limbs n_v_sum_limbs x1 x3 u_1 0 u_2 v_isEven v_number v_power v_rest_size v_rest_limbs_a v_unit_size v_unit_limbs_a v_halfGap_size v_halfGap_limbs_a v_sum_size v_sum_limbs_a)
  else none
set_option maxHeartbeats 4000000 in
set_option maxRecDepth 100000 in
theorem c_Sho_find (l : Launch) (dC : Nat → ClassId) (dI : Nat → Nat → Nat) (cI cC cB cJ : ClassId) (adF : Nat → Nat) (tp : Nat) (adK adV : Nat → Nat) (fu : Nat) (sz : Nat) (h_v : Nat) (h_v_rest : Nat) (h_v_rest_limbs : Nat) (h_v_unit : Nat) (h_v_unit_limbs : Nat) (h_v_halfGap : Nat) (h_v_halfGap_limbs : Nat) (h_v_sum : Nat) (h_v_sum_limbs : Nat) (n_v_rest_limbs : Nat) (n_v_unit_limbs : Nat) (n_v_halfGap_limbs : Nat) (n_v_sum_limbs : Nat) (x1 : Int64) (x3 : Nat) (v_isNarrowBelow : Int32) (v_isEven : Int32) (v_number : Int64) (v_power : Int32) (v_rest_size : Int32) (v_rest_limbs_a : Nat → Int32) (v_unit_size : Int32) (v_unit_limbs_a : Nat → Int32) (v_halfGap_size : Int32) (v_halfGap_limbs_a : Nat → Int32) (v_sum_size : Int32) (v_sum_limbs_a : Nat → Int32) (he_x3 : x3 < 2) (u : Int32 × Int32 × Int64 × Int32 × Int32 × (Nat → Int32) × Int32 × (Nat → Int32) × Int32 × (Nat → Int32) × Int32 × (Nat → Int32)) (hf : f_Sho_find fu n_v_rest_limbs n_v_unit_limbs n_v_halfGap_limbs n_v_sum_limbs x1 x3 v_isNarrowBelow v_isEven v_number v_power v_rest_size v_rest_limbs_a v_unit_size v_unit_limbs_a v_halfGap_size v_halfGap_limbs_a v_sum_size v_sum_limbs_a = some u) : Met l y_Sho_find ws_Sho_find rm_Sho_find (zz_P (zx_E adF tp adK adV) (dC, dI) vwCl (zz_tys cI cC cB cJ) [.ref h_v, .long x1, .ref (adF x3)] [(h_v, .inr (5, [.ref h_v_rest, .ref h_v_unit, .ref h_v_halfGap, .ref h_v_sum, .int v_isNarrowBelow, .int v_isEven, .long v_number, .int v_power])), (h_v_rest, .inr (0, [.ref h_v_rest_limbs, .int v_rest_size])), (h_v_rest_limbs, .inl (cI, n_v_rest_limbs, .inl v_rest_limbs_a)), (h_v_unit, .inr (0, [.ref h_v_unit_limbs, .int v_unit_size])), (h_v_unit_limbs, .inl (cI, n_v_unit_limbs, .inl v_unit_limbs_a)), (h_v_halfGap, .inr (0, [.ref h_v_halfGap_limbs, .int v_halfGap_size])), (h_v_halfGap_limbs, .inl (cI, n_v_halfGap_limbs, .inl v_halfGap_limbs_a)), (h_v_sum, .inr (0, [.ref h_v_sum_limbs, .int v_sum_size])), (h_v_sum_limbs, .inl (cI, n_v_sum_limbs, .inl v_sum_limbs_a))] sz) (zz_Qv (dC, dI) vwCl [(h_v, .inr (5, [.ref h_v_rest, .ref h_v_unit, .ref h_v_halfGap, .ref h_v_sum, .int u.1, .int u.2.1, .long u.2.2.1, .int u.2.2.2.1])), (h_v_rest, .inr (0, [.ref h_v_rest_limbs, .int u.2.2.2.2.1])), (h_v_rest_limbs, .inl (cI, n_v_rest_limbs, .inl u.2.2.2.2.2.1)), (h_v_unit, .inr (0, [.ref h_v_unit_limbs, .int u.2.2.2.2.2.2.1])), (h_v_unit_limbs, .inl (cI, n_v_unit_limbs, .inl u.2.2.2.2.2.2.2.1)), (h_v_halfGap, .inr (0, [.ref h_v_halfGap_limbs, .int u.2.2.2.2.2.2.2.2.1])), (h_v_halfGap_limbs, .inl (cI, n_v_halfGap_limbs, .inl u.2.2.2.2.2.2.2.2.2.1)), (h_v_sum, .inr (0, [.ref h_v_sum_limbs, .int u.2.2.2.2.2.2.2.2.2.2.1])), (h_v_sum_limbs, .inl (cI, n_v_sum_limbs, .inl u.2.2.2.2.2.2.2.2.2.2.2))] (va_A [(h_v, .inr (5, [.ref h_v_rest, .ref h_v_unit, .ref h_v_halfGap, .ref h_v_sum, .int v_isNarrowBelow, .int v_isEven, .long v_number, .int v_power])), (h_v_rest, .inr (0, [.ref h_v_rest_limbs, .int v_rest_size])), (h_v_rest_limbs, .inl (cI, n_v_rest_limbs, .inl v_rest_limbs_a)), (h_v_unit, .inr (0, [.ref h_v_unit_limbs, .int v_unit_size])), (h_v_unit_limbs, .inl (cI, n_v_unit_limbs, .inl v_unit_limbs_a)), (h_v_halfGap, .inr (0, [.ref h_v_halfGap_limbs, .int v_halfGap_size])), (h_v_halfGap_limbs, .inl (cI, n_v_halfGap_limbs, .inl v_halfGap_limbs_a)), (h_v_sum, .inr (0, [.ref h_v_sum_limbs, .int v_sum_size])), (h_v_sum_limbs, .inl (cI, n_v_sum_limbs, .inl v_sum_limbs_a))] sz)) 0 0 (va_A [(h_v, .inr (5, [.ref h_v_rest, .ref h_v_unit, .ref h_v_halfGap, .ref h_v_sum, .int v_isNarrowBelow, .int v_isEven, .long v_number, .int v_power])), (h_v_rest, .inr (0, [.ref h_v_rest_limbs, .int v_rest_size])), (h_v_rest_limbs, .inl (cI, n_v_rest_limbs, .inl v_rest_limbs_a)), (h_v_unit, .inr (0, [.ref h_v_unit_limbs, .int v_unit_size])), (h_v_unit_limbs, .inl (cI, n_v_unit_limbs, .inl v_unit_limbs_a)), (h_v_halfGap, .inr (0, [.ref h_v_halfGap_limbs, .int v_halfGap_size])), (h_v_halfGap_limbs, .inl (cI, n_v_halfGap_limbs, .inl v_halfGap_limbs_a)), (h_v_sum, .inr (0, [.ref h_v_sum_limbs, .int v_sum_size])), (h_v_sum_limbs, .inl (cI, n_v_sum_limbs, .inl v_sum_limbs_a))] sz) := by
  refine Met.ofW (cc := prog_8_method_2_code) (maxL := 9) (ret := none) (by decide +kernel) rfl ?_
  intro p e s m args below meth c s₁ B hml hv
  obtain ⟨rfl, hsz, hP, hK, hD0, hX⟩ := hv
  have hx := B.exec
  have hb := B.bytes
  have hr := B.returns
  have hts := atoms_spec (ws := ws_Sho_find) B.pre
  have hw : ∀ w ∈ zw, w.before [.ref h_v, .long x1, .ref (adF x3)].toArray s = true := fun w h => hts w (List.mem_cons_of_mem _ h)
  have hown : s.vm.findClass R_Sho = some m.cls := findClass_of_methodNamed B.named
  have hlocks := B.notSynchronized
  subst hsz
  have hD := hD0.self (sz := s.heap.size)
  generalize hAe : va_A [(h_v, .inr (5, [.ref h_v_rest, .ref h_v_unit, .ref h_v_halfGap, .ref h_v_sum, .int v_isNarrowBelow, .int v_isEven, .long v_number, .int v_power])), (h_v_rest, .inr (0, [.ref h_v_rest_limbs, .int v_rest_size])), (h_v_rest_limbs, .inl (cI, n_v_rest_limbs, .inl v_rest_limbs_a)), (h_v_unit, .inr (0, [.ref h_v_unit_limbs, .int v_unit_size])), (h_v_unit_limbs, .inl (cI, n_v_unit_limbs, .inl v_unit_limbs_a)), (h_v_halfGap, .inr (0, [.ref h_v_halfGap_limbs, .int v_halfGap_size])), (h_v_halfGap_limbs, .inl (cI, n_v_halfGap_limbs, .inl v_halfGap_limbs_a)), (h_v_sum, .inr (0, [.ref h_v_sum_limbs, .int v_sum_size])), (h_v_sum_limbs, .inl (cI, n_v_sum_limbs, .inl v_sum_limbs_a))] s.heap.size = A at hD hX ⊢
  have hA : ∀ q : Nat, s.heap.size ≤ q → A q := fun q h => by rw [← hAe]; exact Or.inr h
  have hS : va_S A s.heap s.heap [] := va_S.rf
  have hl := lv_entry [.ref h_v, .long x1, .ref (adF x3)] (n := 9) (Nat.le_of_ble_eq_true rfl)
  rw [lg_entry_eq]
  generalize (lg_sl [.ref h_v, .long x1, .ref (adF x3)] ++ List.replicate (9 - (lg_sl [.ref h_v, .long x1, .ref (adF x3)]).length) Slot.unset).toArray = ls at hl ⊢
  have hl : lv_has ls 9 [(0, .ref h_v), (1, .long x1), (3, .ref (adF x3))] := hl
  refine zz_endv hx hb hr hlocks (fun Qq hend => ?_)
  have hL_150 : ∀ (y6 : Int32) (y7 : Int32) (v_isNarrowBelow : Int32) (v_isEven : Int32) (v_number : Int64) (v_power : Int32) (v_rest_size : Int32) (v_rest_limbs_a : Nat → Int32) (v_unit_size : Int32) (v_unit_limbs_a : Nat → Int32) (v_halfGap_size : Int32) (v_halfGap_limbs_a : Nat → Int32) (v_sum_size : Int32) (v_sum_limbs_a : Nat → Int32) (ls : Array Slot) (H : Heap) (locs : List Loc), lv_has ls 9 [(0, .ref h_v), (6, .int y6), (7, .int y7)] → va_P (dC, dI) vwCl [(h_v, .inr (5, [.ref h_v_rest, .ref h_v_unit, .ref h_v_halfGap, .ref h_v_sum, .int v_isNarrowBelow, .int v_isEven, .long v_number, .int v_power])), (h_v_rest, .inr (0, [.ref h_v_rest_limbs, .int v_rest_size])), (h_v_rest_limbs, .inl (cI, n_v_rest_limbs, .inl v_rest_limbs_a)), (h_v_unit, .inr (0, [.ref h_v_unit_limbs, .int v_unit_size])), (h_v_unit_limbs, .inl (cI, n_v_unit_limbs, .inl v_unit_limbs_a)), (h_v_halfGap, .inr (0, [.ref h_v_halfGap_limbs, .int v_halfGap_size])), (h_v_halfGap_limbs, .inl (cI, n_v_halfGap_limbs, .inl v_halfGap_limbs_a)), (h_v_sum, .inr (0, [.ref h_v_sum_limbs, .int v_sum_size])), (h_v_sum_limbs, .inl (cI, n_v_sum_limbs, .inl v_sum_limbs_a))] H → va_D A [(h_v, .inr (5, [.ref h_v_rest, .ref h_v_unit, .ref h_v_halfGap, .ref h_v_sum, .int v_isNarrowBelow, .int v_isEven, .long v_number, .int v_power])), (h_v_rest, .inr (0, [.ref h_v_rest_limbs, .int v_rest_size])), (h_v_rest_limbs, .inl (cI, n_v_rest_limbs, .inl v_rest_limbs_a)), (h_v_unit, .inr (0, [.ref h_v_unit_limbs, .int v_unit_size])), (h_v_unit_limbs, .inl (cI, n_v_unit_limbs, .inl v_unit_limbs_a)), (h_v_halfGap, .inr (0, [.ref h_v_halfGap_limbs, .int v_halfGap_size])), (h_v_halfGap_limbs, .inl (cI, n_v_halfGap_limbs, .inl v_halfGap_limbs_a)), (h_v_sum, .inr (0, [.ref h_v_sum_limbs, .int v_sum_size])), (h_v_sum_limbs, .inl (cI, n_v_sum_limbs, .inl v_sum_limbs_a))] → va_S A s.heap H locs → f_Sho_find_150 fu n_v_rest_limbs n_v_unit_limbs n_v_halfGap_limbs n_v_sum_limbs x1 x3 y6 y7 v_isNarrowBelow v_isEven v_number v_power v_rest_size v_rest_limbs_a v_unit_size v_unit_limbs_a v_halfGap_size v_halfGap_limbs_a v_sum_size v_sum_limbs_a = some u → W p l e (headSpec ws_Sho_find rm_Sho_find).room s m [.ref h_v, .long x1, .ref (adF x3)].toArray below meth c H locs 0 0 Qq (F0 m 150 ls []) := by
    intro y6 y7 v_isNarrowBelow v_isEven v_number v_power v_rest_size v_rest_limbs_a v_unit_size v_unit_limbs_a v_halfGap_size v_halfGap_limbs_a v_sum_size v_sum_limbs_a ls H locs hl hP hD hS hf
    unfold f_Sho_find_150 at hf
    refine lv_iload hx hb d_Sho_find_150 (lv_at hl 2 rfl) ?_
    refine lv_if_eq (tgt := 177) hx hb d_Sho_find_152 (by decide) (fun hc => ?_) (fun hc => ?_)
    · have hf := zz_ifp hc hf
      cases hf
      exact hend 177 ls _ _ d_Sho_find_177 hP hD hS
    · have hf := zz_ifn hc hf
      refine lv_iload hx hb d_Sho_find_155 (lv_at hl 1 rfl) ?_
      refine lv_if_eq (tgt := 167) hx hb d_Sho_find_157 (by decide) (fun hc => ?_) (fun hc => ?_)
      · have hf := zz_ifp hc hf
        refine lv_aload_n hx hb d_Sho_find_167 rfl (lv_at hl 0 rfl) ?_
        refine lv_dup hx hb d_Sho_find_168 rfl ?_
        refine va_get (D := (dC, dI)) (ci := 5) (v := .long v_number) (C := R_Sho) (T := T_Sho) (N := 8) hx hb hw in_Sho hown hK hP 0 rfl rfl 6 (by decide) (hw _ wd_131) (fun _ h9 => h9) rfl d_Sho_find_169 ?_
        refine lv_lconst (v := 1) hx hb d_Sho_find_172 (by decide) ?_
        refine lv_ladd hx hb d_Sho_find_173 ?_
        refine va_put (D := (dC, dI)) (ci := 5) (v := .long (v_number + 1)) (ty := .long) (C := R_Sho) (T := T_Sho) (N := 8) hx hb hw in_Sho ty_Sho tyok_Sho nm_Sho hown hK hP hD hS 0 rfl rfl 6 (by decide) (hw _ wd_131) (fun _ h9 => h9) rfl (tyok_Sho 6 (by decide)) rfl rfl (Nat.le_of_ble_eq_true rfl) d_Sho_find_174 (fun H locs hP hD hS => ?_)
        have hP : va_P (dC, dI) vwCl [(h_v, .inr (5, [.ref h_v_rest, .ref h_v_unit, .ref h_v_halfGap, .ref h_v_sum, .int v_isNarrowBelow, .int v_isEven, .long (v_number + 1), .int v_power])), (h_v_rest, .inr (0, [.ref h_v_rest_limbs, .int v_rest_size])), (h_v_rest_limbs, .inl (cI, n_v_rest_limbs, .inl v_rest_limbs_a)), (h_v_unit, .inr (0, [.ref h_v_unit_limbs, .int v_unit_size])), (h_v_unit_limbs, .inl (cI, n_v_unit_limbs, .inl v_unit_limbs_a)), (h_v_halfGap, .inr (0, [.ref h_v_halfGap_limbs, .int v_halfGap_size])), (h_v_halfGap_limbs, .inl (cI, n_v_halfGap_limbs, .inl v_halfGap_limbs_a)), (h_v_sum, .inr (0, [.ref h_v_sum_limbs, .int v_sum_size])), (h_v_sum_limbs, .inl (cI, n_v_sum_limbs, .inl v_sum_limbs_a))] H := hP
        have hD : va_D A [(h_v, .inr (5, [.ref h_v_rest, .ref h_v_unit, .ref h_v_halfGap, .ref h_v_sum, .int v_isNarrowBelow, .int v_isEven, .long (v_number + 1), .int v_power])), (h_v_rest, .inr (0, [.ref h_v_rest_limbs, .int v_rest_size])), (h_v_rest_limbs, .inl (cI, n_v_rest_limbs, .inl v_rest_limbs_a)), (h_v_unit, .inr (0, [.ref h_v_unit_limbs, .int v_unit_size])), (h_v_unit_limbs, .inl (cI, n_v_unit_limbs, .inl v_unit_limbs_a)), (h_v_halfGap, .inr (0, [.ref h_v_halfGap_limbs, .int v_halfGap_size])), (h_v_halfGap_limbs, .inl (cI, n_v_halfGap_limbs, .inl v_halfGap_limbs_a)), (h_v_sum, .inr (0, [.ref h_v_sum_limbs, .int v_sum_size])), (h_v_sum_limbs, .inl (cI, n_v_sum_limbs, .inl v_sum_limbs_a))] := hD
        cases hf
        exact hend 177 ls _ _ d_Sho_find_177 hP hD hS
      · have hf := zz_ifn hc hf
        refine lv_aload_n hx hb d_Sho_find_160 rfl (lv_at hl 0 rfl) ?_
        obtain ⟨u_5, hu_5, hf⟩ := zz_bd hf
        refine zz_ci (ws' := [(h_v, .inr (5, [.ref h_v_rest, .ref h_v_unit, .ref h_v_halfGap, .ref h_v_sum, .int v_isNarrowBelow, .int v_isEven, .long v_number, .int v_power])), (h_v_rest, .inr (0, [.ref h_v_rest_limbs, .int v_rest_size])), (h_v_rest_limbs, .inl (cI, n_v_rest_limbs, .inl v_rest_limbs_a)), (h_v_unit, .inr (0, [.ref h_v_unit_limbs, .int v_unit_size])), (h_v_unit_limbs, .inl (cI, n_v_unit_limbs, .inl v_unit_limbs_a)), (h_v_halfGap, .inr (0, [.ref h_v_halfGap_limbs, .int v_halfGap_size])), (h_v_halfGap_limbs, .inl (cI, n_v_halfGap_limbs, .inl v_halfGap_limbs_a)), (h_v_sum, .inr (0, [.ref h_v_sum_limbs, .int u_5.2.1])), (h_v_sum_limbs, .inl (cI, n_v_sum_limbs, .inl u_5.2.2))]) (wc := [(h_v, .inr (5, [.ref h_v_rest, .ref h_v_unit, .ref h_v_halfGap, .ref h_v_sum, .int v_isNarrowBelow, .int v_isEven, .long v_number, .int v_power])), (h_v_rest, .inr (0, [.ref h_v_rest_limbs, .int v_rest_size])), (h_v_rest_limbs, .inl (cI, n_v_rest_limbs, .inl v_rest_limbs_a)), (h_v_unit, .inr (0, [.ref h_v_unit_limbs, .int v_unit_size])), (h_v_unit_limbs, .inl (cI, n_v_unit_limbs, .inl v_unit_limbs_a)), (h_v_sum, .inr (0, [.ref h_v_sum_limbs, .int v_sum_size])), (h_v_sum_limbs, .inl (cI, n_v_sum_limbs, .inl v_sum_limbs_a))]) (w' := [(h_v, .inr (5, [.ref h_v_rest, .ref h_v_unit, .ref h_v_halfGap, .ref h_v_sum, .int v_isNarrowBelow, .int v_isEven, .long v_number, .int v_power])), (h_v_rest, .inr (0, [.ref h_v_rest_limbs, .int v_rest_size])), (h_v_rest_limbs, .inl (cI, n_v_rest_limbs, .inl v_rest_limbs_a)), (h_v_unit, .inr (0, [.ref h_v_unit_limbs, .int v_unit_size])), (h_v_unit_limbs, .inl (cI, n_v_unit_limbs, .inl v_unit_limbs_a)), (h_v_sum, .inr (0, [.ref h_v_sum_limbs, .int u_5.2.1])), (h_v_sum_limbs, .inl (cI, n_v_sum_limbs, .inl u_5.2.2))]) hP hD hS hA [0, 1, 2, 3, 4, 7, 8] [5, 6] [2, 3, 4, 5, 6, 0, 1, 7, 8] rfl rfl (by decide) (by decide) rfl (by decide) (va_runV (As := []) (rest := []) ⟨hx, hb, hml, hown, hw⟩ (c_Sho_isNearerAbove l dC dI cI cC cB cJ fu _ h_v h_v_rest h_v_rest_limbs h_v_unit h_v_unit_limbs h_v_sum h_v_sum_limbs h_v_halfGap n_v_rest_limbs n_v_unit_limbs n_v_sum_limbs v_isNarrowBelow v_isEven v_number v_power v_rest_size v_rest_limbs_a v_unit_size v_unit_limbs_a v_sum_size v_sum_limbs_a u_5 hu_5) (cwV 0 hw (zg_V wd_409 wd_411 we_0_11 wd_6 wd_412) rfl rfl rfl hd_Sho_isNearerAbove ⟨Nat.le_of_ble_eq_true rfl, Nat.le_of_ble_eq_true rfl⟩) (zz_preV zz_TE (va_recv (q0 := 0) (ci := 5) hK hP rfl rfl) hP hD hK hS hA trivial [0, 1, 2, 3, 4, 7, 8] rfl (by decide)) rfl rfl hl.1 rfl (lv_room (Nat.le_of_ble_eq_true rfl)) d_Sho_find_161 ⟨Nat.zero_le _, Nat.zero_le _⟩) (fun H locs hP hD hS => ?_)
        refine lv_if_eq (tgt := 177) hx hb d_Sho_find_164 (by decide) (fun hc => ?_) (fun hc => ?_)
        · have hf := zz_ifp hc hf
          cases hf
          exact hend 177 ls _ _ d_Sho_find_177 hP hD hS
        · have hf := zz_ifn hc hf
          refine lv_aload_n hx hb d_Sho_find_167 rfl (lv_at hl 0 rfl) ?_
          refine lv_dup hx hb d_Sho_find_168 rfl ?_
          refine va_get (D := (dC, dI)) (ci := 5) (v := .long v_number) (C := R_Sho) (T := T_Sho) (N := 8) hx hb hw in_Sho hown hK hP 0 rfl rfl 6 (by decide) (hw _ wd_131) (fun _ h9 => h9) rfl d_Sho_find_169 ?_
          refine lv_lconst (v := 1) hx hb d_Sho_find_172 (by decide) ?_
          refine lv_ladd hx hb d_Sho_find_173 ?_
          refine va_put (D := (dC, dI)) (ci := 5) (v := .long (v_number + 1)) (ty := .long) (C := R_Sho) (T := T_Sho) (N := 8) hx hb hw in_Sho ty_Sho tyok_Sho nm_Sho hown hK hP hD hS 0 rfl rfl 6 (by decide) (hw _ wd_131) (fun _ h9 => h9) rfl (tyok_Sho 6 (by decide)) rfl rfl (Nat.le_of_ble_eq_true rfl) d_Sho_find_174 (fun H locs hP hD hS => ?_)
          have hP : va_P (dC, dI) vwCl [(h_v, .inr (5, [.ref h_v_rest, .ref h_v_unit, .ref h_v_halfGap, .ref h_v_sum, .int v_isNarrowBelow, .int v_isEven, .long (v_number + 1), .int v_power])), (h_v_rest, .inr (0, [.ref h_v_rest_limbs, .int v_rest_size])), (h_v_rest_limbs, .inl (cI, n_v_rest_limbs, .inl v_rest_limbs_a)), (h_v_unit, .inr (0, [.ref h_v_unit_limbs, .int v_unit_size])), (h_v_unit_limbs, .inl (cI, n_v_unit_limbs, .inl v_unit_limbs_a)), (h_v_halfGap, .inr (0, [.ref h_v_halfGap_limbs, .int v_halfGap_size])), (h_v_halfGap_limbs, .inl (cI, n_v_halfGap_limbs, .inl v_halfGap_limbs_a)), (h_v_sum, .inr (0, [.ref h_v_sum_limbs, .int u_5.2.1])), (h_v_sum_limbs, .inl (cI, n_v_sum_limbs, .inl u_5.2.2))] H := hP
          have hD : va_D A [(h_v, .inr (5, [.ref h_v_rest, .ref h_v_unit, .ref h_v_halfGap, .ref h_v_sum, .int v_isNarrowBelow, .int v_isEven, .long (v_number + 1), .int v_power])), (h_v_rest, .inr (0, [.ref h_v_rest_limbs, .int v_rest_size])), (h_v_rest_limbs, .inl (cI, n_v_rest_limbs, .inl v_rest_limbs_a)), (h_v_unit, .inr (0, [.ref h_v_unit_limbs, .int v_unit_size])), (h_v_unit_limbs, .inl (cI, n_v_unit_limbs, .inl v_unit_limbs_a)), (h_v_halfGap, .inr (0, [.ref h_v_halfGap_limbs, .int v_halfGap_size])), (h_v_halfGap_limbs, .inl (cI, n_v_halfGap_limbs, .inl v_halfGap_limbs_a)), (h_v_sum, .inr (0, [.ref h_v_sum_limbs, .int u_5.2.1])), (h_v_sum_limbs, .inl (cI, n_v_sum_limbs, .inl u_5.2.2))] := hD
          cases hf
          exact hend 177 ls _ _ d_Sho_find_177 hP hD hS
  have hL_122 : ∀ (self59 : Int32 → Int32 → Int32 → Int32 → Int32 → Int64 → Int32 → Int32 → (Nat → Int32) → Int32 → (Nat → Int32) → Int32 → (Nat → Int32) → Int32 → (Nat → Int32) → Option (Int32 × Int32 × Int64 × Int32 × Int32 × (Nat → Int32) × Int32 × (Nat → Int32) × Int32 × (Nat → Int32) × Int32 × (Nat → Int32))), (∀ (y6 : Int32) (y7 : Int32) (y8 : Int32) (v_isNarrowBelow : Int32) (v_isEven : Int32) (v_number : Int64) (v_power : Int32) (v_rest_size : Int32) (v_rest_limbs_a : Nat → Int32) (v_unit_size : Int32) (v_unit_limbs_a : Nat → Int32) (v_halfGap_size : Int32) (v_halfGap_limbs_a : Nat → Int32) (v_sum_size : Int32) (v_sum_limbs_a : Nat → Int32) (ls : Array Slot) (H : Heap) (locs : List Loc), lv_has ls 9 [(0, .ref h_v), (6, .int y6), (7, .int y7), (8, .int y8)] → va_P (dC, dI) vwCl [(h_v, .inr (5, [.ref h_v_rest, .ref h_v_unit, .ref h_v_halfGap, .ref h_v_sum, .int v_isNarrowBelow, .int v_isEven, .long v_number, .int v_power])), (h_v_rest, .inr (0, [.ref h_v_rest_limbs, .int v_rest_size])), (h_v_rest_limbs, .inl (cI, n_v_rest_limbs, .inl v_rest_limbs_a)), (h_v_unit, .inr (0, [.ref h_v_unit_limbs, .int v_unit_size])), (h_v_unit_limbs, .inl (cI, n_v_unit_limbs, .inl v_unit_limbs_a)), (h_v_halfGap, .inr (0, [.ref h_v_halfGap_limbs, .int v_halfGap_size])), (h_v_halfGap_limbs, .inl (cI, n_v_halfGap_limbs, .inl v_halfGap_limbs_a)), (h_v_sum, .inr (0, [.ref h_v_sum_limbs, .int v_sum_size])), (h_v_sum_limbs, .inl (cI, n_v_sum_limbs, .inl v_sum_limbs_a))] H → va_D A [(h_v, .inr (5, [.ref h_v_rest, .ref h_v_unit, .ref h_v_halfGap, .ref h_v_sum, .int v_isNarrowBelow, .int v_isEven, .long v_number, .int v_power])), (h_v_rest, .inr (0, [.ref h_v_rest_limbs, .int v_rest_size])), (h_v_rest_limbs, .inl (cI, n_v_rest_limbs, .inl v_rest_limbs_a)), (h_v_unit, .inr (0, [.ref h_v_unit_limbs, .int v_unit_size])), (h_v_unit_limbs, .inl (cI, n_v_unit_limbs, .inl v_unit_limbs_a)), (h_v_halfGap, .inr (0, [.ref h_v_halfGap_limbs, .int v_halfGap_size])), (h_v_halfGap_limbs, .inl (cI, n_v_halfGap_limbs, .inl v_halfGap_limbs_a)), (h_v_sum, .inr (0, [.ref h_v_sum_limbs, .int v_sum_size])), (h_v_sum_limbs, .inl (cI, n_v_sum_limbs, .inl v_sum_limbs_a))] → va_S A s.heap H locs → self59 y6 y7 y8 v_isNarrowBelow v_isEven v_number v_power v_rest_size v_rest_limbs_a v_unit_size v_unit_limbs_a v_halfGap_size v_halfGap_limbs_a v_sum_size v_sum_limbs_a = some u → W p l e (headSpec ws_Sho_find rm_Sho_find).room s m [.ref h_v, .long x1, .ref (adF x3)].toArray below meth c H locs 0 0 Qq (F0 m 59 ls [])) → ∀ (y8 : Int32) (k0 : Int32) (v_isNarrowBelow : Int32) (v_isEven : Int32) (v_number : Int64) (v_power : Int32) (v_rest_size : Int32) (v_rest_limbs_a : Nat → Int32) (v_unit_size : Int32) (v_unit_limbs_a : Nat → Int32) (v_halfGap_size : Int32) (v_halfGap_limbs_a : Nat → Int32) (v_sum_size : Int32) (v_sum_limbs_a : Nat → Int32) (ls : Array Slot) (H : Heap) (locs : List Loc), lv_has ls 9 [(0, .ref h_v), (8, .int y8)] → va_P (dC, dI) vwCl [(h_v, .inr (5, [.ref h_v_rest, .ref h_v_unit, .ref h_v_halfGap, .ref h_v_sum, .int v_isNarrowBelow, .int v_isEven, .long v_number, .int v_power])), (h_v_rest, .inr (0, [.ref h_v_rest_limbs, .int v_rest_size])), (h_v_rest_limbs, .inl (cI, n_v_rest_limbs, .inl v_rest_limbs_a)), (h_v_unit, .inr (0, [.ref h_v_unit_limbs, .int v_unit_size])), (h_v_unit_limbs, .inl (cI, n_v_unit_limbs, .inl v_unit_limbs_a)), (h_v_halfGap, .inr (0, [.ref h_v_halfGap_limbs, .int v_halfGap_size])), (h_v_halfGap_limbs, .inl (cI, n_v_halfGap_limbs, .inl v_halfGap_limbs_a)), (h_v_sum, .inr (0, [.ref h_v_sum_limbs, .int v_sum_size])), (h_v_sum_limbs, .inl (cI, n_v_sum_limbs, .inl v_sum_limbs_a))] H → va_D A [(h_v, .inr (5, [.ref h_v_rest, .ref h_v_unit, .ref h_v_halfGap, .ref h_v_sum, .int v_isNarrowBelow, .int v_isEven, .long v_number, .int v_power])), (h_v_rest, .inr (0, [.ref h_v_rest_limbs, .int v_rest_size])), (h_v_rest_limbs, .inl (cI, n_v_rest_limbs, .inl v_rest_limbs_a)), (h_v_unit, .inr (0, [.ref h_v_unit_limbs, .int v_unit_size])), (h_v_unit_limbs, .inl (cI, n_v_unit_limbs, .inl v_unit_limbs_a)), (h_v_halfGap, .inr (0, [.ref h_v_halfGap_limbs, .int v_halfGap_size])), (h_v_halfGap_limbs, .inl (cI, n_v_halfGap_limbs, .inl v_halfGap_limbs_a)), (h_v_sum, .inr (0, [.ref h_v_sum_limbs, .int v_sum_size])), (h_v_sum_limbs, .inl (cI, n_v_sum_limbs, .inl v_sum_limbs_a))] → va_S A s.heap H locs → f_Sho_find_122 fu n_v_rest_limbs n_v_unit_limbs n_v_halfGap_limbs n_v_sum_limbs x1 x3 self59 y8 k0 v_isNarrowBelow v_isEven v_number v_power v_rest_size v_rest_limbs_a v_unit_size v_unit_limbs_a v_halfGap_size v_halfGap_limbs_a v_sum_size v_sum_limbs_a = some u → W p l e (headSpec ws_Sho_find rm_Sho_find).room s m [.ref h_v, .long x1, .ref (adF x3)].toArray below meth c H locs 0 0 Qq (F0 m 122 ls [.int k0]) := by
    intro self59 hs59
    intro y8 k0 v_isNarrowBelow v_isEven v_number v_power v_rest_size v_rest_limbs_a v_unit_size v_unit_limbs_a v_halfGap_size v_halfGap_limbs_a v_sum_size v_sum_limbs_a ls H locs hl hP hD hS hf
    unfold f_Sho_find_122 at hf
    refine lv_istore hx hb d_Sho_find_122 hl (by decide) rfl (fun ls hl => ?_)
    have hl : lv_has ls 9 [(6, .int k0), (0, .ref h_v), (8, .int y8)] := hl
    refine lv_iload hx hb d_Sho_find_124 (lv_at hl 2 rfl) ?_
    refine lv_iconst (v := 2) hx hb d_Sho_find_126 (by decide) ?_
    refine lv_icmp_lt (tgt := 141) hx hb d_Sho_find_127 (by decide) (fun hc => ?_) (fun hc => ?_)
    · have hf := zz_ifp hc hf
      refine lv_iconst (v := 0) hx hb d_Sho_find_141 (by decide) ?_
      refine lv_istore hx hb d_Sho_find_142 hl (by decide) rfl (fun ls hl => ?_)
      have hl : lv_has ls 9 [(7, .int 0), (6, .int k0), (0, .ref h_v), (8, .int y8)] := hl
      refine lv_iinc (k := 3) (v := y8 + 1) hx hb d_Sho_find_144 hl rfl rfl (by decide) rfl (fun ls hl => ?_)
      have hl : lv_has ls 9 [(8, .int (y8 + 1)), (7, .int 0), (6, .int k0), (0, .ref h_v)] := hl
      refine lv_goto (tgt := 59) hx hb d_Sho_find_147 (by decide) ?_
      exact hs59 k0 0 (y8 + 1) v_isNarrowBelow v_isEven v_number v_power v_rest_size v_rest_limbs_a v_unit_size v_unit_limbs_a v_halfGap_size v_halfGap_limbs_a v_sum_size v_sum_limbs_a ls _ _ (lv_sub hl [3, 2, 1, 0] rfl) hP hD hS hf
    · have hf := zz_ifn hc hf
      refine lv_aload_n hx hb d_Sho_find_130 rfl (lv_at hl 1 rfl) ?_
      obtain ⟨u_7, hu_7, hf⟩ := zz_bd hf
      refine zz_ci (ws' := [(h_v, .inr (5, [.ref h_v_rest, .ref h_v_unit, .ref h_v_halfGap, .ref h_v_sum, .int v_isNarrowBelow, .int v_isEven, .long v_number, .int v_power])), (h_v_rest, .inr (0, [.ref h_v_rest_limbs, .int v_rest_size])), (h_v_rest_limbs, .inl (cI, n_v_rest_limbs, .inl v_rest_limbs_a)), (h_v_unit, .inr (0, [.ref h_v_unit_limbs, .int v_unit_size])), (h_v_unit_limbs, .inl (cI, n_v_unit_limbs, .inl v_unit_limbs_a)), (h_v_halfGap, .inr (0, [.ref h_v_halfGap_limbs, .int v_halfGap_size])), (h_v_halfGap_limbs, .inl (cI, n_v_halfGap_limbs, .inl v_halfGap_limbs_a)), (h_v_sum, .inr (0, [.ref h_v_sum_limbs, .int u_7.2.1])), (h_v_sum_limbs, .inl (cI, n_v_sum_limbs, .inl u_7.2.2))]) (wc := [(h_v, .inr (5, [.ref h_v_rest, .ref h_v_unit, .ref h_v_halfGap, .ref h_v_sum, .int v_isNarrowBelow, .int v_isEven, .long v_number, .int v_power])), (h_v_rest, .inr (0, [.ref h_v_rest_limbs, .int v_rest_size])), (h_v_rest_limbs, .inl (cI, n_v_rest_limbs, .inl v_rest_limbs_a)), (h_v_unit, .inr (0, [.ref h_v_unit_limbs, .int v_unit_size])), (h_v_unit_limbs, .inl (cI, n_v_unit_limbs, .inl v_unit_limbs_a)), (h_v_halfGap, .inr (0, [.ref h_v_halfGap_limbs, .int v_halfGap_size])), (h_v_halfGap_limbs, .inl (cI, n_v_halfGap_limbs, .inl v_halfGap_limbs_a)), (h_v_sum, .inr (0, [.ref h_v_sum_limbs, .int v_sum_size])), (h_v_sum_limbs, .inl (cI, n_v_sum_limbs, .inl v_sum_limbs_a))]) (w' := [(h_v, .inr (5, [.ref h_v_rest, .ref h_v_unit, .ref h_v_halfGap, .ref h_v_sum, .int v_isNarrowBelow, .int v_isEven, .long v_number, .int v_power])), (h_v_rest, .inr (0, [.ref h_v_rest_limbs, .int v_rest_size])), (h_v_rest_limbs, .inl (cI, n_v_rest_limbs, .inl v_rest_limbs_a)), (h_v_unit, .inr (0, [.ref h_v_unit_limbs, .int v_unit_size])), (h_v_unit_limbs, .inl (cI, n_v_unit_limbs, .inl v_unit_limbs_a)), (h_v_halfGap, .inr (0, [.ref h_v_halfGap_limbs, .int v_halfGap_size])), (h_v_halfGap_limbs, .inl (cI, n_v_halfGap_limbs, .inl v_halfGap_limbs_a)), (h_v_sum, .inr (0, [.ref h_v_sum_limbs, .int u_7.2.1])), (h_v_sum_limbs, .inl (cI, n_v_sum_limbs, .inl u_7.2.2))]) hP hD hS hA [0, 1, 2, 3, 4, 5, 6, 7, 8] [] [0, 1, 2, 3, 4, 5, 6, 7, 8] rfl rfl (by decide) (by decide) rfl (by decide) (va_runV (As := []) (rest := []) ⟨hx, hb, hml, hown, hw⟩ (c_Sho_isReadAbove l dC dI cI cC cB cJ fu _ h_v h_v_rest h_v_rest_limbs h_v_unit h_v_unit_limbs h_v_halfGap h_v_halfGap_limbs h_v_sum h_v_sum_limbs n_v_rest_limbs n_v_unit_limbs n_v_halfGap_limbs n_v_sum_limbs v_isNarrowBelow v_isEven v_number v_power v_rest_size v_rest_limbs_a v_unit_size v_unit_limbs_a v_halfGap_size v_halfGap_limbs_a v_sum_size v_sum_limbs_a u_7 hu_7) (cwV 0 hw (zg_V wd_389 wd_391 we_0_9 wd_6 wd_392) rfl rfl rfl hd_Sho_isReadAbove ⟨Nat.le_of_ble_eq_true rfl, Nat.le_of_ble_eq_true rfl⟩) (zz_preV zz_TE (va_recv (q0 := 0) (ci := 5) hK hP rfl rfl) hP hD hK hS hA trivial [0, 1, 2, 3, 4, 5, 6, 7, 8] rfl (by decide)) rfl rfl hl.1 rfl (lv_room (Nat.le_of_ble_eq_true rfl)) d_Sho_find_131 ⟨Nat.zero_le _, Nat.zero_le _⟩) (fun H locs hP hD hS => ?_)
      refine lv_if_eq (tgt := 141) hx hb d_Sho_find_134 (by decide) (fun hc => ?_) (fun hc => ?_)
      · have hf := zz_ifp hc hf
        refine lv_iconst (v := 0) hx hb d_Sho_find_141 (by decide) ?_
        refine lv_istore hx hb d_Sho_find_142 hl (by decide) rfl (fun ls hl => ?_)
        have hl : lv_has ls 9 [(7, .int 0), (6, .int k0), (0, .ref h_v), (8, .int y8)] := hl
        refine lv_iinc (k := 3) (v := y8 + 1) hx hb d_Sho_find_144 hl rfl rfl (by decide) rfl (fun ls hl => ?_)
        have hl : lv_has ls 9 [(8, .int (y8 + 1)), (7, .int 0), (6, .int k0), (0, .ref h_v)] := hl
        refine lv_goto (tgt := 59) hx hb d_Sho_find_147 (by decide) ?_
        exact hs59 k0 0 (y8 + 1) v_isNarrowBelow v_isEven v_number v_power v_rest_size v_rest_limbs_a v_unit_size v_unit_limbs_a v_halfGap_size v_halfGap_limbs_a u_7.2.1 u_7.2.2 ls _ _ (lv_sub hl [3, 2, 1, 0] rfl) hP hD hS hf
      · have hf := zz_ifn hc hf
        refine lv_iconst (v := 1) hx hb d_Sho_find_137 (by decide) ?_
        refine lv_goto (tgt := 142) hx hb d_Sho_find_138 (by decide) ?_
        refine lv_istore hx hb d_Sho_find_142 hl (by decide) rfl (fun ls hl => ?_)
        have hl : lv_has ls 9 [(7, .int 1), (6, .int k0), (0, .ref h_v), (8, .int y8)] := hl
        refine lv_iinc (k := 3) (v := y8 + 1) hx hb d_Sho_find_144 hl rfl rfl (by decide) rfl (fun ls hl => ?_)
        have hl : lv_has ls 9 [(8, .int (y8 + 1)), (7, .int 1), (6, .int k0), (0, .ref h_v)] := hl
        refine lv_goto (tgt := 59) hx hb d_Sho_find_147 (by decide) ?_
        exact hs59 k0 1 (y8 + 1) v_isNarrowBelow v_isEven v_number v_power v_rest_size v_rest_limbs_a v_unit_size v_unit_limbs_a v_halfGap_size v_halfGap_limbs_a u_7.2.1 u_7.2.2 ls _ _ (lv_sub hl [3, 2, 1, 0] rfl) hP hD hS hf
  have hL_121 : ∀ (self59 : Int32 → Int32 → Int32 → Int32 → Int32 → Int64 → Int32 → Int32 → (Nat → Int32) → Int32 → (Nat → Int32) → Int32 → (Nat → Int32) → Int32 → (Nat → Int32) → Option (Int32 × Int32 × Int64 × Int32 × Int32 × (Nat → Int32) × Int32 × (Nat → Int32) × Int32 × (Nat → Int32) × Int32 × (Nat → Int32))), (∀ (y6 : Int32) (y7 : Int32) (y8 : Int32) (v_isNarrowBelow : Int32) (v_isEven : Int32) (v_number : Int64) (v_power : Int32) (v_rest_size : Int32) (v_rest_limbs_a : Nat → Int32) (v_unit_size : Int32) (v_unit_limbs_a : Nat → Int32) (v_halfGap_size : Int32) (v_halfGap_limbs_a : Nat → Int32) (v_sum_size : Int32) (v_sum_limbs_a : Nat → Int32) (ls : Array Slot) (H : Heap) (locs : List Loc), lv_has ls 9 [(0, .ref h_v), (6, .int y6), (7, .int y7), (8, .int y8)] → va_P (dC, dI) vwCl [(h_v, .inr (5, [.ref h_v_rest, .ref h_v_unit, .ref h_v_halfGap, .ref h_v_sum, .int v_isNarrowBelow, .int v_isEven, .long v_number, .int v_power])), (h_v_rest, .inr (0, [.ref h_v_rest_limbs, .int v_rest_size])), (h_v_rest_limbs, .inl (cI, n_v_rest_limbs, .inl v_rest_limbs_a)), (h_v_unit, .inr (0, [.ref h_v_unit_limbs, .int v_unit_size])), (h_v_unit_limbs, .inl (cI, n_v_unit_limbs, .inl v_unit_limbs_a)), (h_v_halfGap, .inr (0, [.ref h_v_halfGap_limbs, .int v_halfGap_size])), (h_v_halfGap_limbs, .inl (cI, n_v_halfGap_limbs, .inl v_halfGap_limbs_a)), (h_v_sum, .inr (0, [.ref h_v_sum_limbs, .int v_sum_size])), (h_v_sum_limbs, .inl (cI, n_v_sum_limbs, .inl v_sum_limbs_a))] H → va_D A [(h_v, .inr (5, [.ref h_v_rest, .ref h_v_unit, .ref h_v_halfGap, .ref h_v_sum, .int v_isNarrowBelow, .int v_isEven, .long v_number, .int v_power])), (h_v_rest, .inr (0, [.ref h_v_rest_limbs, .int v_rest_size])), (h_v_rest_limbs, .inl (cI, n_v_rest_limbs, .inl v_rest_limbs_a)), (h_v_unit, .inr (0, [.ref h_v_unit_limbs, .int v_unit_size])), (h_v_unit_limbs, .inl (cI, n_v_unit_limbs, .inl v_unit_limbs_a)), (h_v_halfGap, .inr (0, [.ref h_v_halfGap_limbs, .int v_halfGap_size])), (h_v_halfGap_limbs, .inl (cI, n_v_halfGap_limbs, .inl v_halfGap_limbs_a)), (h_v_sum, .inr (0, [.ref h_v_sum_limbs, .int v_sum_size])), (h_v_sum_limbs, .inl (cI, n_v_sum_limbs, .inl v_sum_limbs_a))] → va_S A s.heap H locs → self59 y6 y7 y8 v_isNarrowBelow v_isEven v_number v_power v_rest_size v_rest_limbs_a v_unit_size v_unit_limbs_a v_halfGap_size v_halfGap_limbs_a v_sum_size v_sum_limbs_a = some u → W p l e (headSpec ws_Sho_find rm_Sho_find).room s m [.ref h_v, .long x1, .ref (adF x3)].toArray below meth c H locs 0 0 Qq (F0 m 59 ls [])) → ∀ (y8 : Int32) (v_isNarrowBelow : Int32) (v_isEven : Int32) (v_number : Int64) (v_power : Int32) (v_rest_size : Int32) (v_rest_limbs_a : Nat → Int32) (v_unit_size : Int32) (v_unit_limbs_a : Nat → Int32) (v_halfGap_size : Int32) (v_halfGap_limbs_a : Nat → Int32) (v_sum_size : Int32) (v_sum_limbs_a : Nat → Int32) (ls : Array Slot) (H : Heap) (locs : List Loc), lv_has ls 9 [(0, .ref h_v), (8, .int y8)] → va_P (dC, dI) vwCl [(h_v, .inr (5, [.ref h_v_rest, .ref h_v_unit, .ref h_v_halfGap, .ref h_v_sum, .int v_isNarrowBelow, .int v_isEven, .long v_number, .int v_power])), (h_v_rest, .inr (0, [.ref h_v_rest_limbs, .int v_rest_size])), (h_v_rest_limbs, .inl (cI, n_v_rest_limbs, .inl v_rest_limbs_a)), (h_v_unit, .inr (0, [.ref h_v_unit_limbs, .int v_unit_size])), (h_v_unit_limbs, .inl (cI, n_v_unit_limbs, .inl v_unit_limbs_a)), (h_v_halfGap, .inr (0, [.ref h_v_halfGap_limbs, .int v_halfGap_size])), (h_v_halfGap_limbs, .inl (cI, n_v_halfGap_limbs, .inl v_halfGap_limbs_a)), (h_v_sum, .inr (0, [.ref h_v_sum_limbs, .int v_sum_size])), (h_v_sum_limbs, .inl (cI, n_v_sum_limbs, .inl v_sum_limbs_a))] H → va_D A [(h_v, .inr (5, [.ref h_v_rest, .ref h_v_unit, .ref h_v_halfGap, .ref h_v_sum, .int v_isNarrowBelow, .int v_isEven, .long v_number, .int v_power])), (h_v_rest, .inr (0, [.ref h_v_rest_limbs, .int v_rest_size])), (h_v_rest_limbs, .inl (cI, n_v_rest_limbs, .inl v_rest_limbs_a)), (h_v_unit, .inr (0, [.ref h_v_unit_limbs, .int v_unit_size])), (h_v_unit_limbs, .inl (cI, n_v_unit_limbs, .inl v_unit_limbs_a)), (h_v_halfGap, .inr (0, [.ref h_v_halfGap_limbs, .int v_halfGap_size])), (h_v_halfGap_limbs, .inl (cI, n_v_halfGap_limbs, .inl v_halfGap_limbs_a)), (h_v_sum, .inr (0, [.ref h_v_sum_limbs, .int v_sum_size])), (h_v_sum_limbs, .inl (cI, n_v_sum_limbs, .inl v_sum_limbs_a))] → va_S A s.heap H locs → f_Sho_find_121 fu n_v_rest_limbs n_v_unit_limbs n_v_halfGap_limbs n_v_sum_limbs x1 x3 self59 y8 v_isNarrowBelow v_isEven v_number v_power v_rest_size v_rest_limbs_a v_unit_size v_unit_limbs_a v_halfGap_size v_halfGap_limbs_a v_sum_size v_sum_limbs_a = some u → W p l e (headSpec ws_Sho_find rm_Sho_find).room s m [.ref h_v, .long x1, .ref (adF x3)].toArray below meth c H locs 0 0 Qq (F0 m 121 ls []) := by
    intro self59 hs59
    intro y8 v_isNarrowBelow v_isEven v_number v_power v_rest_size v_rest_limbs_a v_unit_size v_unit_limbs_a v_halfGap_size v_halfGap_limbs_a v_sum_size v_sum_limbs_a ls H locs hl hP hD hS hf
    unfold f_Sho_find_121 at hf
    refine lv_iconst (v := 0) hx hb d_Sho_find_121 (by decide) ?_
    exact hL_122 _ hs59 y8 0 v_isNarrowBelow v_isEven v_number v_power v_rest_size v_rest_limbs_a v_unit_size v_unit_limbs_a v_halfGap_size v_halfGap_limbs_a v_sum_size v_sum_limbs_a ls _ _ (lv_sub hl [0, 1] rfl) hP hD hS hf
  have hL_59 : ∀ (n : Nat), ∀ (y6 : Int32) (y7 : Int32) (y8 : Int32) (v_isNarrowBelow : Int32) (v_isEven : Int32) (v_number : Int64) (v_power : Int32) (v_rest_size : Int32) (v_rest_limbs_a : Nat → Int32) (v_unit_size : Int32) (v_unit_limbs_a : Nat → Int32) (v_halfGap_size : Int32) (v_halfGap_limbs_a : Nat → Int32) (v_sum_size : Int32) (v_sum_limbs_a : Nat → Int32) (ls : Array Slot) (H : Heap) (locs : List Loc), lv_has ls 9 [(0, .ref h_v), (6, .int y6), (7, .int y7), (8, .int y8)] → va_P (dC, dI) vwCl [(h_v, .inr (5, [.ref h_v_rest, .ref h_v_unit, .ref h_v_halfGap, .ref h_v_sum, .int v_isNarrowBelow, .int v_isEven, .long v_number, .int v_power])), (h_v_rest, .inr (0, [.ref h_v_rest_limbs, .int v_rest_size])), (h_v_rest_limbs, .inl (cI, n_v_rest_limbs, .inl v_rest_limbs_a)), (h_v_unit, .inr (0, [.ref h_v_unit_limbs, .int v_unit_size])), (h_v_unit_limbs, .inl (cI, n_v_unit_limbs, .inl v_unit_limbs_a)), (h_v_halfGap, .inr (0, [.ref h_v_halfGap_limbs, .int v_halfGap_size])), (h_v_halfGap_limbs, .inl (cI, n_v_halfGap_limbs, .inl v_halfGap_limbs_a)), (h_v_sum, .inr (0, [.ref h_v_sum_limbs, .int v_sum_size])), (h_v_sum_limbs, .inl (cI, n_v_sum_limbs, .inl v_sum_limbs_a))] H → va_D A [(h_v, .inr (5, [.ref h_v_rest, .ref h_v_unit, .ref h_v_halfGap, .ref h_v_sum, .int v_isNarrowBelow, .int v_isEven, .long v_number, .int v_power])), (h_v_rest, .inr (0, [.ref h_v_rest_limbs, .int v_rest_size])), (h_v_rest_limbs, .inl (cI, n_v_rest_limbs, .inl v_rest_limbs_a)), (h_v_unit, .inr (0, [.ref h_v_unit_limbs, .int v_unit_size])), (h_v_unit_limbs, .inl (cI, n_v_unit_limbs, .inl v_unit_limbs_a)), (h_v_halfGap, .inr (0, [.ref h_v_halfGap_limbs, .int v_halfGap_size])), (h_v_halfGap_limbs, .inl (cI, n_v_halfGap_limbs, .inl v_halfGap_limbs_a)), (h_v_sum, .inr (0, [.ref h_v_sum_limbs, .int v_sum_size])), (h_v_sum_limbs, .inl (cI, n_v_sum_limbs, .inl v_sum_limbs_a))] → va_S A s.heap H locs → f_Sho_find_59 fu n_v_rest_limbs n_v_unit_limbs n_v_halfGap_limbs n_v_sum_limbs x1 x3 n y6 y7 y8 v_isNarrowBelow v_isEven v_number v_power v_rest_size v_rest_limbs_a v_unit_size v_unit_limbs_a v_halfGap_size v_halfGap_limbs_a v_sum_size v_sum_limbs_a = some u → W p l e (headSpec ws_Sho_find rm_Sho_find).room s m [.ref h_v, .long x1, .ref (adF x3)].toArray below meth c H locs 0 0 Qq (F0 m 59 ls []) := by
    intro n
    induction n with
    | zero =>
      intro y6 y7 y8 v_isNarrowBelow v_isEven v_number v_power v_rest_size v_rest_limbs_a v_unit_size v_unit_limbs_a v_halfGap_size v_halfGap_limbs_a v_sum_size v_sum_limbs_a ls H locs hl hP hD hS hf
      exact zz_no hf
    | succ n ih =>
      intro y6 y7 y8 v_isNarrowBelow v_isEven v_number v_power v_rest_size v_rest_limbs_a v_unit_size v_unit_limbs_a v_halfGap_size v_halfGap_limbs_a v_sum_size v_sum_limbs_a ls H locs hl hP hD hS hf
      rw [f_Sho_find_59_s] at hf
      refine lv_iload hx hb d_Sho_find_59 (lv_at hl 3 rfl) ?_
      refine lv_bipush (v := 17) hx hb d_Sho_find_61 (by decide) ?_
      refine lv_icmp_gt (tgt := 150) hx hb d_Sho_find_63 (by decide) (fun hc => ?_) (fun hc => ?_)
      · have hf := zz_ifp hc hf
        exact hL_150 y6 y7 v_isNarrowBelow v_isEven v_number v_power v_rest_size v_rest_limbs_a v_unit_size v_unit_limbs_a v_halfGap_size v_halfGap_limbs_a v_sum_size v_sum_limbs_a ls _ _ (lv_sub hl [0, 1, 2] rfl) hP hD hS hf
      · have hf := zz_ifn hc hf
        refine lv_iload hx hb d_Sho_find_66 (lv_at hl 1 rfl) ?_
        refine lv_if_ne (tgt := 150) hx hb d_Sho_find_68 (by decide) (fun hc => ?_) (fun hc => ?_)
        · have hf := zz_ifn hc hf
          exact hL_150 y6 y7 v_isNarrowBelow v_isEven v_number v_power v_rest_size v_rest_limbs_a v_unit_size v_unit_limbs_a v_halfGap_size v_halfGap_limbs_a v_sum_size v_sum_limbs_a ls _ _ (lv_sub hl [0, 1, 2] rfl) hP hD hS hf
        · have hf := zz_ifp hc hf
          refine lv_iload hx hb d_Sho_find_71 (lv_at hl 2 rfl) ?_
          refine lv_if_ne (tgt := 150) hx hb d_Sho_find_73 (by decide) (fun hc => ?_) (fun hc => ?_)
          · have hf := zz_ifn hc hf
            exact hL_150 y6 y7 v_isNarrowBelow v_isEven v_number v_power v_rest_size v_rest_limbs_a v_unit_size v_unit_limbs_a v_halfGap_size v_halfGap_limbs_a v_sum_size v_sum_limbs_a ls _ _ (lv_sub hl [0, 1, 2] rfl) hP hD hS hf
          · have hf := zz_ifp hc hf
            refine lv_aload_n hx hb d_Sho_find_76 rfl (lv_at hl 0 rfl) ?_
            refine lv_aload_n hx hb d_Sho_find_77 rfl (lv_at hl 0 rfl) ?_
            refine va_get (D := (dC, dI)) (ci := 5) (v := .long v_number) (C := R_Sho) (T := T_Sho) (N := 8) hx hb hw in_Sho hown hK hP 0 rfl rfl 6 (by decide) (hw _ wd_131) (fun _ h9 => h9) rfl d_Sho_find_78 ?_
            refine lv_ldc2 (v := 10) hx hb hown (hw _ wd_376) d_Sho_find_81 ?_
            refine lv_lmul hx hb d_Sho_find_84 ?_
            refine lv_aload_n hx hb d_Sho_find_85 rfl (lv_at hl 0 rfl) ?_
            obtain ⟨u_6, hu_6, hf⟩ := zz_bd hf
            refine zz_ci (ws' := [(h_v, .inr (5, [.ref h_v_rest, .ref h_v_unit, .ref h_v_halfGap, .ref h_v_sum, .int v_isNarrowBelow, .int v_isEven, .long v_number, .int v_power])), (h_v_rest, .inr (0, [.ref h_v_rest_limbs, .int u_6.2.1])), (h_v_rest_limbs, .inl (cI, n_v_rest_limbs, .inl u_6.2.2.1)), (h_v_unit, .inr (0, [.ref h_v_unit_limbs, .int v_unit_size])), (h_v_unit_limbs, .inl (cI, n_v_unit_limbs, .inl v_unit_limbs_a)), (h_v_halfGap, .inr (0, [.ref h_v_halfGap_limbs, .int u_6.2.2.2.1])), (h_v_halfGap_limbs, .inl (cI, n_v_halfGap_limbs, .inl u_6.2.2.2.2)), (h_v_sum, .inr (0, [.ref h_v_sum_limbs, .int v_sum_size])), (h_v_sum_limbs, .inl (cI, n_v_sum_limbs, .inl v_sum_limbs_a))]) (wc := [(h_v, .inr (5, [.ref h_v_rest, .ref h_v_unit, .ref h_v_halfGap, .ref h_v_sum, .int v_isNarrowBelow, .int v_isEven, .long v_number, .int v_power])), (h_v_rest, .inr (0, [.ref h_v_rest_limbs, .int v_rest_size])), (h_v_rest_limbs, .inl (cI, n_v_rest_limbs, .inl v_rest_limbs_a)), (h_v_unit, .inr (0, [.ref h_v_unit_limbs, .int v_unit_size])), (h_v_unit_limbs, .inl (cI, n_v_unit_limbs, .inl v_unit_limbs_a)), (h_v_halfGap, .inr (0, [.ref h_v_halfGap_limbs, .int v_halfGap_size])), (h_v_halfGap_limbs, .inl (cI, n_v_halfGap_limbs, .inl v_halfGap_limbs_a))]) (w' := [(h_v, .inr (5, [.ref h_v_rest, .ref h_v_unit, .ref h_v_halfGap, .ref h_v_sum, .int v_isNarrowBelow, .int v_isEven, .long v_number, .int v_power])), (h_v_rest, .inr (0, [.ref h_v_rest_limbs, .int u_6.2.1])), (h_v_rest_limbs, .inl (cI, n_v_rest_limbs, .inl u_6.2.2.1)), (h_v_unit, .inr (0, [.ref h_v_unit_limbs, .int v_unit_size])), (h_v_unit_limbs, .inl (cI, n_v_unit_limbs, .inl v_unit_limbs_a)), (h_v_halfGap, .inr (0, [.ref h_v_halfGap_limbs, .int u_6.2.2.2.1])), (h_v_halfGap_limbs, .inl (cI, n_v_halfGap_limbs, .inl u_6.2.2.2.2))]) hP hD hS hA [0, 1, 2, 3, 4, 5, 6] [7, 8] [2, 3, 4, 5, 6, 7, 8, 0, 1] rfl rfl (by decide) (by decide) rfl (by decide) (va_runV (As := []) (rest := [.long (v_number * 10), .ref h_v]) ⟨hx, hb, hml, hown, hw⟩ (c_Sho_nextDigit l dC dI cI cC cB cJ fu _ h_v h_v_rest h_v_rest_limbs h_v_unit h_v_unit_limbs h_v_halfGap h_v_halfGap_limbs h_v_sum n_v_rest_limbs n_v_unit_limbs n_v_halfGap_limbs v_isNarrowBelow v_isEven v_number v_power v_rest_size v_rest_limbs_a v_unit_size v_unit_limbs_a v_halfGap_size v_halfGap_limbs_a u_6 hu_6) (cwV 0 hw (zg_V wd_377 wd_379 we_0_7 wd_6 wd_380) rfl rfl rfl hd_Sho_nextDigit ⟨Nat.le_of_ble_eq_true rfl, Nat.le_of_ble_eq_true rfl⟩) (zz_preV zz_TE (va_recv (q0 := 0) (ci := 5) hK hP rfl rfl) hP hD hK hS hA trivial [0, 1, 2, 3, 4, 5, 6] rfl (by decide)) rfl rfl hl.1 rfl (lv_room (Nat.le_of_ble_eq_true rfl)) d_Sho_find_86 ⟨Nat.zero_le _, Nat.zero_le _⟩) (fun H locs hP hD hS => ?_)
            refine lv_i2l hx hb d_Sho_find_89 rfl ?_
            refine lv_ladd hx hb d_Sho_find_90 ?_
            refine va_put (D := (dC, dI)) (ci := 5) (v := .long ((v_number * 10) + u_6.1.toInt64)) (ty := .long) (C := R_Sho) (T := T_Sho) (N := 8) hx hb hw in_Sho ty_Sho tyok_Sho nm_Sho hown hK hP hD hS 0 rfl rfl 6 (by decide) (hw _ wd_131) (fun _ h9 => h9) rfl (tyok_Sho 6 (by decide)) rfl rfl (Nat.le_of_ble_eq_true rfl) d_Sho_find_91 (fun H locs hP hD hS => ?_)
            have hP : va_P (dC, dI) vwCl [(h_v, .inr (5, [.ref h_v_rest, .ref h_v_unit, .ref h_v_halfGap, .ref h_v_sum, .int v_isNarrowBelow, .int v_isEven, .long ((v_number * 10) + u_6.1.toInt64), .int v_power])), (h_v_rest, .inr (0, [.ref h_v_rest_limbs, .int u_6.2.1])), (h_v_rest_limbs, .inl (cI, n_v_rest_limbs, .inl u_6.2.2.1)), (h_v_unit, .inr (0, [.ref h_v_unit_limbs, .int v_unit_size])), (h_v_unit_limbs, .inl (cI, n_v_unit_limbs, .inl v_unit_limbs_a)), (h_v_halfGap, .inr (0, [.ref h_v_halfGap_limbs, .int u_6.2.2.2.1])), (h_v_halfGap_limbs, .inl (cI, n_v_halfGap_limbs, .inl u_6.2.2.2.2)), (h_v_sum, .inr (0, [.ref h_v_sum_limbs, .int v_sum_size])), (h_v_sum_limbs, .inl (cI, n_v_sum_limbs, .inl v_sum_limbs_a))] H := hP
            have hD : va_D A [(h_v, .inr (5, [.ref h_v_rest, .ref h_v_unit, .ref h_v_halfGap, .ref h_v_sum, .int v_isNarrowBelow, .int v_isEven, .long ((v_number * 10) + u_6.1.toInt64), .int v_power])), (h_v_rest, .inr (0, [.ref h_v_rest_limbs, .int u_6.2.1])), (h_v_rest_limbs, .inl (cI, n_v_rest_limbs, .inl u_6.2.2.1)), (h_v_unit, .inr (0, [.ref h_v_unit_limbs, .int v_unit_size])), (h_v_unit_limbs, .inl (cI, n_v_unit_limbs, .inl v_unit_limbs_a)), (h_v_halfGap, .inr (0, [.ref h_v_halfGap_limbs, .int u_6.2.2.2.1])), (h_v_halfGap_limbs, .inl (cI, n_v_halfGap_limbs, .inl u_6.2.2.2.2)), (h_v_sum, .inr (0, [.ref h_v_sum_limbs, .int v_sum_size])), (h_v_sum_limbs, .inl (cI, n_v_sum_limbs, .inl v_sum_limbs_a))] := hD
            refine lv_aload_n hx hb d_Sho_find_94 rfl (lv_at hl 0 rfl) ?_
            refine lv_dup hx hb d_Sho_find_95 rfl ?_
            refine va_get (D := (dC, dI)) (ci := 5) (v := .int v_power) (C := R_Sho) (T := T_Sho) (N := 8) hx hb hw in_Sho hown hK hP 0 rfl rfl 7 (by decide) (hw _ wd_133) (fun _ h9 => h9) rfl d_Sho_find_96 ?_
            refine lv_iconst (v := 1) hx hb d_Sho_find_99 (by decide) ?_
            refine lv_isub hx hb d_Sho_find_100 ?_
            refine va_put (D := (dC, dI)) (ci := 5) (v := .int (v_power - 1)) (ty := .int) (C := R_Sho) (T := T_Sho) (N := 8) hx hb hw in_Sho ty_Sho tyok_Sho nm_Sho hown hK hP hD hS 0 rfl rfl 7 (by decide) (hw _ wd_133) (fun _ h9 => h9) rfl (tyok_Sho 7 (by decide)) rfl rfl (Nat.le_of_ble_eq_true rfl) d_Sho_find_101 (fun H locs hP hD hS => ?_)
            have hP : va_P (dC, dI) vwCl [(h_v, .inr (5, [.ref h_v_rest, .ref h_v_unit, .ref h_v_halfGap, .ref h_v_sum, .int v_isNarrowBelow, .int v_isEven, .long ((v_number * 10) + u_6.1.toInt64), .int (v_power - 1)])), (h_v_rest, .inr (0, [.ref h_v_rest_limbs, .int u_6.2.1])), (h_v_rest_limbs, .inl (cI, n_v_rest_limbs, .inl u_6.2.2.1)), (h_v_unit, .inr (0, [.ref h_v_unit_limbs, .int v_unit_size])), (h_v_unit_limbs, .inl (cI, n_v_unit_limbs, .inl v_unit_limbs_a)), (h_v_halfGap, .inr (0, [.ref h_v_halfGap_limbs, .int u_6.2.2.2.1])), (h_v_halfGap_limbs, .inl (cI, n_v_halfGap_limbs, .inl u_6.2.2.2.2)), (h_v_sum, .inr (0, [.ref h_v_sum_limbs, .int v_sum_size])), (h_v_sum_limbs, .inl (cI, n_v_sum_limbs, .inl v_sum_limbs_a))] H := hP
            have hD : va_D A [(h_v, .inr (5, [.ref h_v_rest, .ref h_v_unit, .ref h_v_halfGap, .ref h_v_sum, .int v_isNarrowBelow, .int v_isEven, .long ((v_number * 10) + u_6.1.toInt64), .int (v_power - 1)])), (h_v_rest, .inr (0, [.ref h_v_rest_limbs, .int u_6.2.1])), (h_v_rest_limbs, .inl (cI, n_v_rest_limbs, .inl u_6.2.2.1)), (h_v_unit, .inr (0, [.ref h_v_unit_limbs, .int v_unit_size])), (h_v_unit_limbs, .inl (cI, n_v_unit_limbs, .inl v_unit_limbs_a)), (h_v_halfGap, .inr (0, [.ref h_v_halfGap_limbs, .int u_6.2.2.2.1])), (h_v_halfGap_limbs, .inl (cI, n_v_halfGap_limbs, .inl u_6.2.2.2.2)), (h_v_sum, .inr (0, [.ref h_v_sum_limbs, .int v_sum_size])), (h_v_sum_limbs, .inl (cI, n_v_sum_limbs, .inl v_sum_limbs_a))] := hD
            refine lv_iload hx hb d_Sho_find_104 (lv_at hl 3 rfl) ?_
            refine lv_iconst (v := 2) hx hb d_Sho_find_106 (by decide) ?_
            refine lv_icmp_lt (tgt := 121) hx hb d_Sho_find_107 (by decide) (fun hc => ?_) (fun hc => ?_)
            · have hf := zz_ifp hc hf
              exact hL_121 _ ih y8 v_isNarrowBelow v_isEven ((v_number * 10) + u_6.1.toInt64) (v_power - 1) u_6.2.1 u_6.2.2.1 v_unit_size v_unit_limbs_a u_6.2.2.2.1 u_6.2.2.2.2 v_sum_size v_sum_limbs_a ls _ _ (lv_sub hl [0, 3] rfl) hP hD hS hf
            · have hf := zz_ifn hc hf
              refine lv_aload_n hx hb d_Sho_find_110 rfl (lv_at hl 0 rfl) ?_
              obtain ⟨u_8, hu_8, hf⟩ := zz_bd hf
              refine zz_ci (ws' := [(h_v, .inr (5, [.ref h_v_rest, .ref h_v_unit, .ref h_v_halfGap, .ref h_v_sum, .int v_isNarrowBelow, .int v_isEven, .long ((v_number * 10) + u_6.1.toInt64), .int (v_power - 1)])), (h_v_rest, .inr (0, [.ref h_v_rest_limbs, .int u_6.2.1])), (h_v_rest_limbs, .inl (cI, n_v_rest_limbs, .inl u_6.2.2.1)), (h_v_unit, .inr (0, [.ref h_v_unit_limbs, .int v_unit_size])), (h_v_unit_limbs, .inl (cI, n_v_unit_limbs, .inl v_unit_limbs_a)), (h_v_halfGap, .inr (0, [.ref h_v_halfGap_limbs, .int u_6.2.2.2.1])), (h_v_halfGap_limbs, .inl (cI, n_v_halfGap_limbs, .inl u_6.2.2.2.2)), (h_v_sum, .inr (0, [.ref h_v_sum_limbs, .int v_sum_size])), (h_v_sum_limbs, .inl (cI, n_v_sum_limbs, .inl v_sum_limbs_a))]) (wc := [(h_v, .inr (5, [.ref h_v_rest, .ref h_v_unit, .ref h_v_halfGap, .ref h_v_sum, .int v_isNarrowBelow, .int v_isEven, .long ((v_number * 10) + u_6.1.toInt64), .int (v_power - 1)])), (h_v_rest, .inr (0, [.ref h_v_rest_limbs, .int u_6.2.1])), (h_v_rest_limbs, .inl (cI, n_v_rest_limbs, .inl u_6.2.2.1)), (h_v_halfGap, .inr (0, [.ref h_v_halfGap_limbs, .int u_6.2.2.2.1])), (h_v_halfGap_limbs, .inl (cI, n_v_halfGap_limbs, .inl u_6.2.2.2.2))]) (w' := [(h_v, .inr (5, [.ref h_v_rest, .ref h_v_unit, .ref h_v_halfGap, .ref h_v_sum, .int v_isNarrowBelow, .int v_isEven, .long ((v_number * 10) + u_6.1.toInt64), .int (v_power - 1)])), (h_v_rest, .inr (0, [.ref h_v_rest_limbs, .int u_6.2.1])), (h_v_rest_limbs, .inl (cI, n_v_rest_limbs, .inl u_6.2.2.1)), (h_v_halfGap, .inr (0, [.ref h_v_halfGap_limbs, .int u_6.2.2.2.1])), (h_v_halfGap_limbs, .inl (cI, n_v_halfGap_limbs, .inl u_6.2.2.2.2))]) hP hD hS hA [0, 1, 2, 5, 6] [3, 4, 7, 8] [4, 5, 6, 0, 1, 7, 8, 2, 3] rfl rfl (by decide) (by decide) rfl (by decide) (va_runV (As := []) (rest := []) ⟨hx, hb, hml, hown, hw⟩ (c_Sho_isReadBelow l dC dI cI cC cB cJ fu _ h_v h_v_rest h_v_rest_limbs h_v_halfGap h_v_halfGap_limbs h_v_unit h_v_sum n_v_rest_limbs n_v_halfGap_limbs v_isNarrowBelow v_isEven ((v_number * 10) + u_6.1.toInt64) (v_power - 1) u_6.2.1 u_6.2.2.1 u_6.2.2.2.1 u_6.2.2.2.2 u_8 hu_8) (cwV 0 hw (zg_V wd_385 wd_387 we_0_8 wd_6 wd_388) rfl rfl rfl hd_Sho_isReadBelow ⟨Nat.le_of_ble_eq_true rfl, Nat.le_of_ble_eq_true rfl⟩) (zz_preV zz_TE (va_recv (q0 := 0) (ci := 5) hK hP rfl rfl) hP hD hK hS hA trivial [0, 1, 2, 5, 6] rfl (by decide)) rfl rfl hl.1 rfl (lv_room (Nat.le_of_ble_eq_true rfl)) d_Sho_find_111 ⟨Nat.zero_le _, Nat.zero_le _⟩) (fun H locs hP hD hS => ?_)
              refine lv_if_eq (tgt := 121) hx hb d_Sho_find_114 (by decide) (fun hc => ?_) (fun hc => ?_)
              · have hf := zz_ifp hc hf
                exact hL_121 _ ih y8 v_isNarrowBelow v_isEven ((v_number * 10) + u_6.1.toInt64) (v_power - 1) u_6.2.1 u_6.2.2.1 v_unit_size v_unit_limbs_a u_6.2.2.2.1 u_6.2.2.2.2 v_sum_size v_sum_limbs_a ls _ _ (lv_sub hl [0, 3] rfl) hP hD hS hf
              · have hf := zz_ifn hc hf
                refine lv_iconst (v := 1) hx hb d_Sho_find_117 (by decide) ?_
                refine lv_goto (tgt := 122) hx hb d_Sho_find_118 (by decide) ?_
                exact hL_122 _ ih y8 1 v_isNarrowBelow v_isEven ((v_number * 10) + u_6.1.toInt64) (v_power - 1) u_6.2.1 u_6.2.2.1 v_unit_size v_unit_limbs_a u_6.2.2.2.1 u_6.2.2.2.2 v_sum_size v_sum_limbs_a ls _ _ (lv_sub hl [0, 3] rfl) hP hD hS hf
  have hL_31 : ∀ (y4 : Int64) (k1 : Int32) (v_isNarrowBelow : Int32) (v_isEven : Int32) (v_number : Int64) (v_power : Int32) (v_rest_size : Int32) (v_rest_limbs_a : Nat → Int32) (v_unit_size : Int32) (v_unit_limbs_a : Nat → Int32) (v_halfGap_size : Int32) (v_halfGap_limbs_a : Nat → Int32) (v_sum_size : Int32) (v_sum_limbs_a : Nat → Int32) (ls : Array Slot) (H : Heap) (locs : List Loc), lv_has ls 9 [(0, .ref h_v), (1, .long x1), (3, .ref (adF x3)), (4, .long y4)] → va_P (dC, dI) vwCl [(h_v, .inr (5, [.ref h_v_rest, .ref h_v_unit, .ref h_v_halfGap, .ref h_v_sum, .int v_isNarrowBelow, .int v_isEven, .long v_number, .int v_power])), (h_v_rest, .inr (0, [.ref h_v_rest_limbs, .int v_rest_size])), (h_v_rest_limbs, .inl (cI, n_v_rest_limbs, .inl v_rest_limbs_a)), (h_v_unit, .inr (0, [.ref h_v_unit_limbs, .int v_unit_size])), (h_v_unit_limbs, .inl (cI, n_v_unit_limbs, .inl v_unit_limbs_a)), (h_v_halfGap, .inr (0, [.ref h_v_halfGap_limbs, .int v_halfGap_size])), (h_v_halfGap_limbs, .inl (cI, n_v_halfGap_limbs, .inl v_halfGap_limbs_a)), (h_v_sum, .inr (0, [.ref h_v_sum_limbs, .int v_sum_size])), (h_v_sum_limbs, .inl (cI, n_v_sum_limbs, .inl v_sum_limbs_a))] H → va_D A [(h_v, .inr (5, [.ref h_v_rest, .ref h_v_unit, .ref h_v_halfGap, .ref h_v_sum, .int v_isNarrowBelow, .int v_isEven, .long v_number, .int v_power])), (h_v_rest, .inr (0, [.ref h_v_rest_limbs, .int v_rest_size])), (h_v_rest_limbs, .inl (cI, n_v_rest_limbs, .inl v_rest_limbs_a)), (h_v_unit, .inr (0, [.ref h_v_unit_limbs, .int v_unit_size])), (h_v_unit_limbs, .inl (cI, n_v_unit_limbs, .inl v_unit_limbs_a)), (h_v_halfGap, .inr (0, [.ref h_v_halfGap_limbs, .int v_halfGap_size])), (h_v_halfGap_limbs, .inl (cI, n_v_halfGap_limbs, .inl v_halfGap_limbs_a)), (h_v_sum, .inr (0, [.ref h_v_sum_limbs, .int v_sum_size])), (h_v_sum_limbs, .inl (cI, n_v_sum_limbs, .inl v_sum_limbs_a))] → va_S A s.heap H locs → f_Sho_find_31 fu n_v_rest_limbs n_v_unit_limbs n_v_halfGap_limbs n_v_sum_limbs x1 x3 y4 k1 v_isNarrowBelow v_isEven v_number v_power v_rest_size v_rest_limbs_a v_unit_size v_unit_limbs_a v_halfGap_size v_halfGap_limbs_a v_sum_size v_sum_limbs_a = some u → W p l e (headSpec ws_Sho_find rm_Sho_find).room s m [.ref h_v, .long x1, .ref (adF x3)].toArray below meth c H locs 0 0 Qq (F0 m 31 ls [.int k1, .ref h_v]) := by
    intro y4 k1 v_isNarrowBelow v_isEven v_number v_power v_rest_size v_rest_limbs_a v_unit_size v_unit_limbs_a v_halfGap_size v_halfGap_limbs_a v_sum_size v_sum_limbs_a ls H locs hl hP hD hS hf
    unfold f_Sho_find_31 at hf
    obtain ⟨hn, hf⟩ := zz_gd hf
    refine va_put (D := (dC, dI)) (ci := 5) (v := .int k1) (ty := .boolean) (C := R_Sho) (T := T_Sho) (N := 8) hx hb hw in_Sho ty_Sho tyok_Sho nm_Sho hown hK hP hD hS 0 rfl rfl 5 (by decide) (hw _ wd_130) (fun _ h9 => h9) rfl (tyok_Sho 5 (by decide)) (zz_nar_boolean hn) (zz_fit_boolean hn) (Nat.le_of_ble_eq_true rfl) d_Sho_find_31 (fun H locs hP hD hS => ?_)
    have hP : va_P (dC, dI) vwCl [(h_v, .inr (5, [.ref h_v_rest, .ref h_v_unit, .ref h_v_halfGap, .ref h_v_sum, .int v_isNarrowBelow, .int k1, .long v_number, .int v_power])), (h_v_rest, .inr (0, [.ref h_v_rest_limbs, .int v_rest_size])), (h_v_rest_limbs, .inl (cI, n_v_rest_limbs, .inl v_rest_limbs_a)), (h_v_unit, .inr (0, [.ref h_v_unit_limbs, .int v_unit_size])), (h_v_unit_limbs, .inl (cI, n_v_unit_limbs, .inl v_unit_limbs_a)), (h_v_halfGap, .inr (0, [.ref h_v_halfGap_limbs, .int v_halfGap_size])), (h_v_halfGap_limbs, .inl (cI, n_v_halfGap_limbs, .inl v_halfGap_limbs_a)), (h_v_sum, .inr (0, [.ref h_v_sum_limbs, .int v_sum_size])), (h_v_sum_limbs, .inl (cI, n_v_sum_limbs, .inl v_sum_limbs_a))] H := hP
    have hD : va_D A [(h_v, .inr (5, [.ref h_v_rest, .ref h_v_unit, .ref h_v_halfGap, .ref h_v_sum, .int v_isNarrowBelow, .int k1, .long v_number, .int v_power])), (h_v_rest, .inr (0, [.ref h_v_rest_limbs, .int v_rest_size])), (h_v_rest_limbs, .inl (cI, n_v_rest_limbs, .inl v_rest_limbs_a)), (h_v_unit, .inr (0, [.ref h_v_unit_limbs, .int v_unit_size])), (h_v_unit_limbs, .inl (cI, n_v_unit_limbs, .inl v_unit_limbs_a)), (h_v_halfGap, .inr (0, [.ref h_v_halfGap_limbs, .int v_halfGap_size])), (h_v_halfGap_limbs, .inl (cI, n_v_halfGap_limbs, .inl v_halfGap_limbs_a)), (h_v_sum, .inr (0, [.ref h_v_sum_limbs, .int v_sum_size])), (h_v_sum_limbs, .inl (cI, n_v_sum_limbs, .inl v_sum_limbs_a))] := hD
    refine lv_aload_n hx hb d_Sho_find_34 rfl (lv_at hl 0 rfl) ?_
    refine lv_lload hx hb d_Sho_find_35 (lv_at hl 3 rfl) ?_
    refine lv_aload_n hx hb d_Sho_find_37 rfl (lv_at hl 2 rfl) ?_
    refine lv_lload_n hx hb d_Sho_find_38 rfl (lv_at hl 1 rfl) ?_
    obtain ⟨u_3, hu_3, hf⟩ := zz_bd hf
    refine zz_ci (ws' := [(h_v, .inr (5, [.ref h_v_rest, .ref h_v_unit, .ref h_v_halfGap, .ref h_v_sum, .int v_isNarrowBelow, .int k1, .long v_number, .int v_power])), (h_v_rest, .inr (0, [.ref h_v_rest_limbs, .int v_rest_size])), (h_v_rest_limbs, .inl (cI, n_v_rest_limbs, .inl v_rest_limbs_a)), (h_v_unit, .inr (0, [.ref h_v_unit_limbs, .int v_unit_size])), (h_v_unit_limbs, .inl (cI, n_v_unit_limbs, .inl v_unit_limbs_a)), (h_v_halfGap, .inr (0, [.ref h_v_halfGap_limbs, .int v_halfGap_size])), (h_v_halfGap_limbs, .inl (cI, n_v_halfGap_limbs, .inl v_halfGap_limbs_a)), (h_v_sum, .inr (0, [.ref h_v_sum_limbs, .int v_sum_size])), (h_v_sum_limbs, .inl (cI, n_v_sum_limbs, .inl v_sum_limbs_a))]) (wc := []) (w' := []) hP hD hS hA [] [0, 1, 2, 3, 4, 5, 6, 7, 8] [0, 1, 2, 3, 4, 5, 6, 7, 8] rfl rfl (by decide) (by decide) rfl (by decide) (va_runV (As := [.long x1]) (rest := [.long y4, .ref h_v]) ⟨hx, hb, hml, hown, hw⟩ (c_Fmt_powerOf l dC dI cI cC cB cJ adF tp adK adV _ x3 x1 he_x3 u_3 hu_3) (cwV 1 hw (zg_V wd_311 wd_312 wd_313 wd_15 wd_314) rfl rfl rfl hd_Fmt_powerOf ⟨Nat.le_of_ble_eq_true rfl, Nat.le_of_ble_eq_true rfl⟩) (zz_preV (zx_ok adF tp adK adV) (va_recvE hX.1 he_x3 hS) hP hD hK hS hA hX [] rfl (by decide)) rfl rfl hl.1 rfl (lv_room (Nat.le_of_ble_eq_true rfl)) d_Sho_find_39 ⟨Nat.zero_le _, Nat.zero_le _⟩) (fun H locs hP hD hS => ?_)
    obtain ⟨u_4, hu_4, hf⟩ := zz_bd hf
    refine zz_cv (ws' := [(h_v, .inr (5, [.ref h_v_rest, .ref h_v_unit, .ref h_v_halfGap, .ref h_v_sum, .int v_isNarrowBelow, .int k1, .long v_number, .int u_4.1])), (h_v_rest, .inr (0, [.ref h_v_rest_limbs, .int u_4.2.1])), (h_v_rest_limbs, .inl (cI, n_v_rest_limbs, .inl u_4.2.2.1)), (h_v_unit, .inr (0, [.ref h_v_unit_limbs, .int u_4.2.2.2.1])), (h_v_unit_limbs, .inl (cI, n_v_unit_limbs, .inl u_4.2.2.2.2.1)), (h_v_halfGap, .inr (0, [.ref h_v_halfGap_limbs, .int u_4.2.2.2.2.2.1])), (h_v_halfGap_limbs, .inl (cI, n_v_halfGap_limbs, .inl u_4.2.2.2.2.2.2)), (h_v_sum, .inr (0, [.ref h_v_sum_limbs, .int v_sum_size])), (h_v_sum_limbs, .inl (cI, n_v_sum_limbs, .inl v_sum_limbs_a))]) (wc := [(h_v, .inr (5, [.ref h_v_rest, .ref h_v_unit, .ref h_v_halfGap, .ref h_v_sum, .int v_isNarrowBelow, .int k1, .long v_number, .int v_power])), (h_v_rest, .inr (0, [.ref h_v_rest_limbs, .int v_rest_size])), (h_v_rest_limbs, .inl (cI, n_v_rest_limbs, .inl v_rest_limbs_a)), (h_v_unit, .inr (0, [.ref h_v_unit_limbs, .int v_unit_size])), (h_v_unit_limbs, .inl (cI, n_v_unit_limbs, .inl v_unit_limbs_a)), (h_v_halfGap, .inr (0, [.ref h_v_halfGap_limbs, .int v_halfGap_size])), (h_v_halfGap_limbs, .inl (cI, n_v_halfGap_limbs, .inl v_halfGap_limbs_a))]) (w' := [(h_v, .inr (5, [.ref h_v_rest, .ref h_v_unit, .ref h_v_halfGap, .ref h_v_sum, .int v_isNarrowBelow, .int k1, .long v_number, .int u_4.1])), (h_v_rest, .inr (0, [.ref h_v_rest_limbs, .int u_4.2.1])), (h_v_rest_limbs, .inl (cI, n_v_rest_limbs, .inl u_4.2.2.1)), (h_v_unit, .inr (0, [.ref h_v_unit_limbs, .int u_4.2.2.2.1])), (h_v_unit_limbs, .inl (cI, n_v_unit_limbs, .inl u_4.2.2.2.2.1)), (h_v_halfGap, .inr (0, [.ref h_v_halfGap_limbs, .int u_4.2.2.2.2.2.1])), (h_v_halfGap_limbs, .inl (cI, n_v_halfGap_limbs, .inl u_4.2.2.2.2.2.2))]) hP hD hS hA [0, 1, 2, 3, 4, 5, 6] [7, 8] [2, 3, 4, 5, 6, 7, 8, 0, 1] rfl rfl (by decide) (by decide) rfl (by decide) (va_runV (As := [.long y4, .int u_3]) (rest := []) ⟨hx, hb, hml, hown, hw⟩ (c_Sho_start l dC dI cI cC cB cJ adF tp adK adV fu _ h_v h_v_rest h_v_rest_limbs h_v_unit h_v_unit_limbs h_v_halfGap h_v_halfGap_limbs h_v_sum n_v_rest_limbs n_v_unit_limbs n_v_halfGap_limbs y4 u_3 v_isNarrowBelow k1 v_number v_power v_rest_size v_rest_limbs_a v_unit_size v_unit_limbs_a v_halfGap_size v_halfGap_limbs_a u_4 hu_4) (cwV 2 hw (zg_V wd_318 wd_320 we_0_3 wd_6 wd_321) rfl rfl rfl hd_Sho_start ⟨Nat.le_of_ble_eq_true rfl, Nat.le_of_ble_eq_true rfl⟩) (zz_preV (zx_ok adF tp adK adV) (va_recv (q0 := 0) (ci := 5) hK hP rfl rfl) hP hD hK hS hA hX [0, 1, 2, 3, 4, 5, 6] rfl (by decide)) rfl rfl hl.1 rfl (lv_room (Nat.le_of_ble_eq_true rfl)) d_Sho_find_42 ⟨Nat.zero_le _, Nat.zero_le _⟩) (fun H locs hP hD hS => ?_)
    refine lv_aload_n hx hb d_Sho_find_45 rfl (lv_at hl 0 rfl) ?_
    refine lv_lconst (v := 0) hx hb d_Sho_find_46 (by decide) ?_
    refine va_put (D := (dC, dI)) (ci := 5) (v := .long 0) (ty := .long) (C := R_Sho) (T := T_Sho) (N := 8) hx hb hw in_Sho ty_Sho tyok_Sho nm_Sho hown hK hP hD hS 0 rfl rfl 6 (by decide) (hw _ wd_131) (fun _ h9 => h9) rfl (tyok_Sho 6 (by decide)) rfl rfl (Nat.le_of_ble_eq_true rfl) d_Sho_find_47 (fun H locs hP hD hS => ?_)
    have hP : va_P (dC, dI) vwCl [(h_v, .inr (5, [.ref h_v_rest, .ref h_v_unit, .ref h_v_halfGap, .ref h_v_sum, .int v_isNarrowBelow, .int k1, .long 0, .int u_4.1])), (h_v_rest, .inr (0, [.ref h_v_rest_limbs, .int u_4.2.1])), (h_v_rest_limbs, .inl (cI, n_v_rest_limbs, .inl u_4.2.2.1)), (h_v_unit, .inr (0, [.ref h_v_unit_limbs, .int u_4.2.2.2.1])), (h_v_unit_limbs, .inl (cI, n_v_unit_limbs, .inl u_4.2.2.2.2.1)), (h_v_halfGap, .inr (0, [.ref h_v_halfGap_limbs, .int u_4.2.2.2.2.2.1])), (h_v_halfGap_limbs, .inl (cI, n_v_halfGap_limbs, .inl u_4.2.2.2.2.2.2)), (h_v_sum, .inr (0, [.ref h_v_sum_limbs, .int v_sum_size])), (h_v_sum_limbs, .inl (cI, n_v_sum_limbs, .inl v_sum_limbs_a))] H := hP
    have hD : va_D A [(h_v, .inr (5, [.ref h_v_rest, .ref h_v_unit, .ref h_v_halfGap, .ref h_v_sum, .int v_isNarrowBelow, .int k1, .long 0, .int u_4.1])), (h_v_rest, .inr (0, [.ref h_v_rest_limbs, .int u_4.2.1])), (h_v_rest_limbs, .inl (cI, n_v_rest_limbs, .inl u_4.2.2.1)), (h_v_unit, .inr (0, [.ref h_v_unit_limbs, .int u_4.2.2.2.1])), (h_v_unit_limbs, .inl (cI, n_v_unit_limbs, .inl u_4.2.2.2.2.1)), (h_v_halfGap, .inr (0, [.ref h_v_halfGap_limbs, .int u_4.2.2.2.2.2.1])), (h_v_halfGap_limbs, .inl (cI, n_v_halfGap_limbs, .inl u_4.2.2.2.2.2.2)), (h_v_sum, .inr (0, [.ref h_v_sum_limbs, .int v_sum_size])), (h_v_sum_limbs, .inl (cI, n_v_sum_limbs, .inl v_sum_limbs_a))] := hD
    refine lv_iconst (v := 0) hx hb d_Sho_find_50 (by decide) ?_
    refine lv_istore hx hb d_Sho_find_51 hl (by decide) rfl (fun ls hl => ?_)
    have hl : lv_has ls 9 [(6, .int 0), (0, .ref h_v), (1, .long x1), (3, .ref (adF x3)), (4, .long y4)] := hl
    refine lv_iconst (v := 0) hx hb d_Sho_find_53 (by decide) ?_
    refine lv_istore hx hb d_Sho_find_54 hl (by decide) rfl (fun ls hl => ?_)
    have hl : lv_has ls 9 [(7, .int 0), (6, .int 0), (0, .ref h_v), (1, .long x1), (3, .ref (adF x3)), (4, .long y4)] := hl
    refine lv_iconst (v := 1) hx hb d_Sho_find_56 (by decide) ?_
    refine lv_istore hx hb d_Sho_find_57 hl (by decide) rfl (fun ls hl => ?_)
    have hl : lv_has ls 9 [(8, .int 1), (7, .int 0), (6, .int 0), (0, .ref h_v), (1, .long x1), (3, .ref (adF x3)), (4, .long y4)] := hl
    exact hL_59 fu 0 0 1 v_isNarrowBelow k1 0 u_4.1 u_4.2.1 u_4.2.2.1 u_4.2.2.2.1 u_4.2.2.2.2.1 u_4.2.2.2.2.2.1 u_4.2.2.2.2.2.2 v_sum_size v_sum_limbs_a ls _ _ (lv_sub hl [3, 2, 1, 0] rfl) hP hD hS hf
  unfold f_Sho_find at hf
  refine lv_aload_n hx hb d_Sho_find_0 rfl (lv_at hl 2 rfl) ?_
  refine lv_lload_n hx hb d_Sho_find_1 rfl (lv_at hl 1 rfl) ?_
  obtain ⟨u_1, hu_1, hf⟩ := zz_bd hf
  refine zz_cl (ws' := [(h_v, .inr (5, [.ref h_v_rest, .ref h_v_unit, .ref h_v_halfGap, .ref h_v_sum, .int v_isNarrowBelow, .int v_isEven, .long v_number, .int v_power])), (h_v_rest, .inr (0, [.ref h_v_rest_limbs, .int v_rest_size])), (h_v_rest_limbs, .inl (cI, n_v_rest_limbs, .inl v_rest_limbs_a)), (h_v_unit, .inr (0, [.ref h_v_unit_limbs, .int v_unit_size])), (h_v_unit_limbs, .inl (cI, n_v_unit_limbs, .inl v_unit_limbs_a)), (h_v_halfGap, .inr (0, [.ref h_v_halfGap_limbs, .int v_halfGap_size])), (h_v_halfGap_limbs, .inl (cI, n_v_halfGap_limbs, .inl v_halfGap_limbs_a)), (h_v_sum, .inr (0, [.ref h_v_sum_limbs, .int v_sum_size])), (h_v_sum_limbs, .inl (cI, n_v_sum_limbs, .inl v_sum_limbs_a))]) (wc := []) (w' := []) hP hD hS hA [] [0, 1, 2, 3, 4, 5, 6, 7, 8] [0, 1, 2, 3, 4, 5, 6, 7, 8] rfl rfl (by decide) (by decide) rfl (by decide) (va_runV (As := [.long x1]) (rest := []) ⟨hx, hb, hml, hown, hw⟩ (c_Fmt_significandOf l dC dI cI cC cB cJ adF tp adK adV _ x3 x1 he_x3 u_1 hu_1) (cwV 1 hw (zg_V wd_299 wd_300 wd_301 wd_15 wd_302) rfl rfl rfl hd_Fmt_significandOf ⟨Nat.le_of_ble_eq_true rfl, Nat.le_of_ble_eq_true rfl⟩) (zz_preV (zx_ok adF tp adK adV) (va_recvE hX.1 he_x3 hS) hP hD hK hS hA hX [] rfl (by decide)) rfl rfl hl.1 rfl (lv_room (Nat.le_of_ble_eq_true rfl)) d_Sho_find_2 ⟨Nat.zero_le _, Nat.zero_le _⟩) (fun H locs hP hD hS => ?_)
  refine lv_lstore hx hb d_Sho_find_5 hl (by decide) rfl (fun ls hl => ?_)
  have hl : lv_has ls 9 [(4, .long u_1), (0, .ref h_v), (1, .long x1), (3, .ref (adF x3))] := hl
  refine lv_aload_n hx hb d_Sho_find_7 rfl (lv_at hl 1 rfl) ?_
  refine lv_aload_n hx hb d_Sho_find_8 rfl (lv_at hl 3 rfl) ?_
  refine lv_lload_n hx hb d_Sho_find_9 rfl (lv_at hl 2 rfl) ?_
  obtain ⟨u_2, hu_2, hf⟩ := zz_bd hf
  refine zz_ci (ws' := [(h_v, .inr (5, [.ref h_v_rest, .ref h_v_unit, .ref h_v_halfGap, .ref h_v_sum, .int v_isNarrowBelow, .int v_isEven, .long v_number, .int v_power])), (h_v_rest, .inr (0, [.ref h_v_rest_limbs, .int v_rest_size])), (h_v_rest_limbs, .inl (cI, n_v_rest_limbs, .inl v_rest_limbs_a)), (h_v_unit, .inr (0, [.ref h_v_unit_limbs, .int v_unit_size])), (h_v_unit_limbs, .inl (cI, n_v_unit_limbs, .inl v_unit_limbs_a)), (h_v_halfGap, .inr (0, [.ref h_v_halfGap_limbs, .int v_halfGap_size])), (h_v_halfGap_limbs, .inl (cI, n_v_halfGap_limbs, .inl v_halfGap_limbs_a)), (h_v_sum, .inr (0, [.ref h_v_sum_limbs, .int v_sum_size])), (h_v_sum_limbs, .inl (cI, n_v_sum_limbs, .inl v_sum_limbs_a))]) (wc := []) (w' := []) hP hD hS hA [] [0, 1, 2, 3, 4, 5, 6, 7, 8] [0, 1, 2, 3, 4, 5, 6, 7, 8] rfl rfl (by decide) (by decide) rfl (by decide) (va_runV (As := [.long x1]) (rest := [.ref h_v]) ⟨hx, hb, hml, hown, hw⟩ (c_Fmt_isNarrowBelow l dC dI cI cC cB cJ adF tp adK adV _ x3 x1 he_x3 u_2 hu_2) (cwV 1 hw (zg_V wd_307 wd_308 wd_309 wd_15 wd_310) rfl rfl rfl hd_Fmt_isNarrowBelow ⟨Nat.le_of_ble_eq_true rfl, Nat.le_of_ble_eq_true rfl⟩) (zz_preV (zx_ok adF tp adK adV) (va_recvE hX.1 he_x3 hS) hP hD hK hS hA hX [] rfl (by decide)) rfl rfl hl.1 rfl (lv_room (Nat.le_of_ble_eq_true rfl)) d_Sho_find_10 ⟨Nat.zero_le _, Nat.zero_le _⟩) (fun H locs hP hD hS => ?_)
  obtain ⟨hn, hf⟩ := zz_gd hf
  refine va_put (D := (dC, dI)) (ci := 5) (v := .int u_2) (ty := .boolean) (C := R_Sho) (T := T_Sho) (N := 8) hx hb hw in_Sho ty_Sho tyok_Sho nm_Sho hown hK hP hD hS 0 rfl rfl 4 (by decide) (hw _ wd_129) (fun _ h9 => h9) rfl (tyok_Sho 4 (by decide)) (zz_nar_boolean hn) (zz_fit_boolean hn) (Nat.le_of_ble_eq_true rfl) d_Sho_find_13 (fun H locs hP hD hS => ?_)
  have hP : va_P (dC, dI) vwCl [(h_v, .inr (5, [.ref h_v_rest, .ref h_v_unit, .ref h_v_halfGap, .ref h_v_sum, .int u_2, .int v_isEven, .long v_number, .int v_power])), (h_v_rest, .inr (0, [.ref h_v_rest_limbs, .int v_rest_size])), (h_v_rest_limbs, .inl (cI, n_v_rest_limbs, .inl v_rest_limbs_a)), (h_v_unit, .inr (0, [.ref h_v_unit_limbs, .int v_unit_size])), (h_v_unit_limbs, .inl (cI, n_v_unit_limbs, .inl v_unit_limbs_a)), (h_v_halfGap, .inr (0, [.ref h_v_halfGap_limbs, .int v_halfGap_size])), (h_v_halfGap_limbs, .inl (cI, n_v_halfGap_limbs, .inl v_halfGap_limbs_a)), (h_v_sum, .inr (0, [.ref h_v_sum_limbs, .int v_sum_size])), (h_v_sum_limbs, .inl (cI, n_v_sum_limbs, .inl v_sum_limbs_a))] H := hP
  have hD : va_D A [(h_v, .inr (5, [.ref h_v_rest, .ref h_v_unit, .ref h_v_halfGap, .ref h_v_sum, .int u_2, .int v_isEven, .long v_number, .int v_power])), (h_v_rest, .inr (0, [.ref h_v_rest_limbs, .int v_rest_size])), (h_v_rest_limbs, .inl (cI, n_v_rest_limbs, .inl v_rest_limbs_a)), (h_v_unit, .inr (0, [.ref h_v_unit_limbs, .int v_unit_size])), (h_v_unit_limbs, .inl (cI, n_v_unit_limbs, .inl v_unit_limbs_a)), (h_v_halfGap, .inr (0, [.ref h_v_halfGap_limbs, .int v_halfGap_size])), (h_v_halfGap_limbs, .inl (cI, n_v_halfGap_limbs, .inl v_halfGap_limbs_a)), (h_v_sum, .inr (0, [.ref h_v_sum_limbs, .int v_sum_size])), (h_v_sum_limbs, .inl (cI, n_v_sum_limbs, .inl v_sum_limbs_a))] := hD
  refine lv_aload_n hx hb d_Sho_find_16 rfl (lv_at hl 1 rfl) ?_
  refine lv_lload hx hb d_Sho_find_17 (lv_at hl 0 rfl) ?_
  refine lv_lconst (v := 1) hx hb d_Sho_find_19 (by decide) ?_
  refine lv_land hx hb d_Sho_find_20 ?_
  refine lv_lconst (v := 0) hx hb d_Sho_find_21 (by decide) ?_
  refine W.lcmp hx hb d_Sho_find_22 ?_
  refine lv_if_ne (tgt := 30) hx hb d_Sho_find_23 (by decide) (fun hc => ?_) (fun hc => ?_)
  · have hf := zz_ifn hc hf
    refine lv_iconst (v := 0) hx hb d_Sho_find_30 (by decide) ?_
    exact hL_31 u_1 0 u_2 v_isEven v_number v_power v_rest_size v_rest_limbs_a v_unit_size v_unit_limbs_a v_halfGap_size v_halfGap_limbs_a v_sum_size v_sum_limbs_a ls _ _ (lv_sub hl [1, 2, 3, 0] rfl) hP hD hS hf
  · have hf := zz_ifp hc hf
    refine lv_iconst (v := 1) hx hb d_Sho_find_26 (by decide) ?_
    refine lv_goto (tgt := 31) hx hb d_Sho_find_27 (by decide) ?_
    exact hL_31 u_1 1 u_2 v_isEven v_number v_power v_rest_size v_rest_limbs_a v_unit_size v_unit_limbs_a v_halfGap_size v_halfGap_limbs_a v_sum_size v_sum_limbs_a ls _ _ (lv_sub hl [1, 2, 3, 0] rfl) hP hD hS hf
