abbrev ws_Mod_lay : List Cond := .code y_Mod_lay prog_10_method_26_code 2 none :: zw
abbrev rm_Mod_lay : Room := { frames := 0, cells := 0, slots := 0, locals := 0 }
theorem hd_Mod_lay : y_Mod_lay.cls = "RealTextModel" ∧ y_Mod_lay.cls ≠ "java/lang/invoke/MethodHandle" ∧ y_Mod_lay.cls ≠ "java/lang/invoke/VarHandle" ∧ (parseMethodDescriptor y_Mod_lay.desc).map (fun d => d.parameters.length) = some 1 := by decide +kernel
theorem d_Mod_lay_0 : decode prog_10_method_26_code 0 = .ok (.aload_n 0, 1) := by decide +kernel
theorem d_Mod_lay_1 : decode prog_10_method_26_code 1 = .ok (.getfield 13, 3) := by decide +kernel
theorem d_Mod_lay_4 : decode prog_10_method_26_code 4 = .ok (.aload_n 0, 1) := by decide +kernel
theorem d_Mod_lay_5 : decode prog_10_method_26_code 5 = .ok (.getfield 168, 3) := by decide +kernel
theorem d_Mod_lay_8 : decode prog_10_method_26_code 8 = .ok (.iload_n 1, 1) := by decide +kernel
theorem d_Mod_lay_9 : decode prog_10_method_26_code 9 = .ok (.iastore, 1) := by decide +kernel
theorem d_Mod_lay_10 : decode prog_10_method_26_code 10 = .ok (.aload_n 0, 1) := by decide +kernel
theorem d_Mod_lay_11 : decode prog_10_method_26_code 11 = .ok (.dup, 1) := by decide +kernel
theorem d_Mod_lay_12 : decode prog_10_method_26_code 12 = .ok (.getfield 168, 3) := by decide +kernel
theorem d_Mod_lay_15 : decode prog_10_method_26_code 15 = .ok (.iconst 1, 1) := by decide +kernel
theorem d_Mod_lay_16 : decode prog_10_method_26_code 16 = .ok (.iadd, 1) := by decide +kernel
theorem d_Mod_lay_17 : decode prog_10_method_26_code 17 = .ok (.putfield 168, 3) := by decide +kernel
theorem d_Mod_lay_20 : decode prog_10_method_26_code 20 = .ok (.return_, 1) := by decide +kernel
def f_Mod_lay (n_v_written : Nat) (x1 : Int32) (v_laid : Int32) (v_written_a : Nat → Int32) : Option (Int32 × (Nat → Int32)) :=
  if zz_in v_laid n_v_written = true then
  some (v_laid + 1, upd v_written_a v_laid.toNatClampNeg x1)
  else none
set_option maxHeartbeats 4000000 in
set_option maxRecDepth 100000 in
theorem c_Mod_lay (l : Launch) (dC : Nat → ClassId) (dI : Nat → Nat → Nat) (cI cC cB cJ : ClassId) (sz : Nat) (h_v : Nat) (h_v_written : Nat) (h_v_text : Nat) (h_v_a : Nat) (h_v_b : Nat) (h_v_five : Nat) (h_v_left : Nat) (h_v_right : Nat) (h_v_part : Nat) (n_v_written : Nat) (x1 : Int32) (v_length : Int32) (v_laid : Int32) (v_gone : Int32) (v_thrown : Int32) (v_were : Int32) (v_none : Int32) (v_beyond : Int32) (v_aMany : Int32) (v_bMany : Int32) (v_fiveMany : Int32) (v_leftMany : Int32) (v_rightMany : Int32) (v_partMany : Int32) (v_twos : Int32) (v_at : Int32) (v_digits : Int32) (v_power : Int32) (v_good : Int32) (v_written_a : Nat → Int32) (u : Int32 × (Nat → Int32)) (hf : f_Mod_lay n_v_written x1 v_laid v_written_a = some u) : Met l y_Mod_lay ws_Mod_lay rm_Mod_lay (zz_P zz_T (dC, dI) vwCl (zz_tys cI cC cB cJ) [.ref h_v, .int x1] [(h_v, .inr (7, [.ref h_v_text, .ref h_v_written, .int v_length, .int v_laid, .int v_gone, .int v_thrown, .int v_were, .int v_none, .int v_beyond, .ref h_v_a, .ref h_v_b, .ref h_v_five, .ref h_v_left, .ref h_v_right, .ref h_v_part, .int v_aMany, .int v_bMany, .int v_fiveMany, .int v_leftMany, .int v_rightMany, .int v_partMany, .int v_twos, .int v_at, .int v_digits, .int v_power, .int v_good])), (h_v_written, .inl (cI, n_v_written, .inl v_written_a))] sz) (zz_Qv (dC, dI) vwCl [(h_v, .inr (7, [.ref h_v_text, .ref h_v_written, .int v_length, .int u.1, .int v_gone, .int v_thrown, .int v_were, .int v_none, .int v_beyond, .ref h_v_a, .ref h_v_b, .ref h_v_five, .ref h_v_left, .ref h_v_right, .ref h_v_part, .int v_aMany, .int v_bMany, .int v_fiveMany, .int v_leftMany, .int v_rightMany, .int v_partMany, .int v_twos, .int v_at, .int v_digits, .int v_power, .int v_good])), (h_v_written, .inl (cI, n_v_written, .inl u.2))] (va_A [(h_v, .inr (7, [.ref h_v_text, .ref h_v_written, .int v_length, .int v_laid, .int v_gone, .int v_thrown, .int v_were, .int v_none, .int v_beyond, .ref h_v_a, .ref h_v_b, .ref h_v_five, .ref h_v_left, .ref h_v_right, .ref h_v_part, .int v_aMany, .int v_bMany, .int v_fiveMany, .int v_leftMany, .int v_rightMany, .int v_partMany, .int v_twos, .int v_at, .int v_digits, .int v_power, .int v_good])), (h_v_written, .inl (cI, n_v_written, .inl v_written_a))] sz)) 0 0 (va_A [(h_v, .inr (7, [.ref h_v_text, .ref h_v_written, .int v_length, .int v_laid, .int v_gone, .int v_thrown, .int v_were, .int v_none, .int v_beyond, .ref h_v_a, .ref h_v_b, .ref h_v_five, .ref h_v_left, .ref h_v_right, .ref h_v_part, .int v_aMany, .int v_bMany, .int v_fiveMany, .int v_leftMany, .int v_rightMany, .int v_partMany, .int v_twos, .int v_at, .int v_digits, .int v_power, .int v_good])), (h_v_written, .inl (cI, n_v_written, .inl v_written_a))] sz) := by
  refine Met.ofW (cc := prog_10_method_26_code) (maxL := 2) (ret := none) (by decide +kernel) rfl ?_
  intro p e s m args below meth c s₁ B hml hv
  obtain ⟨rfl, hsz, hP, hK, hD0, hX⟩ := hv
  have hx := B.exec
  have hb := B.bytes
  have hr := B.returns
  have hts := atoms_spec (ws := ws_Mod_lay) B.pre
  have hw : ∀ w ∈ zw, w.before [.ref h_v, .int x1].toArray s = true := fun w h => hts w (List.mem_cons_of_mem _ h)
  have hown : s.vm.findClass R_Mod = some m.cls := findClass_of_methodNamed B.named
  have hlocks := B.notSynchronized
  subst hsz
  have hD := hD0.self (sz := s.heap.size)
  generalize hAe : va_A [(h_v, .inr (7, [.ref h_v_text, .ref h_v_written, .int v_length, .int v_laid, .int v_gone, .int v_thrown, .int v_were, .int v_none, .int v_beyond, .ref h_v_a, .ref h_v_b, .ref h_v_five, .ref h_v_left, .ref h_v_right, .ref h_v_part, .int v_aMany, .int v_bMany, .int v_fiveMany, .int v_leftMany, .int v_rightMany, .int v_partMany, .int v_twos, .int v_at, .int v_digits, .int v_power, .int v_good])), (h_v_written, .inl (cI, n_v_written, .inl v_written_a))] s.heap.size = A at hD hX ⊢
  have hA : ∀ q : Nat, s.heap.size ≤ q → A q := fun q h => by rw [← hAe]; exact Or.inr h
  have hS : va_S A s.heap s.heap [] := va_S.rf
  have hl := lv_entry [.ref h_v, .int x1] (n := 2) (Nat.le_of_ble_eq_true rfl)
  rw [lg_entry_eq]
  generalize (lg_sl [.ref h_v, .int x1] ++ List.replicate (2 - (lg_sl [.ref h_v, .int x1]).length) Slot.unset).toArray = ls at hl ⊢
  have hl : lv_has ls 2 [(0, .ref h_v), (1, .int x1)] := hl
  refine zz_endv hx hb hr hlocks (fun Qq hend => ?_)
  unfold f_Mod_lay at hf
  refine lv_aload_n hx hb d_Mod_lay_0 rfl (lv_at hl 0 rfl) ?_
  refine va_get (D := (dC, dI)) (ci := 7) (v := .ref h_v_written) (C := R_Mod) (T := T_Mod) (N := 26) hx hb hw in_Mod hown hK hP 0 rfl rfl 1 (by decide) (hw _ wd_675) (fun _ h9 => h9) rfl d_Mod_lay_1 ?_
  refine lv_aload_n hx hb d_Mod_lay_4 rfl (lv_at hl 0 rfl) ?_
  refine va_get (D := (dC, dI)) (ci := 7) (v := .int v_laid) (C := R_Mod) (T := T_Mod) (N := 26) hx hb hw in_Mod hown hK hP 0 rfl rfl 3 (by decide) (hw _ wd_677) (fun _ h9 => h9) rfl d_Mod_lay_5 ?_
  refine lv_iload_n hx hb d_Mod_lay_8 rfl (lv_at hl 1 rfl) ?_
  obtain ⟨hb_1, hf⟩ := zz_gd hf
  refine va_iast hx hb hK hP hD hS 1 0 rfl rfl (zz_vp hb_1) d_Mod_lay_9 (fun H locs hP hD hS => ?_)
  have hP : va_P (dC, dI) vwCl [(h_v, .inr (7, [.ref h_v_text, .ref h_v_written, .int v_length, .int v_laid, .int v_gone, .int v_thrown, .int v_were, .int v_none, .int v_beyond, .ref h_v_a, .ref h_v_b, .ref h_v_five, .ref h_v_left, .ref h_v_right, .ref h_v_part, .int v_aMany, .int v_bMany, .int v_fiveMany, .int v_leftMany, .int v_rightMany, .int v_partMany, .int v_twos, .int v_at, .int v_digits, .int v_power, .int v_good])), (h_v_written, .inl (cI, n_v_written, .inl (upd v_written_a v_laid.toNatClampNeg x1)))] H := hP
  have hD : va_D A [(h_v, .inr (7, [.ref h_v_text, .ref h_v_written, .int v_length, .int v_laid, .int v_gone, .int v_thrown, .int v_were, .int v_none, .int v_beyond, .ref h_v_a, .ref h_v_b, .ref h_v_five, .ref h_v_left, .ref h_v_right, .ref h_v_part, .int v_aMany, .int v_bMany, .int v_fiveMany, .int v_leftMany, .int v_rightMany, .int v_partMany, .int v_twos, .int v_at, .int v_digits, .int v_power, .int v_good])), (h_v_written, .inl (cI, n_v_written, .inl (upd v_written_a v_laid.toNatClampNeg x1)))] := hD
  refine lv_aload_n hx hb d_Mod_lay_10 rfl (lv_at hl 0 rfl) ?_
  refine lv_dup hx hb d_Mod_lay_11 rfl ?_
  refine va_get (D := (dC, dI)) (ci := 7) (v := .int v_laid) (C := R_Mod) (T := T_Mod) (N := 26) hx hb hw in_Mod hown hK hP 0 rfl rfl 3 (by decide) (hw _ wd_677) (fun _ h9 => h9) rfl d_Mod_lay_12 ?_
  refine lv_iconst (v := 1) hx hb d_Mod_lay_15 (by decide) ?_
  refine lv_iadd hx hb d_Mod_lay_16 ?_
  refine va_put (D := (dC, dI)) (ci := 7) (v := .int (v_laid + 1)) (ty := .int) (C := R_Mod) (T := T_Mod) (N := 26) hx hb hw in_Mod ty_Mod tyok_Mod nm_Mod hown hK hP hD hS 0 rfl rfl 3 (by decide) (hw _ wd_677) (fun _ h9 => h9) rfl (tyok_Mod 3 (by decide)) rfl rfl (Nat.le_of_ble_eq_true rfl) d_Mod_lay_17 (fun H locs hP hD hS => ?_)
  have hP : va_P (dC, dI) vwCl [(h_v, .inr (7, [.ref h_v_text, .ref h_v_written, .int v_length, .int (v_laid + 1), .int v_gone, .int v_thrown, .int v_were, .int v_none, .int v_beyond, .ref h_v_a, .ref h_v_b, .ref h_v_five, .ref h_v_left, .ref h_v_right, .ref h_v_part, .int v_aMany, .int v_bMany, .int v_fiveMany, .int v_leftMany, .int v_rightMany, .int v_partMany, .int v_twos, .int v_at, .int v_digits, .int v_power, .int v_good])), (h_v_written, .inl (cI, n_v_written, .inl (upd v_written_a v_laid.toNatClampNeg x1)))] H := hP
  have hD : va_D A [(h_v, .inr (7, [.ref h_v_text, .ref h_v_written, .int v_length, .int (v_laid + 1), .int v_gone, .int v_thrown, .int v_were, .int v_none, .int v_beyond, .ref h_v_a, .ref h_v_b, .ref h_v_five, .ref h_v_left, .ref h_v_right, .ref h_v_part, .int v_aMany, .int v_bMany, .int v_fiveMany, .int v_leftMany, .int v_rightMany, .int v_partMany, .int v_twos, .int v_at, .int v_digits, .int v_power, .int v_good])), (h_v_written, .inl (cI, n_v_written, .inl (upd v_written_a v_laid.toNatClampNeg x1)))] := hD
  cases hf
  exact hend 20 ls _ _ d_Mod_lay_20 hP hD hS
abbrev ws_Mod_scale : List Cond := .code y_Mod_scale prog_10_method_27_code 2 none :: zw
abbrev rm_Mod_scale : Room := { frames := 3, cells := 0, slots := 0, locals := 74 }
theorem hd_Mod_scale : y_Mod_scale.cls = "RealTextModel" ∧ y_Mod_scale.cls ≠ "java/lang/invoke/MethodHandle" ∧ y_Mod_scale.cls ≠ "java/lang/invoke/VarHandle" ∧ (parseMethodDescriptor y_Mod_scale.desc).map (fun d => d.parameters.length) = some 1 := by decide +kernel
theorem d_Mod_scale_0 : decode prog_10_method_27_code 0 = .ok (.aload_n 0, 1) := by decide +kernel
theorem d_Mod_scale_1 : decode prog_10_method_27_code 1 = .ok (.aload_n 0, 1) := by decide +kernel
theorem d_Mod_scale_2 : decode prog_10_method_27_code 2 = .ok (.getfield 22, 3) := by decide +kernel
theorem d_Mod_scale_5 : decode prog_10_method_27_code 5 = .ok (.lconst 1, 1) := by decide +kernel
theorem d_Mod_scale_6 : decode prog_10_method_27_code 6 = .ok (.invokestatic 158, 3) := by decide +kernel
theorem d_Mod_scale_9 : decode prog_10_method_27_code 9 = .ok (.putfield 171, 3) := by decide +kernel
theorem d_Mod_scale_12 : decode prog_10_method_27_code 12 = .ok (.aload_n 0, 1) := by decide +kernel
theorem d_Mod_scale_13 : decode prog_10_method_27_code 13 = .ok (.aload_n 0, 1) := by decide +kernel
theorem d_Mod_scale_14 : decode prog_10_method_27_code 14 = .ok (.getfield 19, 3) := by decide +kernel
theorem d_Mod_scale_17 : decode prog_10_method_27_code 17 = .ok (.lconst 1, 1) := by decide +kernel
theorem d_Mod_scale_18 : decode prog_10_method_27_code 18 = .ok (.invokestatic 158, 3) := by decide +kernel
theorem d_Mod_scale_21 : decode prog_10_method_27_code 21 = .ok (.putfield 72, 3) := by decide +kernel
theorem d_Mod_scale_24 : decode prog_10_method_27_code 24 = .ok (.iload_n 1, 1) := by decide +kernel
theorem d_Mod_scale_25 : decode prog_10_method_27_code 25 = .ok (.ifCond .le 22, 3) := by decide +kernel
theorem d_Mod_scale_28 : decode prog_10_method_27_code 28 = .ok (.aload_n 0, 1) := by decide +kernel
theorem d_Mod_scale_29 : decode prog_10_method_27_code 29 = .ok (.aload_n 0, 1) := by decide +kernel
theorem d_Mod_scale_30 : decode prog_10_method_27_code 30 = .ok (.getfield 22, 3) := by decide +kernel
theorem d_Mod_scale_33 : decode prog_10_method_27_code 33 = .ok (.aload_n 0, 1) := by decide +kernel
theorem d_Mod_scale_34 : decode prog_10_method_27_code 34 = .ok (.getfield 171, 3) := by decide +kernel
theorem d_Mod_scale_37 : decode prog_10_method_27_code 37 = .ok (.iload_n 1, 1) := by decide +kernel
theorem d_Mod_scale_38 : decode prog_10_method_27_code 38 = .ok (.invokestatic 162, 3) := by decide +kernel
theorem d_Mod_scale_41 : decode prog_10_method_27_code 41 = .ok (.putfield 171, 3) := by decide +kernel
theorem d_Mod_scale_44 : decode prog_10_method_27_code 44 = .ok (.goto 20, 3) := by decide +kernel
theorem d_Mod_scale_47 : decode prog_10_method_27_code 47 = .ok (.aload_n 0, 1) := by decide +kernel
theorem d_Mod_scale_48 : decode prog_10_method_27_code 48 = .ok (.aload_n 0, 1) := by decide +kernel
theorem d_Mod_scale_49 : decode prog_10_method_27_code 49 = .ok (.getfield 19, 3) := by decide +kernel
theorem d_Mod_scale_52 : decode prog_10_method_27_code 52 = .ok (.aload_n 0, 1) := by decide +kernel
theorem d_Mod_scale_53 : decode prog_10_method_27_code 53 = .ok (.getfield 72, 3) := by decide +kernel
theorem d_Mod_scale_56 : decode prog_10_method_27_code 56 = .ok (.iload_n 1, 1) := by decide +kernel
theorem d_Mod_scale_57 : decode prog_10_method_27_code 57 = .ok (.ineg, 1) := by decide +kernel
theorem d_Mod_scale_58 : decode prog_10_method_27_code 58 = .ok (.invokestatic 162, 3) := by decide +kernel
theorem d_Mod_scale_61 : decode prog_10_method_27_code 61 = .ok (.putfield 72, 3) := by decide +kernel
theorem d_Mod_scale_64 : decode prog_10_method_27_code 64 = .ok (.aload_n 0, 1) := by decide +kernel
theorem d_Mod_scale_65 : decode prog_10_method_27_code 65 = .ok (.iload_n 1, 1) := by decide +kernel
theorem d_Mod_scale_66 : decode prog_10_method_27_code 66 = .ok (.putfield 59, 3) := by decide +kernel
theorem d_Mod_scale_69 : decode prog_10_method_27_code 69 = .ok (.return_, 1) := by decide +kernel
def f_Mod_scale (fu : Nat) (n_v_b : Nat) (n_v_five : Nat) (x1 : Int32) (v_bMany : Int32) (v_fiveMany : Int32) (v_twos : Int32) (v_b_a : Nat → Int32) (v_five_a : Nat → Int32) : Option (Int32 × Int32 × Int32 × (Nat → Int32) × (Nat → Int32)) :=
  (f_Mod_set fu n_v_five 1 v_five_a).bind fun u_1 =>
  (f_Mod_set fu n_v_b 1 v_b_a).bind fun u_2 =>
  (if x1 ≤ 0 then
  (f_Mod_fives fu n_v_b u_2.1 (-x1) u_2.2).bind fun u_3 =>
  some (u_3.1, u_1.1, x1, u_3.2, u_1.2)
  else
  (f_Mod_fives fu n_v_five u_1.1 x1 u_1.2).bind fun u_4 =>
  some (u_2.1, u_4.1, x1, u_2.2, u_4.2))
set_option maxHeartbeats 4000000 in
set_option maxRecDepth 100000 in
theorem c_Mod_scale (l : Launch) (dC : Nat → ClassId) (dI : Nat → Nat → Nat) (cI cC cB cJ : ClassId) (fu : Nat) (sz : Nat) (h_v : Nat) (h_v_b : Nat) (h_v_five : Nat) (h_v_text : Nat) (h_v_written : Nat) (h_v_a : Nat) (h_v_left : Nat) (h_v_right : Nat) (h_v_part : Nat) (n_v_b : Nat) (n_v_five : Nat) (x1 : Int32) (v_length : Int32) (v_laid : Int32) (v_gone : Int32) (v_thrown : Int32) (v_were : Int32) (v_none : Int32) (v_beyond : Int32) (v_aMany : Int32) (v_bMany : Int32) (v_fiveMany : Int32) (v_leftMany : Int32) (v_rightMany : Int32) (v_partMany : Int32) (v_twos : Int32) (v_at : Int32) (v_digits : Int32) (v_power : Int32) (v_good : Int32) (v_b_a : Nat → Int32) (v_five_a : Nat → Int32) (u : Int32 × Int32 × Int32 × (Nat → Int32) × (Nat → Int32)) (hf : f_Mod_scale fu n_v_b n_v_five x1 v_bMany v_fiveMany v_twos v_b_a v_five_a = some u) : Met l y_Mod_scale ws_Mod_scale rm_Mod_scale (zz_P zz_T (dC, dI) vwCl (zz_tys cI cC cB cJ) [.ref h_v, .int x1] [(h_v, .inr (7, [.ref h_v_text, .ref h_v_written, .int v_length, .int v_laid, .int v_gone, .int v_thrown, .int v_were, .int v_none, .int v_beyond, .ref h_v_a, .ref h_v_b, .ref h_v_five, .ref h_v_left, .ref h_v_right, .ref h_v_part, .int v_aMany, .int v_bMany, .int v_fiveMany, .int v_leftMany, .int v_rightMany, .int v_partMany, .int v_twos, .int v_at, .int v_digits, .int v_power, .int v_good])), (h_v_b, .inl (cI, n_v_b, .inl v_b_a)), (h_v_five, .inl (cI, n_v_five, .inl v_five_a))] sz) (zz_Qv (dC, dI) vwCl [(h_v, .inr (7, [.ref h_v_text, .ref h_v_written, .int v_length, .int v_laid, .int v_gone, .int v_thrown, .int v_were, .int v_none, .int v_beyond, .ref h_v_a, .ref h_v_b, .ref h_v_five, .ref h_v_left, .ref h_v_right, .ref h_v_part, .int v_aMany, .int u.1, .int u.2.1, .int v_leftMany, .int v_rightMany, .int v_partMany, .int u.2.2.1, .int v_at, .int v_digits, .int v_power, .int v_good])), (h_v_b, .inl (cI, n_v_b, .inl u.2.2.2.1)), (h_v_five, .inl (cI, n_v_five, .inl u.2.2.2.2))] (va_A [(h_v, .inr (7, [.ref h_v_text, .ref h_v_written, .int v_length, .int v_laid, .int v_gone, .int v_thrown, .int v_were, .int v_none, .int v_beyond, .ref h_v_a, .ref h_v_b, .ref h_v_five, .ref h_v_left, .ref h_v_right, .ref h_v_part, .int v_aMany, .int v_bMany, .int v_fiveMany, .int v_leftMany, .int v_rightMany, .int v_partMany, .int v_twos, .int v_at, .int v_digits, .int v_power, .int v_good])), (h_v_b, .inl (cI, n_v_b, .inl v_b_a)), (h_v_five, .inl (cI, n_v_five, .inl v_five_a))] sz)) 0 0 (va_A [(h_v, .inr (7, [.ref h_v_text, .ref h_v_written, .int v_length, .int v_laid, .int v_gone, .int v_thrown, .int v_were, .int v_none, .int v_beyond, .ref h_v_a, .ref h_v_b, .ref h_v_five, .ref h_v_left, .ref h_v_right, .ref h_v_part, .int v_aMany, .int v_bMany, .int v_fiveMany, .int v_leftMany, .int v_rightMany, .int v_partMany, .int v_twos, .int v_at, .int v_digits, .int v_power, .int v_good])), (h_v_b, .inl (cI, n_v_b, .inl v_b_a)), (h_v_five, .inl (cI, n_v_five, .inl v_five_a))] sz) := by
  refine Met.ofW (cc := prog_10_method_27_code) (maxL := 2) (ret := none) (by decide +kernel) rfl ?_
  intro p e s m args below meth c s₁ B hml hv
  obtain ⟨rfl, hsz, hP, hK, hD0, hX⟩ := hv
  have hx := B.exec
  have hb := B.bytes
  have hr := B.returns
  have hts := atoms_spec (ws := ws_Mod_scale) B.pre
  have hw : ∀ w ∈ zw, w.before [.ref h_v, .int x1].toArray s = true := fun w h => hts w (List.mem_cons_of_mem _ h)
  have hown : s.vm.findClass R_Mod = some m.cls := findClass_of_methodNamed B.named
  have hlocks := B.notSynchronized
  subst hsz
  have hD := hD0.self (sz := s.heap.size)
  generalize hAe : va_A [(h_v, .inr (7, [.ref h_v_text, .ref h_v_written, .int v_length, .int v_laid, .int v_gone, .int v_thrown, .int v_were, .int v_none, .int v_beyond, .ref h_v_a, .ref h_v_b, .ref h_v_five, .ref h_v_left, .ref h_v_right, .ref h_v_part, .int v_aMany, .int v_bMany, .int v_fiveMany, .int v_leftMany, .int v_rightMany, .int v_partMany, .int v_twos, .int v_at, .int v_digits, .int v_power, .int v_good])), (h_v_b, .inl (cI, n_v_b, .inl v_b_a)), (h_v_five, .inl (cI, n_v_five, .inl v_five_a))] s.heap.size = A at hD hX ⊢
  have hA : ∀ q : Nat, s.heap.size ≤ q → A q := fun q h => by rw [← hAe]; exact Or.inr h
  have hS : va_S A s.heap s.heap [] := va_S.rf
  have hl := lv_entry [.ref h_v, .int x1] (n := 2) (Nat.le_of_ble_eq_true rfl)
  rw [lg_entry_eq]
  generalize (lg_sl [.ref h_v, .int x1] ++ List.replicate (2 - (lg_sl [.ref h_v, .int x1]).length) Slot.unset).toArray = ls at hl ⊢
  have hl : lv_has ls 2 [(0, .ref h_v), (1, .int x1)] := hl
  refine zz_endv hx hb hr hlocks (fun Qq hend => ?_)
  unfold f_Mod_scale at hf
  refine lv_aload_n hx hb d_Mod_scale_0 rfl (lv_at hl 0 rfl) ?_
  refine lv_aload_n hx hb d_Mod_scale_1 rfl (lv_at hl 0 rfl) ?_
  refine va_get (D := (dC, dI)) (ci := 7) (v := .ref h_v_five) (C := R_Mod) (T := T_Mod) (N := 26) hx hb hw in_Mod hown hK hP 0 rfl rfl 11 (by decide) (hw _ wd_685) (fun _ h9 => h9) rfl d_Mod_scale_2 ?_
  refine lv_lconst (v := 1) hx hb d_Mod_scale_5 (by decide) ?_
  obtain ⟨u_1, hu_1, hf⟩ := zz_bd hf
  refine zz_ci (ws' := [(h_v, .inr (7, [.ref h_v_text, .ref h_v_written, .int v_length, .int v_laid, .int v_gone, .int v_thrown, .int v_were, .int v_none, .int v_beyond, .ref h_v_a, .ref h_v_b, .ref h_v_five, .ref h_v_left, .ref h_v_right, .ref h_v_part, .int v_aMany, .int v_bMany, .int v_fiveMany, .int v_leftMany, .int v_rightMany, .int v_partMany, .int v_twos, .int v_at, .int v_digits, .int v_power, .int v_good])), (h_v_b, .inl (cI, n_v_b, .inl v_b_a)), (h_v_five, .inl (cI, n_v_five, .inl u_1.2))]) (wc := [(h_v_five, .inl (cI, n_v_five, .inl v_five_a))]) (w' := [(h_v_five, .inl (cI, n_v_five, .inl u_1.2))]) hP hD hS hA [2] [0, 1] [0, 1, 2] rfl rfl (by decide) (by decide) rfl (by decide) (va_runS (As := [.ref h_v_five, .long 1]) (rest := [.ref h_v]) ⟨hx, hb, hml, hown, hw⟩ (c_Mod_set l dC dI cI cC cB cJ fu _ h_v_five n_v_five 1 v_five_a u_1 hu_1) (va_cwS 2 hw (zg_S wd_812 wd_813 wd_8 wd_814) rfl rfl rfl hd_Mod_set ⟨Nat.le_of_ble_eq_true rfl, Nat.le_of_ble_eq_true rfl⟩) (zz_preS zz_TE hP hD hK hS hA trivial [2] rfl (by decide)) rfl rfl hl.1 rfl (lv_room (Nat.le_of_ble_eq_true rfl)) d_Mod_scale_6 ⟨Nat.zero_le _, Nat.zero_le _⟩) (fun H locs hP hD hS => ?_)
  refine va_put (D := (dC, dI)) (ci := 7) (v := .int u_1.1) (ty := .int) (C := R_Mod) (T := T_Mod) (N := 26) hx hb hw in_Mod ty_Mod tyok_Mod nm_Mod hown hK hP hD hS 0 rfl rfl 17 (by decide) (hw _ wd_691) (fun _ h9 => h9) rfl (tyok_Mod 17 (by decide)) rfl rfl (Nat.le_of_ble_eq_true rfl) d_Mod_scale_9 (fun H locs hP hD hS => ?_)
  have hP : va_P (dC, dI) vwCl [(h_v, .inr (7, [.ref h_v_text, .ref h_v_written, .int v_length, .int v_laid, .int v_gone, .int v_thrown, .int v_were, .int v_none, .int v_beyond, .ref h_v_a, .ref h_v_b, .ref h_v_five, .ref h_v_left, .ref h_v_right, .ref h_v_part, .int v_aMany, .int v_bMany, .int u_1.1, .int v_leftMany, .int v_rightMany, .int v_partMany, .int v_twos, .int v_at, .int v_digits, .int v_power, .int v_good])), (h_v_b, .inl (cI, n_v_b, .inl v_b_a)), (h_v_five, .inl (cI, n_v_five, .inl u_1.2))] H := hP
  have hD : va_D A [(h_v, .inr (7, [.ref h_v_text, .ref h_v_written, .int v_length, .int v_laid, .int v_gone, .int v_thrown, .int v_were, .int v_none, .int v_beyond, .ref h_v_a, .ref h_v_b, .ref h_v_five, .ref h_v_left, .ref h_v_right, .ref h_v_part, .int v_aMany, .int v_bMany, .int u_1.1, .int v_leftMany, .int v_rightMany, .int v_partMany, .int v_twos, .int v_at, .int v_digits, .int v_power, .int v_good])), (h_v_b, .inl (cI, n_v_b, .inl v_b_a)), (h_v_five, .inl (cI, n_v_five, .inl u_1.2))] := hD
  refine lv_aload_n hx hb d_Mod_scale_12 rfl (lv_at hl 0 rfl) ?_
  refine lv_aload_n hx hb d_Mod_scale_13 rfl (lv_at hl 0 rfl) ?_
  refine va_get (D := (dC, dI)) (ci := 7) (v := .ref h_v_b) (C := R_Mod) (T := T_Mod) (N := 26) hx hb hw in_Mod hown hK hP 0 rfl rfl 10 (by decide) (hw _ wd_684) (fun _ h9 => h9) rfl d_Mod_scale_14 ?_
  refine lv_lconst (v := 1) hx hb d_Mod_scale_17 (by decide) ?_
  obtain ⟨u_2, hu_2, hf⟩ := zz_bd hf
  refine zz_ci (ws' := [(h_v, .inr (7, [.ref h_v_text, .ref h_v_written, .int v_length, .int v_laid, .int v_gone, .int v_thrown, .int v_were, .int v_none, .int v_beyond, .ref h_v_a, .ref h_v_b, .ref h_v_five, .ref h_v_left, .ref h_v_right, .ref h_v_part, .int v_aMany, .int v_bMany, .int u_1.1, .int v_leftMany, .int v_rightMany, .int v_partMany, .int v_twos, .int v_at, .int v_digits, .int v_power, .int v_good])), (h_v_b, .inl (cI, n_v_b, .inl u_2.2)), (h_v_five, .inl (cI, n_v_five, .inl u_1.2))]) (wc := [(h_v_b, .inl (cI, n_v_b, .inl v_b_a))]) (w' := [(h_v_b, .inl (cI, n_v_b, .inl u_2.2))]) hP hD hS hA [1] [0, 2] [0, 2, 1] rfl rfl (by decide) (by decide) rfl (by decide) (va_runS (As := [.ref h_v_b, .long 1]) (rest := [.ref h_v]) ⟨hx, hb, hml, hown, hw⟩ (c_Mod_set l dC dI cI cC cB cJ fu _ h_v_b n_v_b 1 v_b_a u_2 hu_2) (va_cwS 2 hw (zg_S wd_812 wd_813 wd_8 wd_814) rfl rfl rfl hd_Mod_set ⟨Nat.le_of_ble_eq_true rfl, Nat.le_of_ble_eq_true rfl⟩) (zz_preS zz_TE hP hD hK hS hA trivial [1] rfl (by decide)) rfl rfl hl.1 rfl (lv_room (Nat.le_of_ble_eq_true rfl)) d_Mod_scale_18 ⟨Nat.zero_le _, Nat.zero_le _⟩) (fun H locs hP hD hS => ?_)
  refine va_put (D := (dC, dI)) (ci := 7) (v := .int u_2.1) (ty := .int) (C := R_Mod) (T := T_Mod) (N := 26) hx hb hw in_Mod ty_Mod tyok_Mod nm_Mod hown hK hP hD hS 0 rfl rfl 16 (by decide) (hw _ wd_690) (fun _ h9 => h9) rfl (tyok_Mod 16 (by decide)) rfl rfl (Nat.le_of_ble_eq_true rfl) d_Mod_scale_21 (fun H locs hP hD hS => ?_)
  have hP : va_P (dC, dI) vwCl [(h_v, .inr (7, [.ref h_v_text, .ref h_v_written, .int v_length, .int v_laid, .int v_gone, .int v_thrown, .int v_were, .int v_none, .int v_beyond, .ref h_v_a, .ref h_v_b, .ref h_v_five, .ref h_v_left, .ref h_v_right, .ref h_v_part, .int v_aMany, .int u_2.1, .int u_1.1, .int v_leftMany, .int v_rightMany, .int v_partMany, .int v_twos, .int v_at, .int v_digits, .int v_power, .int v_good])), (h_v_b, .inl (cI, n_v_b, .inl u_2.2)), (h_v_five, .inl (cI, n_v_five, .inl u_1.2))] H := hP
  have hD : va_D A [(h_v, .inr (7, [.ref h_v_text, .ref h_v_written, .int v_length, .int v_laid, .int v_gone, .int v_thrown, .int v_were, .int v_none, .int v_beyond, .ref h_v_a, .ref h_v_b, .ref h_v_five, .ref h_v_left, .ref h_v_right, .ref h_v_part, .int v_aMany, .int u_2.1, .int u_1.1, .int v_leftMany, .int v_rightMany, .int v_partMany, .int v_twos, .int v_at, .int v_digits, .int v_power, .int v_good])), (h_v_b, .inl (cI, n_v_b, .inl u_2.2)), (h_v_five, .inl (cI, n_v_five, .inl u_1.2))] := hD
  refine lv_iload_n hx hb d_Mod_scale_24 rfl (lv_at hl 1 rfl) ?_
  refine lv_if_le (tgt := 47) hx hb d_Mod_scale_25 (by decide) (fun hc => ?_) (fun hc => ?_)
  · have hf := zz_ifp hc hf
    refine lv_aload_n hx hb d_Mod_scale_47 rfl (lv_at hl 0 rfl) ?_
    refine lv_aload_n hx hb d_Mod_scale_48 rfl (lv_at hl 0 rfl) ?_
    refine va_get (D := (dC, dI)) (ci := 7) (v := .ref h_v_b) (C := R_Mod) (T := T_Mod) (N := 26) hx hb hw in_Mod hown hK hP 0 rfl rfl 10 (by decide) (hw _ wd_684) (fun _ h9 => h9) rfl d_Mod_scale_49 ?_
    refine lv_aload_n hx hb d_Mod_scale_52 rfl (lv_at hl 0 rfl) ?_
    refine va_get (D := (dC, dI)) (ci := 7) (v := .int u_2.1) (C := R_Mod) (T := T_Mod) (N := 26) hx hb hw in_Mod hown hK hP 0 rfl rfl 16 (by decide) (hw _ wd_690) (fun _ h9 => h9) rfl d_Mod_scale_53 ?_
    refine lv_iload_n hx hb d_Mod_scale_56 rfl (lv_at hl 1 rfl) ?_
    refine lv_ineg hx hb d_Mod_scale_57 ?_
    obtain ⟨u_3, hu_3, hf⟩ := zz_bd hf
    refine zz_ci (ws' := [(h_v, .inr (7, [.ref h_v_text, .ref h_v_written, .int v_length, .int v_laid, .int v_gone, .int v_thrown, .int v_were, .int v_none, .int v_beyond, .ref h_v_a, .ref h_v_b, .ref h_v_five, .ref h_v_left, .ref h_v_right, .ref h_v_part, .int v_aMany, .int u_2.1, .int u_1.1, .int v_leftMany, .int v_rightMany, .int v_partMany, .int v_twos, .int v_at, .int v_digits, .int v_power, .int v_good])), (h_v_b, .inl (cI, n_v_b, .inl u_3.2)), (h_v_five, .inl (cI, n_v_five, .inl u_1.2))]) (wc := [(h_v_b, .inl (cI, n_v_b, .inl u_2.2))]) (w' := [(h_v_b, .inl (cI, n_v_b, .inl u_3.2))]) hP hD hS hA [1] [0, 2] [0, 2, 1] rfl rfl (by decide) (by decide) rfl (by decide) (va_runS (As := [.ref h_v_b, .int u_2.1, .int (-x1)]) (rest := [.ref h_v]) ⟨hx, hb, hml, hown, hw⟩ (c_Mod_fives l dC dI cI cC cB cJ fu _ h_v_b n_v_b u_2.1 (-x1) u_2.2 u_3 hu_3) (va_cwS 3 hw (zg_S wd_815 wd_816 wd_8 wd_817) rfl rfl rfl hd_Mod_fives ⟨Nat.le_of_ble_eq_true rfl, Nat.le_of_ble_eq_true rfl⟩) (zz_preS zz_TE hP hD hK hS hA trivial [1] rfl (by decide)) rfl rfl hl.1 rfl (lv_room (Nat.le_of_ble_eq_true rfl)) d_Mod_scale_58 ⟨Nat.zero_le _, Nat.zero_le _⟩) (fun H locs hP hD hS => ?_)
    refine va_put (D := (dC, dI)) (ci := 7) (v := .int u_3.1) (ty := .int) (C := R_Mod) (T := T_Mod) (N := 26) hx hb hw in_Mod ty_Mod tyok_Mod nm_Mod hown hK hP hD hS 0 rfl rfl 16 (by decide) (hw _ wd_690) (fun _ h9 => h9) rfl (tyok_Mod 16 (by decide)) rfl rfl (Nat.le_of_ble_eq_true rfl) d_Mod_scale_61 (fun H locs hP hD hS => ?_)
    have hP : va_P (dC, dI) vwCl [(h_v, .inr (7, [.ref h_v_text, .ref h_v_written, .int v_length, .int v_laid, .int v_gone, .int v_thrown, .int v_were, .int v_none, .int v_beyond, .ref h_v_a, .ref h_v_b, .ref h_v_five, .ref h_v_left, .ref h_v_right, .ref h_v_part, .int v_aMany, .int u_3.1, .int u_1.1, .int v_leftMany, .int v_rightMany, .int v_partMany, .int v_twos, .int v_at, .int v_digits, .int v_power, .int v_good])), (h_v_b, .inl (cI, n_v_b, .inl u_3.2)), (h_v_five, .inl (cI, n_v_five, .inl u_1.2))] H := hP
    have hD : va_D A [(h_v, .inr (7, [.ref h_v_text, .ref h_v_written, .int v_length, .int v_laid, .int v_gone, .int v_thrown, .int v_were, .int v_none, .int v_beyond, .ref h_v_a, .ref h_v_b, .ref h_v_five, .ref h_v_left, .ref h_v_right, .ref h_v_part, .int v_aMany, .int u_3.1, .int u_1.1, .int v_leftMany, .int v_rightMany, .int v_partMany, .int v_twos, .int v_at, .int v_digits, .int v_power, .int v_good])), (h_v_b, .inl (cI, n_v_b, .inl u_3.2)), (h_v_five, .inl (cI, n_v_five, .inl u_1.2))] := hD
    refine lv_aload_n hx hb d_Mod_scale_64 rfl (lv_at hl 0 rfl) ?_
    refine lv_iload_n hx hb d_Mod_scale_65 rfl (lv_at hl 1 rfl) ?_
    refine va_put (D := (dC, dI)) (ci := 7) (v := .int x1) (ty := .int) (C := R_Mod) (T := T_Mod) (N := 26) hx hb hw in_Mod ty_Mod tyok_Mod nm_Mod hown hK hP hD hS 0 rfl rfl 21 (by decide) (hw _ wd_694) (fun _ h9 => h9) rfl (tyok_Mod 21 (by decide)) rfl rfl (Nat.le_of_ble_eq_true rfl) d_Mod_scale_66 (fun H locs hP hD hS => ?_)
    have hP : va_P (dC, dI) vwCl [(h_v, .inr (7, [.ref h_v_text, .ref h_v_written, .int v_length, .int v_laid, .int v_gone, .int v_thrown, .int v_were, .int v_none, .int v_beyond, .ref h_v_a, .ref h_v_b, .ref h_v_five, .ref h_v_left, .ref h_v_right, .ref h_v_part, .int v_aMany, .int u_3.1, .int u_1.1, .int v_leftMany, .int v_rightMany, .int v_partMany, .int x1, .int v_at, .int v_digits, .int v_power, .int v_good])), (h_v_b, .inl (cI, n_v_b, .inl u_3.2)), (h_v_five, .inl (cI, n_v_five, .inl u_1.2))] H := hP
    have hD : va_D A [(h_v, .inr (7, [.ref h_v_text, .ref h_v_written, .int v_length, .int v_laid, .int v_gone, .int v_thrown, .int v_were, .int v_none, .int v_beyond, .ref h_v_a, .ref h_v_b, .ref h_v_five, .ref h_v_left, .ref h_v_right, .ref h_v_part, .int v_aMany, .int u_3.1, .int u_1.1, .int v_leftMany, .int v_rightMany, .int v_partMany, .int x1, .int v_at, .int v_digits, .int v_power, .int v_good])), (h_v_b, .inl (cI, n_v_b, .inl u_3.2)), (h_v_five, .inl (cI, n_v_five, .inl u_1.2))] := hD
    cases hf
    exact hend 69 ls _ _ d_Mod_scale_69 hP hD hS
  · have hf := zz_ifn hc hf
    refine lv_aload_n hx hb d_Mod_scale_28 rfl (lv_at hl 0 rfl) ?_
    refine lv_aload_n hx hb d_Mod_scale_29 rfl (lv_at hl 0 rfl) ?_
    refine va_get (D := (dC, dI)) (ci := 7) (v := .ref h_v_five) (C := R_Mod) (T := T_Mod) (N := 26) hx hb hw in_Mod hown hK hP 0 rfl rfl 11 (by decide) (hw _ wd_685) (fun _ h9 => h9) rfl d_Mod_scale_30 ?_
    refine lv_aload_n hx hb d_Mod_scale_33 rfl (lv_at hl 0 rfl) ?_
    refine va_get (D := (dC, dI)) (ci := 7) (v := .int u_1.1) (C := R_Mod) (T := T_Mod) (N := 26) hx hb hw in_Mod hown hK hP 0 rfl rfl 17 (by decide) (hw _ wd_691) (fun _ h9 => h9) rfl d_Mod_scale_34 ?_
    refine lv_iload_n hx hb d_Mod_scale_37 rfl (lv_at hl 1 rfl) ?_
    obtain ⟨u_4, hu_4, hf⟩ := zz_bd hf
    refine zz_ci (ws' := [(h_v, .inr (7, [.ref h_v_text, .ref h_v_written, .int v_length, .int v_laid, .int v_gone, .int v_thrown, .int v_were, .int v_none, .int v_beyond, .ref h_v_a, .ref h_v_b, .ref h_v_five, .ref h_v_left, .ref h_v_right, .ref h_v_part, .int v_aMany, .int u_2.1, .int u_1.1, .int v_leftMany, .int v_rightMany, .int v_partMany, .int v_twos, .int v_at, .int v_digits, .int v_power, .int v_good])), (h_v_b, .inl (cI, n_v_b, .inl u_2.2)), (h_v_five, .inl (cI, n_v_five, .inl u_4.2))]) (wc := [(h_v_five, .inl (cI, n_v_five, .inl u_1.2))]) (w' := [(h_v_five, .inl (cI, n_v_five, .inl u_4.2))]) hP hD hS hA [2] [0, 1] [0, 1, 2] rfl rfl (by decide) (by decide) rfl (by decide) (va_runS (As := [.ref h_v_five, .int u_1.1, .int x1]) (rest := [.ref h_v]) ⟨hx, hb, hml, hown, hw⟩ (c_Mod_fives l dC dI cI cC cB cJ fu _ h_v_five n_v_five u_1.1 x1 u_1.2 u_4 hu_4) (va_cwS 3 hw (zg_S wd_815 wd_816 wd_8 wd_817) rfl rfl rfl hd_Mod_fives ⟨Nat.le_of_ble_eq_true rfl, Nat.le_of_ble_eq_true rfl⟩) (zz_preS zz_TE hP hD hK hS hA trivial [2] rfl (by decide)) rfl rfl hl.1 rfl (lv_room (Nat.le_of_ble_eq_true rfl)) d_Mod_scale_38 ⟨Nat.zero_le _, Nat.zero_le _⟩) (fun H locs hP hD hS => ?_)
    refine va_put (D := (dC, dI)) (ci := 7) (v := .int u_4.1) (ty := .int) (C := R_Mod) (T := T_Mod) (N := 26) hx hb hw in_Mod ty_Mod tyok_Mod nm_Mod hown hK hP hD hS 0 rfl rfl 17 (by decide) (hw _ wd_691) (fun _ h9 => h9) rfl (tyok_Mod 17 (by decide)) rfl rfl (Nat.le_of_ble_eq_true rfl) d_Mod_scale_41 (fun H locs hP hD hS => ?_)
    have hP : va_P (dC, dI) vwCl [(h_v, .inr (7, [.ref h_v_text, .ref h_v_written, .int v_length, .int v_laid, .int v_gone, .int v_thrown, .int v_were, .int v_none, .int v_beyond, .ref h_v_a, .ref h_v_b, .ref h_v_five, .ref h_v_left, .ref h_v_right, .ref h_v_part, .int v_aMany, .int u_2.1, .int u_4.1, .int v_leftMany, .int v_rightMany, .int v_partMany, .int v_twos, .int v_at, .int v_digits, .int v_power, .int v_good])), (h_v_b, .inl (cI, n_v_b, .inl u_2.2)), (h_v_five, .inl (cI, n_v_five, .inl u_4.2))] H := hP
    have hD : va_D A [(h_v, .inr (7, [.ref h_v_text, .ref h_v_written, .int v_length, .int v_laid, .int v_gone, .int v_thrown, .int v_were, .int v_none, .int v_beyond, .ref h_v_a, .ref h_v_b, .ref h_v_five, .ref h_v_left, .ref h_v_right, .ref h_v_part, .int v_aMany, .int u_2.1, .int u_4.1, .int v_leftMany, .int v_rightMany, .int v_partMany, .int v_twos, .int v_at, .int v_digits, .int v_power, .int v_good])), (h_v_b, .inl (cI, n_v_b, .inl u_2.2)), (h_v_five, .inl (cI, n_v_five, .inl u_4.2))] := hD
    refine lv_goto (tgt := 64) hx hb d_Mod_scale_44 (by decide) ?_
    refine lv_aload_n hx hb d_Mod_scale_64 rfl (lv_at hl 0 rfl) ?_
    refine lv_iload_n hx hb d_Mod_scale_65 rfl (lv_at hl 1 rfl) ?_
    refine va_put (D := (dC, dI)) (ci := 7) (v := .int x1) (ty := .int) (C := R_Mod) (T := T_Mod) (N := 26) hx hb hw in_Mod ty_Mod tyok_Mod nm_Mod hown hK hP hD hS 0 rfl rfl 21 (by decide) (hw _ wd_694) (fun _ h9 => h9) rfl (tyok_Mod 21 (by decide)) rfl rfl (Nat.le_of_ble_eq_true rfl) d_Mod_scale_66 (fun H locs hP hD hS => ?_)
    have hP : va_P (dC, dI) vwCl [(h_v, .inr (7, [.ref h_v_text, .ref h_v_written, .int v_length, .int v_laid, .int v_gone, .int v_thrown, .int v_were, .int v_none, .int v_beyond, .ref h_v_a, .ref h_v_b, .ref h_v_five, .ref h_v_left, .ref h_v_right, .ref h_v_part, .int v_aMany, .int u_2.1, .int u_4.1, .int v_leftMany, .int v_rightMany, .int v_partMany, .int x1, .int v_at, .int v_digits, .int v_power, .int v_good])), (h_v_b, .inl (cI, n_v_b, .inl u_2.2)), (h_v_five, .inl (cI, n_v_five, .inl u_4.2))] H := hP
    have hD : va_D A [(h_v, .inr (7, [.ref h_v_text, .ref h_v_written, .int v_length, .int v_laid, .int v_gone, .int v_thrown, .int v_were, .int v_none, .int v_beyond, .ref h_v_a, .ref h_v_b, .ref h_v_five, .ref h_v_left, .ref h_v_right, .ref h_v_part, .int v_aMany, .int u_2.1, .int u_4.1, .int v_leftMany, .int v_rightMany, .int v_partMany, .int x1, .int v_at, .int v_digits, .int v_power, .int v_good])), (h_v_b, .inl (cI, n_v_b, .inl u_2.2)), (h_v_five, .inl (cI, n_v_five, .inl u_4.2))] := hD
    cases hf
    exact hend 69 ls _ _ d_Mod_scale_69 hP hD hS
abbrev ws_Mod_compareDigits : List Cond := .code y_Mod_compareDigits prog_10_method_28_code 6 (some .int) :: zw
abbrev rm_Mod_compareDigits : Room := { frames := 4, cells := 0, slots := 0, locals := 100 }
theorem hd_Mod_compareDigits : y_Mod_compareDigits.cls = "RealTextModel" ∧ y_Mod_compareDigits.cls ≠ "java/lang/invoke/MethodHandle" ∧ y_Mod_compareDigits.cls ≠ "java/lang/invoke/VarHandle" ∧ (parseMethodDescriptor y_Mod_compareDigits.desc).map (fun d => d.parameters.length) = some 3 := by decide +kernel
theorem d_Mod_compareDigits_0 : decode prog_10_method_28_code 0 = .ok (.aload_n 0, 1) := by decide +kernel
theorem d_Mod_compareDigits_1 : decode prog_10_method_28_code 1 = .ok (.aload_n 0, 1) := by decide +kernel
theorem d_Mod_compareDigits_2 : decode prog_10_method_28_code 2 = .ok (.aload_n 0, 1) := by decide +kernel
theorem d_Mod_compareDigits_3 : decode prog_10_method_28_code 3 = .ok (.getfield 22, 3) := by decide +kernel
theorem d_Mod_compareDigits_6 : decode prog_10_method_28_code 6 = .ok (.aload_n 0, 1) := by decide +kernel
theorem d_Mod_compareDigits_7 : decode prog_10_method_28_code 7 = .ok (.getfield 171, 3) := by decide +kernel
theorem d_Mod_compareDigits_10 : decode prog_10_method_28_code 10 = .ok (.lload_n 1, 1) := by decide +kernel
theorem d_Mod_compareDigits_11 : decode prog_10_method_28_code 11 = .ok (.aload_n 0, 1) := by decide +kernel
theorem d_Mod_compareDigits_12 : decode prog_10_method_28_code 12 = .ok (.getfield 16, 3) := by decide +kernel
theorem d_Mod_compareDigits_15 : decode prog_10_method_28_code 15 = .ok (.invokevirtual 75, 3) := by decide +kernel
theorem d_Mod_compareDigits_18 : decode prog_10_method_28_code 18 = .ok (.putfield 62, 3) := by decide +kernel
theorem d_Mod_compareDigits_21 : decode prog_10_method_28_code 21 = .ok (.aload_n 0, 1) := by decide +kernel
theorem d_Mod_compareDigits_22 : decode prog_10_method_28_code 22 = .ok (.lload_n 3, 1) := by decide +kernel
theorem d_Mod_compareDigits_23 : decode prog_10_method_28_code 23 = .ok (.iload 5, 2) := by decide +kernel
theorem d_Mod_compareDigits_25 : decode prog_10_method_28_code 25 = .ok (.invokevirtual 96, 3) := by decide +kernel
theorem d_Mod_compareDigits_28 : decode prog_10_method_28_code 28 = .ok (.ireturn, 1) := by decide +kernel
def f_Mod_compareDigits (fu : Nat) (n_v_a : Nat) (n_v_b : Nat) (n_v_five : Nat) (n_v_left : Nat) (n_v_right : Nat) (x1 : Int64) (x3 : Int64) (x5 : Int32) (v_aMany : Int32) (v_bMany : Int32) (v_fiveMany : Int32) (v_leftMany : Int32) (v_rightMany : Int32) (v_twos : Int32) (v_a_a : Nat → Int32) (v_b_a : Nat → Int32) (v_five_a : Nat → Int32) (v_left_a : Nat → Int32) (v_right_a : Nat → Int32) : Option (Int32 × Int32 × Int32 × Int32 × (Nat → Int32) × (Nat → Int32) × (Nat → Int32)) :=
  (f_Mod_times fu n_v_five n_v_a v_fiveMany x1 v_five_a v_a_a).bind fun u_1 =>
  (f_Mod_compare fu n_v_a n_v_b n_v_left n_v_right x3 x5 u_1.1 v_bMany v_leftMany v_rightMany v_twos u_1.2 v_b_a v_left_a v_right_a).bind fun u_2 =>
  some (u_2.1, u_1.1, u_2.2.1, u_2.2.2.1, u_1.2, u_2.2.2.2.1, u_2.2.2.2.2)
set_option maxHeartbeats 4000000 in
set_option maxRecDepth 100000 in
theorem c_Mod_compareDigits (l : Launch) (dC : Nat → ClassId) (dI : Nat → Nat → Nat) (cI cC cB cJ : ClassId) (fu : Nat) (sz : Nat) (h_v : Nat) (h_v_a : Nat) (h_v_b : Nat) (h_v_five : Nat) (h_v_left : Nat) (h_v_right : Nat) (h_v_text : Nat) (h_v_written : Nat) (h_v_part : Nat) (n_v_a : Nat) (n_v_b : Nat) (n_v_five : Nat) (n_v_left : Nat) (n_v_right : Nat) (x1 : Int64) (x3 : Int64) (x5 : Int32) (v_length : Int32) (v_laid : Int32) (v_gone : Int32) (v_thrown : Int32) (v_were : Int32) (v_none : Int32) (v_beyond : Int32) (v_aMany : Int32) (v_bMany : Int32) (v_fiveMany : Int32) (v_leftMany : Int32) (v_rightMany : Int32) (v_partMany : Int32) (v_twos : Int32) (v_at : Int32) (v_digits : Int32) (v_power : Int32) (v_good : Int32) (v_a_a : Nat → Int32) (v_b_a : Nat → Int32) (v_five_a : Nat → Int32) (v_left_a : Nat → Int32) (v_right_a : Nat → Int32) (u : Int32 × Int32 × Int32 × Int32 × (Nat → Int32) × (Nat → Int32) × (Nat → Int32)) (hf : f_Mod_compareDigits fu n_v_a n_v_b n_v_five n_v_left n_v_right x1 x3 x5 v_aMany v_bMany v_fiveMany v_leftMany v_rightMany v_twos v_a_a v_b_a v_five_a v_left_a v_right_a = some u) : Met l y_Mod_compareDigits ws_Mod_compareDigits rm_Mod_compareDigits (zz_P zz_T (dC, dI) vwCl (zz_tys cI cC cB cJ) [.ref h_v, .long x1, .long x3, .int x5] [(h_v, .inr (7, [.ref h_v_text, .ref h_v_written, .int v_length, .int v_laid, .int v_gone, .int v_thrown, .int v_were, .int v_none, .int v_beyond, .ref h_v_a, .ref h_v_b, .ref h_v_five, .ref h_v_left, .ref h_v_right, .ref h_v_part, .int v_aMany, .int v_bMany, .int v_fiveMany, .int v_leftMany, .int v_rightMany, .int v_partMany, .int v_twos, .int v_at, .int v_digits, .int v_power, .int v_good])), (h_v_a, .inl (cI, n_v_a, .inl v_a_a)), (h_v_b, .inl (cI, n_v_b, .inl v_b_a)), (h_v_five, .inl (cI, n_v_five, .inl v_five_a)), (h_v_left, .inl (cI, n_v_left, .inl v_left_a)), (h_v_right, .inl (cI, n_v_right, .inl v_right_a))] sz) (zz_Qi (dC, dI) vwCl u.1 [(h_v, .inr (7, [.ref h_v_text, .ref h_v_written, .int v_length, .int v_laid, .int v_gone, .int v_thrown, .int v_were, .int v_none, .int v_beyond, .ref h_v_a, .ref h_v_b, .ref h_v_five, .ref h_v_left, .ref h_v_right, .ref h_v_part, .int u.2.1, .int v_bMany, .int v_fiveMany, .int u.2.2.1, .int u.2.2.2.1, .int v_partMany, .int v_twos, .int v_at, .int v_digits, .int v_power, .int v_good])), (h_v_a, .inl (cI, n_v_a, .inl u.2.2.2.2.1)), (h_v_b, .inl (cI, n_v_b, .inl v_b_a)), (h_v_five, .inl (cI, n_v_five, .inl v_five_a)), (h_v_left, .inl (cI, n_v_left, .inl u.2.2.2.2.2.1)), (h_v_right, .inl (cI, n_v_right, .inl u.2.2.2.2.2.2))] (va_A [(h_v, .inr (7, [.ref h_v_text, .ref h_v_written, .int v_length, .int v_laid, .int v_gone, .int v_thrown, .int v_were, .int v_none, .int v_beyond, .ref h_v_a, .ref h_v_b, .ref h_v_five, .ref h_v_left, .ref h_v_right, .ref h_v_part, .int v_aMany, .int v_bMany, .int v_fiveMany, .int v_leftMany, .int v_rightMany, .int v_partMany, .int v_twos, .int v_at, .int v_digits, .int v_power, .int v_good])), (h_v_a, .inl (cI, n_v_a, .inl v_a_a)), (h_v_b, .inl (cI, n_v_b, .inl v_b_a)), (h_v_five, .inl (cI, n_v_five, .inl v_five_a)), (h_v_left, .inl (cI, n_v_left, .inl v_left_a)), (h_v_right, .inl (cI, n_v_right, .inl v_right_a))] sz)) 0 0 (va_A [(h_v, .inr (7, [.ref h_v_text, .ref h_v_written, .int v_length, .int v_laid, .int v_gone, .int v_thrown, .int v_were, .int v_none, .int v_beyond, .ref h_v_a, .ref h_v_b, .ref h_v_five, .ref h_v_left, .ref h_v_right, .ref h_v_part, .int v_aMany, .int v_bMany, .int v_fiveMany, .int v_leftMany, .int v_rightMany, .int v_partMany, .int v_twos, .int v_at, .int v_digits, .int v_power, .int v_good])), (h_v_a, .inl (cI, n_v_a, .inl v_a_a)), (h_v_b, .inl (cI, n_v_b, .inl v_b_a)), (h_v_five, .inl (cI, n_v_five, .inl v_five_a)), (h_v_left, .inl (cI, n_v_left, .inl v_left_a)), (h_v_right, .inl (cI, n_v_right, .inl v_right_a))] sz) := by
  refine Met.ofW (cc := prog_10_method_28_code) (maxL := 6) (ret := (some .int)) (by decide +kernel) rfl ?_
  intro p e s m args below meth c s₁ B hml hv
  obtain ⟨rfl, hsz, hP, hK, hD0, hX⟩ := hv
  have hx := B.exec
  have hb := B.bytes
  have hr := B.returns
  have hts := atoms_spec (ws := ws_Mod_compareDigits) B.pre
  have hw : ∀ w ∈ zw, w.before [.ref h_v, .long x1, .long x3, .int x5].toArray s = true := fun w h => hts w (List.mem_cons_of_mem _ h)
  have hown : s.vm.findClass R_Mod = some m.cls := findClass_of_methodNamed B.named
  have hlocks := B.notSynchronized
  subst hsz
  have hD := hD0.self (sz := s.heap.size)
  generalize hAe : va_A [(h_v, .inr (7, [.ref h_v_text, .ref h_v_written, .int v_length, .int v_laid, .int v_gone, .int v_thrown, .int v_were, .int v_none, .int v_beyond, .ref h_v_a, .ref h_v_b, .ref h_v_five, .ref h_v_left, .ref h_v_right, .ref h_v_part, .int v_aMany, .int v_bMany, .int v_fiveMany, .int v_leftMany, .int v_rightMany, .int v_partMany, .int v_twos, .int v_at, .int v_digits, .int v_power, .int v_good])), (h_v_a, .inl (cI, n_v_a, .inl v_a_a)), (h_v_b, .inl (cI, n_v_b, .inl v_b_a)), (h_v_five, .inl (cI, n_v_five, .inl v_five_a)), (h_v_left, .inl (cI, n_v_left, .inl v_left_a)), (h_v_right, .inl (cI, n_v_right, .inl v_right_a))] s.heap.size = A at hD hX ⊢
  have hA : ∀ q : Nat, s.heap.size ≤ q → A q := fun q h => by rw [← hAe]; exact Or.inr h
  have hS : va_S A s.heap s.heap [] := va_S.rf
  have hl := lv_entry [.ref h_v, .long x1, .long x3, .int x5] (n := 6) (Nat.le_of_ble_eq_true rfl)
  rw [lg_entry_eq]
  generalize (lg_sl [.ref h_v, .long x1, .long x3, .int x5] ++ List.replicate (6 - (lg_sl [.ref h_v, .long x1, .long x3, .int x5]).length) Slot.unset).toArray = ls at hl ⊢
  have hl : lv_has ls 6 [(0, .ref h_v), (1, .long x1), (3, .long x3), (5, .int x5)] := hl
  refine zz_endi hx hb hr hlocks (fun Qq hend => ?_)
  unfold f_Mod_compareDigits at hf
  refine lv_aload_n hx hb d_Mod_compareDigits_0 rfl (lv_at hl 0 rfl) ?_
  refine lv_aload_n hx hb d_Mod_compareDigits_1 rfl (lv_at hl 0 rfl) ?_
  refine lv_aload_n hx hb d_Mod_compareDigits_2 rfl (lv_at hl 0 rfl) ?_
  refine va_get (D := (dC, dI)) (ci := 7) (v := .ref h_v_five) (C := R_Mod) (T := T_Mod) (N := 26) hx hb hw in_Mod hown hK hP 0 rfl rfl 11 (by decide) (hw _ wd_685) (fun _ h9 => h9) rfl d_Mod_compareDigits_3 ?_
  refine lv_aload_n hx hb d_Mod_compareDigits_6 rfl (lv_at hl 0 rfl) ?_
  refine va_get (D := (dC, dI)) (ci := 7) (v := .int v_fiveMany) (C := R_Mod) (T := T_Mod) (N := 26) hx hb hw in_Mod hown hK hP 0 rfl rfl 17 (by decide) (hw _ wd_691) (fun _ h9 => h9) rfl d_Mod_compareDigits_7 ?_
  refine lv_lload_n hx hb d_Mod_compareDigits_10 rfl (lv_at hl 1 rfl) ?_
  refine lv_aload_n hx hb d_Mod_compareDigits_11 rfl (lv_at hl 0 rfl) ?_
  refine va_get (D := (dC, dI)) (ci := 7) (v := .ref h_v_a) (C := R_Mod) (T := T_Mod) (N := 26) hx hb hw in_Mod hown hK hP 0 rfl rfl 9 (by decide) (hw _ wd_683) (fun _ h9 => h9) rfl d_Mod_compareDigits_12 ?_
  obtain ⟨u_1, hu_1, hf⟩ := zz_bd hf
  refine zz_ci (ws' := [(h_v, .inr (7, [.ref h_v_text, .ref h_v_written, .int v_length, .int v_laid, .int v_gone, .int v_thrown, .int v_were, .int v_none, .int v_beyond, .ref h_v_a, .ref h_v_b, .ref h_v_five, .ref h_v_left, .ref h_v_right, .ref h_v_part, .int v_aMany, .int v_bMany, .int v_fiveMany, .int v_leftMany, .int v_rightMany, .int v_partMany, .int v_twos, .int v_at, .int v_digits, .int v_power, .int v_good])), (h_v_a, .inl (cI, n_v_a, .inl u_1.2)), (h_v_b, .inl (cI, n_v_b, .inl v_b_a)), (h_v_five, .inl (cI, n_v_five, .inl v_five_a)), (h_v_left, .inl (cI, n_v_left, .inl v_left_a)), (h_v_right, .inl (cI, n_v_right, .inl v_right_a))]) (wc := [(h_v_five, .inl (cI, n_v_five, .inl v_five_a)), (h_v_a, .inl (cI, n_v_a, .inl v_a_a))]) (w' := [(h_v_five, .inl (cI, n_v_five, .inl v_five_a)), (h_v_a, .inl (cI, n_v_a, .inl u_1.2))]) hP hD hS hA [3, 1] [0, 2, 4, 5] [0, 5, 1, 4, 2, 3] rfl rfl (by decide) (by decide) rfl (by decide) (va_runV (As := [.ref h_v_five, .int v_fiveMany, .long x1, .ref h_v_a]) (rest := [.ref h_v]) ⟨hx, hb, hml, hown, hw⟩ (c_Mod_times l dC dI cI cC cB cJ fu _ h_v_five h_v_a n_v_five n_v_a h_v v_fiveMany x1 v_five_a v_a_a u_1 hu_1) (cwV 4 hw (zg_V wd_836 wd_838 we_2_2 wd_8 wd_839) rfl rfl rfl hd_Mod_times ⟨Nat.le_of_ble_eq_true rfl, Nat.le_of_ble_eq_true rfl⟩) (zz_preV zz_TE (va_recv (q0 := 0) (ci := 7) hK hP rfl rfl) hP hD hK hS hA trivial [3, 1] rfl (by decide)) rfl rfl hl.1 rfl (lv_room (Nat.le_of_ble_eq_true rfl)) d_Mod_compareDigits_15 ⟨Nat.zero_le _, Nat.zero_le _⟩) (fun H locs hP hD hS => ?_)
  refine va_put (D := (dC, dI)) (ci := 7) (v := .int u_1.1) (ty := .int) (C := R_Mod) (T := T_Mod) (N := 26) hx hb hw in_Mod ty_Mod tyok_Mod nm_Mod hown hK hP hD hS 0 rfl rfl 15 (by decide) (hw _ wd_689) (fun _ h9 => h9) rfl (tyok_Mod 15 (by decide)) rfl rfl (Nat.le_of_ble_eq_true rfl) d_Mod_compareDigits_18 (fun H locs hP hD hS => ?_)
  have hP : va_P (dC, dI) vwCl [(h_v, .inr (7, [.ref h_v_text, .ref h_v_written, .int v_length, .int v_laid, .int v_gone, .int v_thrown, .int v_were, .int v_none, .int v_beyond, .ref h_v_a, .ref h_v_b, .ref h_v_five, .ref h_v_left, .ref h_v_right, .ref h_v_part, .int u_1.1, .int v_bMany, .int v_fiveMany, .int v_leftMany, .int v_rightMany, .int v_partMany, .int v_twos, .int v_at, .int v_digits, .int v_power, .int v_good])), (h_v_a, .inl (cI, n_v_a, .inl u_1.2)), (h_v_b, .inl (cI, n_v_b, .inl v_b_a)), (h_v_five, .inl (cI, n_v_five, .inl v_five_a)), (h_v_left, .inl (cI, n_v_left, .inl v_left_a)), (h_v_right, .inl (cI, n_v_right, .inl v_right_a))] H := hP
  have hD : va_D A [(h_v, .inr (7, [.ref h_v_text, .ref h_v_written, .int v_length, .int v_laid, .int v_gone, .int v_thrown, .int v_were, .int v_none, .int v_beyond, .ref h_v_a, .ref h_v_b, .ref h_v_five, .ref h_v_left, .ref h_v_right, .ref h_v_part, .int u_1.1, .int v_bMany, .int v_fiveMany, .int v_leftMany, .int v_rightMany, .int v_partMany, .int v_twos, .int v_at, .int v_digits, .int v_power, .int v_good])), (h_v_a, .inl (cI, n_v_a, .inl u_1.2)), (h_v_b, .inl (cI, n_v_b, .inl v_b_a)), (h_v_five, .inl (cI, n_v_five, .inl v_five_a)), (h_v_left, .inl (cI, n_v_left, .inl v_left_a)), (h_v_right, .inl (cI, n_v_right, .inl v_right_a))] := hD
  refine lv_aload_n hx hb d_Mod_compareDigits_21 rfl (lv_at hl 0 rfl) ?_
  refine lv_lload_n hx hb d_Mod_compareDigits_22 rfl (lv_at hl 2 rfl) ?_
  refine lv_iload hx hb d_Mod_compareDigits_23 (lv_at hl 3 rfl) ?_
  obtain ⟨u_2, hu_2, hf⟩ := zz_bd hf
  refine zz_ci (ws' := [(h_v, .inr (7, [.ref h_v_text, .ref h_v_written, .int v_length, .int v_laid, .int v_gone, .int v_thrown, .int v_were, .int v_none, .int v_beyond, .ref h_v_a, .ref h_v_b, .ref h_v_five, .ref h_v_left, .ref h_v_right, .ref h_v_part, .int u_1.1, .int v_bMany, .int v_fiveMany, .int u_2.2.1, .int u_2.2.2.1, .int v_partMany, .int v_twos, .int v_at, .int v_digits, .int v_power, .int v_good])), (h_v_a, .inl (cI, n_v_a, .inl u_1.2)), (h_v_b, .inl (cI, n_v_b, .inl v_b_a)), (h_v_five, .inl (cI, n_v_five, .inl v_five_a)), (h_v_left, .inl (cI, n_v_left, .inl u_2.2.2.2.1)), (h_v_right, .inl (cI, n_v_right, .inl u_2.2.2.2.2))]) (wc := [(h_v, .inr (7, [.ref h_v_text, .ref h_v_written, .int v_length, .int v_laid, .int v_gone, .int v_thrown, .int v_were, .int v_none, .int v_beyond, .ref h_v_a, .ref h_v_b, .ref h_v_five, .ref h_v_left, .ref h_v_right, .ref h_v_part, .int u_1.1, .int v_bMany, .int v_fiveMany, .int v_leftMany, .int v_rightMany, .int v_partMany, .int v_twos, .int v_at, .int v_digits, .int v_power, .int v_good])), (h_v_a, .inl (cI, n_v_a, .inl u_1.2)), (h_v_b, .inl (cI, n_v_b, .inl v_b_a)), (h_v_left, .inl (cI, n_v_left, .inl v_left_a)), (h_v_right, .inl (cI, n_v_right, .inl v_right_a))]) (w' := [(h_v, .inr (7, [.ref h_v_text, .ref h_v_written, .int v_length, .int v_laid, .int v_gone, .int v_thrown, .int v_were, .int v_none, .int v_beyond, .ref h_v_a, .ref h_v_b, .ref h_v_five, .ref h_v_left, .ref h_v_right, .ref h_v_part, .int u_1.1, .int v_bMany, .int v_fiveMany, .int u_2.2.1, .int u_2.2.2.1, .int v_partMany, .int v_twos, .int v_at, .int v_digits, .int v_power, .int v_good])), (h_v_a, .inl (cI, n_v_a, .inl u_1.2)), (h_v_b, .inl (cI, n_v_b, .inl v_b_a)), (h_v_left, .inl (cI, n_v_left, .inl u_2.2.2.2.1)), (h_v_right, .inl (cI, n_v_right, .inl u_2.2.2.2.2))]) hP hD hS hA [0, 1, 2, 4, 5] [3] [1, 2, 3, 0, 4, 5] rfl rfl (by decide) (by decide) rfl (by decide) (va_runV (As := [.long x3, .int x5]) (rest := []) ⟨hx, hb, hml, hown, hw⟩ (c_Mod_compare l dC dI cI cC cB cJ fu _ h_v h_v_a h_v_b h_v_left h_v_right h_v_text h_v_written h_v_five h_v_part n_v_a n_v_b n_v_left n_v_right x3 x5 v_length v_laid v_gone v_thrown v_were v_none v_beyond u_1.1 v_bMany v_fiveMany v_leftMany v_rightMany v_partMany v_twos v_at v_digits v_power v_good u_1.2 v_b_a v_left_a v_right_a u_2 hu_2) (cwV 2 hw (zg_V wd_829 wd_831 we_2_1 wd_8 wd_832) rfl rfl rfl hd_Mod_compare ⟨Nat.le_of_ble_eq_true rfl, Nat.le_of_ble_eq_true rfl⟩) (zz_preV zz_TE (va_recv (q0 := 0) (ci := 7) hK hP rfl rfl) hP hD hK hS hA trivial [0, 1, 2, 4, 5] rfl (by decide)) rfl rfl hl.1 rfl (lv_room (Nat.le_of_ble_eq_true rfl)) d_Mod_compareDigits_25 ⟨Nat.zero_le _, Nat.zero_le _⟩) (fun H locs hP hD hS => ?_)
  cases hf
  exact hend 28 ls _ _ d_Mod_compareDigits_28 hP hD hS
abbrev ws_Mod_tens : List Cond := .code y_Mod_tens prog_10_method_29_code 7 (some .int) :: zw
abbrev rm_Mod_tens : Room := { frames := 5, cells := 0, slots := 0, locals := 125 }
theorem hd_Mod_tens : y_Mod_tens.cls = "RealTextModel" ∧ y_Mod_tens.cls ≠ "java/lang/invoke/MethodHandle" ∧ y_Mod_tens.cls ≠ "java/lang/invoke/VarHandle" ∧ (parseMethodDescriptor y_Mod_tens.desc).map (fun d => d.parameters.length) = some 2 := by decide +kernel
theorem d_Mod_tens_0 : decode prog_10_method_29_code 0 = .ok (.sipush (-330), 3) := by decide +kernel
theorem d_Mod_tens_3 : decode prog_10_method_29_code 3 = .ok (.istore 4, 2) := by decide +kernel
theorem d_Mod_tens_5 : decode prog_10_method_29_code 5 = .ok (.sipush 310, 3) := by decide +kernel
theorem d_Mod_tens_8 : decode prog_10_method_29_code 8 = .ok (.istore 5, 2) := by decide +kernel
theorem d_Mod_tens_10 : decode prog_10_method_29_code 10 = .ok (.iload 4, 2) := by decide +kernel
theorem d_Mod_tens_12 : decode prog_10_method_29_code 12 = .ok (.iload 5, 2) := by decide +kernel
theorem d_Mod_tens_14 : decode prog_10_method_29_code 14 = .ok (.if_icmp .ge 49, 3) := by decide +kernel
theorem d_Mod_tens_17 : decode prog_10_method_29_code 17 = .ok (.iload 4, 2) := by decide +kernel
theorem d_Mod_tens_19 : decode prog_10_method_29_code 19 = .ok (.iload 5, 2) := by decide +kernel
theorem d_Mod_tens_21 : decode prog_10_method_29_code 21 = .ok (.iload 4, 2) := by decide +kernel
theorem d_Mod_tens_23 : decode prog_10_method_29_code 23 = .ok (.isub, 1) := by decide +kernel
theorem d_Mod_tens_24 : decode prog_10_method_29_code 24 = .ok (.iconst 1, 1) := by decide +kernel
theorem d_Mod_tens_25 : decode prog_10_method_29_code 25 = .ok (.iadd, 1) := by decide +kernel
theorem d_Mod_tens_26 : decode prog_10_method_29_code 26 = .ok (.iconst 2, 1) := by decide +kernel
theorem d_Mod_tens_27 : decode prog_10_method_29_code 27 = .ok (.idiv, 1) := by decide +kernel
theorem d_Mod_tens_28 : decode prog_10_method_29_code 28 = .ok (.iadd, 1) := by decide +kernel
theorem d_Mod_tens_29 : decode prog_10_method_29_code 29 = .ok (.istore 6, 2) := by decide +kernel
theorem d_Mod_tens_31 : decode prog_10_method_29_code 31 = .ok (.aload_n 0, 1) := by decide +kernel
theorem d_Mod_tens_32 : decode prog_10_method_29_code 32 = .ok (.iload 6, 2) := by decide +kernel
theorem d_Mod_tens_34 : decode prog_10_method_29_code 34 = .ok (.invokevirtual 174, 3) := by decide +kernel
theorem d_Mod_tens_37 : decode prog_10_method_29_code 37 = .ok (.aload_n 0, 1) := by decide +kernel
theorem d_Mod_tens_38 : decode prog_10_method_29_code 38 = .ok (.lconst 1, 1) := by decide +kernel
theorem d_Mod_tens_39 : decode prog_10_method_29_code 39 = .ok (.lload_n 1, 1) := by decide +kernel
theorem d_Mod_tens_40 : decode prog_10_method_29_code 40 = .ok (.iload_n 3, 1) := by decide +kernel
theorem d_Mod_tens_41 : decode prog_10_method_29_code 41 = .ok (.invokevirtual 178, 3) := by decide +kernel
theorem d_Mod_tens_44 : decode prog_10_method_29_code 44 = .ok (.ifCond .gt 10, 3) := by decide +kernel
theorem d_Mod_tens_47 : decode prog_10_method_29_code 47 = .ok (.iload 6, 2) := by decide +kernel
theorem d_Mod_tens_49 : decode prog_10_method_29_code 49 = .ok (.istore 4, 2) := by decide +kernel
theorem d_Mod_tens_51 : decode prog_10_method_29_code 51 = .ok (.goto 9, 3) := by decide +kernel
theorem d_Mod_tens_54 : decode prog_10_method_29_code 54 = .ok (.iload 6, 2) := by decide +kernel
theorem d_Mod_tens_56 : decode prog_10_method_29_code 56 = .ok (.iconst 1, 1) := by decide +kernel
theorem d_Mod_tens_57 : decode prog_10_method_29_code 57 = .ok (.isub, 1) := by decide +kernel
theorem d_Mod_tens_58 : decode prog_10_method_29_code 58 = .ok (.istore 5, 2) := by decide +kernel
theorem d_Mod_tens_60 : decode prog_10_method_29_code 60 = .ok (.goto (-50), 3) := by decide +kernel
theorem d_Mod_tens_63 : decode prog_10_method_29_code 63 = .ok (.iload 4, 2) := by decide +kernel
theorem d_Mod_tens_65 : decode prog_10_method_29_code 65 = .ok (.ireturn, 1) := by decide +kernel
def f_Mod_tens_10 (fu : Nat) (n_v_a : Nat) (n_v_b : Nat) (n_v_five : Nat) (n_v_left : Nat) (n_v_right : Nat) (x1 : Int64) (x3 : Int32)  : Nat → Int32 → Int32 → Int32 → Int32 → Int32 → Int32 → Int32 → Int32 → (Nat → Int32) → (Nat → Int32) → (Nat → Int32) → (Nat → Int32) → (Nat → Int32) → Option (Int32 × Int32 × Int32 × Int32 × Int32 × Int32 × Int32 × (Nat → Int32) × (Nat → Int32) × (Nat → Int32) × (Nat → Int32) × (Nat → Int32))
  | 0, _, _, _, _, _, _, _, _, _, _, _, _, _ => none
  | n + 1, y4, y5, v_aMany, v_bMany, v_fiveMany, v_leftMany, v_rightMany, v_twos, v_a_a, v_b_a, v_five_a, v_left_a, v_right_a =>
  (if y5 ≤ y4 then
  some (y4, v_aMany, v_bMany, v_fiveMany, v_leftMany, v_rightMany, v_twos, v_a_a, v_b_a, v_five_a, v_left_a, v_right_a)
  else
  zz_lt (y4 + (((y5 - y4) + 1) / 2)) fun x6_1 =>
  (f_Mod_scale fu n_v_b n_v_five x6_1 v_bMany v_fiveMany v_twos v_b_a v_five_a).bind fun u_2 =>
  (f_Mod_compareDigits fu n_v_a n_v_b n_v_five n_v_left n_v_right 1 x1 x3 v_aMany u_2.1 u_2.2.1 v_leftMany v_rightMany u_2.2.2.1 v_a_a u_2.2.2.2.1 u_2.2.2.2.2 v_left_a v_right_a).bind fun u_3 =>
  (if 0 < u_3.1 then
  zz_lt (x6_1 - 1) fun x5_4 =>
  f_Mod_tens_10 fu n_v_a n_v_b n_v_five n_v_left n_v_right x1 x3 n y4 x5_4 u_3.2.1 u_2.1 u_2.2.1 u_3.2.2.1 u_3.2.2.2.1 u_2.2.2.1 u_3.2.2.2.2.1 u_2.2.2.2.1 u_2.2.2.2.2 u_3.2.2.2.2.2.1 u_3.2.2.2.2.2.2
  else
  f_Mod_tens_10 fu n_v_a n_v_b n_v_five n_v_left n_v_right x1 x3 n x6_1 y5 u_3.2.1 u_2.1 u_2.2.1 u_3.2.2.1 u_3.2.2.2.1 u_2.2.2.1 u_3.2.2.2.2.1 u_2.2.2.2.1 u_2.2.2.2.2 u_3.2.2.2.2.2.1 u_3.2.2.2.2.2.2))
theorem f_Mod_tens_10_s (fu : Nat) (n_v_a : Nat) (n_v_b : Nat) (n_v_five : Nat) (n_v_left : Nat) (n_v_right : Nat) (x1 : Int64) (x3 : Int32)  (n : Nat) (y4 : Int32) (y5 : Int32) (v_aMany : Int32) (v_bMany : Int32) (v_fiveMany : Int32) (v_leftMany : Int32) (v_rightMany : Int32) (v_twos : Int32) (v_a_a : Nat → Int32) (v_b_a : Nat → Int32) (v_five_a : Nat → Int32) (v_left_a : Nat → Int32) (v_right_a : Nat → Int32) : f_Mod_tens_10 fu n_v_a n_v_b n_v_five n_v_left n_v_right x1 x3 (n + 1) y4 y5 v_aMany v_bMany v_fiveMany v_leftMany v_rightMany v_twos v_a_a v_b_a v_five_a v_left_a v_right_a =
  (if y5 ≤ y4 then
  some (y4, v_aMany, v_bMany, v_fiveMany, v_leftMany, v_rightMany, v_twos, v_a_a, v_b_a, v_five_a, v_left_a, v_right_a)
  else
  zz_lt (y4 + (((y5 - y4) + 1) / 2)) fun x6_1 =>
  (f_Mod_scale fu n_v_b n_v_five x6_1 v_bMany v_fiveMany v_twos v_b_a v_five_a).bind fun u_2 =>
  (f_Mod_compareDigits fu n_v_a n_v_b n_v_five n_v_left n_v_right 1 x1 x3 v_aMany u_2.1 u_2.2.1 v_leftMany v_rightMany u_2.2.2.1 v_a_a u_2.2.2.2.1 u_2.2.2.2.2 v_left_a v_right_a).bind fun u_3 =>
  (if 0 < u_3.1 then
  zz_lt (x6_1 - 1) fun x5_4 =>
  f_Mod_tens_10 fu n_v_a n_v_b n_v_five n_v_left n_v_right x1 x3 n y4 x5_4 u_3.2.1 u_2.1 u_2.2.1 u_3.2.2.1 u_3.2.2.2.1 u_2.2.2.1 u_3.2.2.2.2.1 u_2.2.2.2.1 u_2.2.2.2.2 u_3.2.2.2.2.2.1 u_3.2.2.2.2.2.2
  else
  f_Mod_tens_10 fu n_v_a n_v_b n_v_five n_v_left n_v_right x1 x3 n x6_1 y5 u_3.2.1 u_2.1 u_2.2.1 u_3.2.2.1 u_3.2.2.2.1 u_2.2.2.1 u_3.2.2.2.2.1 u_2.2.2.2.1 u_2.2.2.2.2 u_3.2.2.2.2.2.1 u_3.2.2.2.2.2.2)) := rfl
def f_Mod_tens (fu : Nat) (n_v_a : Nat) (n_v_b : Nat) (n_v_five : Nat) (n_v_left : Nat) (n_v_right : Nat) (x1 : Int64) (x3 : Int32) (v_aMany : Int32) (v_bMany : Int32) (v_fiveMany : Int32) (v_leftMany : Int32) (v_rightMany : Int32) (v_twos : Int32) (v_a_a : Nat → Int32) (v_b_a : Nat → Int32) (v_five_a : Nat → Int32) (v_left_a : Nat → Int32) (v_right_a : Nat → Int32) : Option (Int32 × Int32 × Int32 × Int32 × Int32 × Int32 × Int32 × (Nat → Int32) × (Nat → Int32) × (Nat → Int32) × (Nat → Int32) × (Nat → Int32)) :=
  f_Mod_tens_10 fu n_v_a n_v_b n_v_five n_v_left n_v_right x1 x3 fu (-330) 310 v_aMany v_bMany v_fiveMany v_leftMany v_rightMany v_twos v_a_a v_b_a v_five_a v_left_a v_right_a
set_option maxHeartbeats 4000000 in
set_option maxRecDepth 100000 in
theorem c_Mod_tens (l : Launch) (dC : Nat → ClassId) (dI : Nat → Nat → Nat) (cI cC cB cJ : ClassId) (fu : Nat) (sz : Nat) (h_v : Nat) (h_v_a : Nat) (h_v_b : Nat) (h_v_five : Nat) (h_v_left : Nat) (h_v_right : Nat) (h_v_text : Nat) (h_v_written : Nat) (h_v_part : Nat) (n_v_a : Nat) (n_v_b : Nat) (n_v_five : Nat) (n_v_left : Nat) (n_v_right : Nat) (x1 : Int64) (x3 : Int32) (v_length : Int32) (v_laid : Int32) (v_gone : Int32) (v_thrown : Int32) (v_were : Int32) (v_none : Int32) (v_beyond : Int32) (v_aMany : Int32) (v_bMany : Int32) (v_fiveMany : Int32) (v_leftMany : Int32) (v_rightMany : Int32) (v_partMany : Int32) (v_twos : Int32) (v_at : Int32) (v_digits : Int32) (v_power : Int32) (v_good : Int32) (v_a_a : Nat → Int32) (v_b_a : Nat → Int32) (v_five_a : Nat → Int32) (v_left_a : Nat → Int32) (v_right_a : Nat → Int32) (u : Int32 × Int32 × Int32 × Int32 × Int32 × Int32 × Int32 × (Nat → Int32) × (Nat → Int32) × (Nat → Int32) × (Nat → Int32) × (Nat → Int32)) (hf : f_Mod_tens fu n_v_a n_v_b n_v_five n_v_left n_v_right x1 x3 v_aMany v_bMany v_fiveMany v_leftMany v_rightMany v_twos v_a_a v_b_a v_five_a v_left_a v_right_a = some u) : Met l y_Mod_tens ws_Mod_tens rm_Mod_tens (zz_P zz_T (dC, dI) vwCl (zz_tys cI cC cB cJ) [.ref h_v, .long x1, .int x3] [(h_v, .inr (7, [.ref h_v_text, .ref h_v_written, .int v_length, .int v_laid, .int v_gone, .int v_thrown, .int v_were, .int v_none, .int v_beyond, .ref h_v_a, .ref h_v_b, .ref h_v_five, .ref h_v_left, .ref h_v_right, .ref h_v_part, .int v_aMany, .int v_bMany, .int v_fiveMany, .int v_leftMany, .int v_rightMany, .int v_partMany, .int v_twos, .int v_at, .int v_digits, .int v_power, .int v_good])), (h_v_a, .inl (cI, n_v_a, .inl v_a_a)), (h_v_b, .inl (cI, n_v_b, .inl v_b_a)), (h_v_five, .inl (cI, n_v_five, .inl v_five_a)), (h_v_left, .inl (cI, n_v_left, .inl v_left_a)), (h_v_right, .inl (cI, n_v_right, .inl v_right_a))] sz) (zz_Qi (dC, dI) vwCl u.1 [(h_v, .inr (7, [.ref h_v_text, .ref h_v_written, .int v_length, .int v_laid, .int v_gone, .int v_thrown, .int v_were, .int v_none, .int v_beyond, .ref h_v_a, .ref h_v_b, .ref h_v_five, .ref h_v_left, .ref h_v_right, .ref h_v_part, .int u.2.1, .int u.2.2.1, .int u.2.2.2.1, .int u.2.2.2.2.1, .int u.2.2.2.2.2.1, .int v_partMany, .int u.2.2.2.2.2.2.1, .int v_at, .int v_digits, .int v_power, .int v_good])), (h_v_a, .inl (cI, n_v_a, .inl u.2.2.2.2.2.2.2.1)), (h_v_b, .inl (cI, n_v_b, .inl u.2.2.2.2.2.2.2.2.1)), (h_v_five, .inl (cI, n_v_five, .inl u.2.2.2.2.2.2.2.2.2.1)), (h_v_left, .inl (cI, n_v_left, .inl u.2.2.2.2.2.2.2.2.2.2.1)), (h_v_right, .inl (cI, n_v_right, .inl u.2.2.2.2.2.2.2.2.2.2.2))] (va_A [(h_v, .inr (7, [.ref h_v_text, .ref h_v_written, .int v_length, .int v_laid, .int v_gone, .int v_thrown, .int v_were, .int v_none, .int v_beyond, .ref h_v_a, .ref h_v_b, .ref h_v_five, .ref h_v_left, .ref h_v_right, .ref h_v_part, .int v_aMany, .int v_bMany, .int v_fiveMany, .int v_leftMany, .int v_rightMany, .int v_partMany, .int v_twos, .int v_at, .int v_digits, .int v_power, .int v_good])), (h_v_a, .inl (cI, n_v_a, .inl v_a_a)), (h_v_b, .inl (cI, n_v_b, .inl v_b_a)), (h_v_five, .inl (cI, n_v_five, .inl v_five_a)), (h_v_left, .inl (cI, n_v_left, .inl v_left_a)), (h_v_right, .inl (cI, n_v_right, .inl v_right_a))] sz)) 0 0 (va_A [(h_v, .inr (7, [.ref h_v_text, .ref h_v_written, .int v_length, .int v_laid, .int v_gone, .int v_thrown, .int v_were, .int v_none, .int v_beyond, .ref h_v_a, .ref h_v_b, .ref h_v_five, .ref h_v_left, .ref h_v_right, .ref h_v_part, .int v_aMany, .int v_bMany, .int v_fiveMany, .int v_leftMany, .int v_rightMany, .int v_partMany, .int v_twos, .int v_at, .int v_digits, .int v_power, .int v_good])), (h_v_a, .inl (cI, n_v_a, .inl v_a_a)), (h_v_b, .inl (cI, n_v_b, .inl v_b_a)), (h_v_five, .inl (cI, n_v_five, .inl v_five_a)), (h_v_left, .inl (cI, n_v_left, .inl v_left_a)), (h_v_right, .inl (cI, n_v_right, .inl v_right_a))] sz) := by
  refine Met.ofW (cc := prog_10_method_29_code) (maxL := 7) (ret := (some .int)) (by decide +kernel) rfl ?_
  intro p e s m args below meth c s₁ B hml hv
  obtain ⟨rfl, hsz, hP, hK, hD0, hX⟩ := hv
  have hx := B.exec
  have hb := B.bytes
  have hr := B.returns
  have hts := atoms_spec (ws := ws_Mod_tens) B.pre
  have hw : ∀ w ∈ zw, w.before [.ref h_v, .long x1, .int x3].toArray s = true := fun w h => hts w (List.mem_cons_of_mem _ h)
  have hown : s.vm.findClass R_Mod = some m.cls := findClass_of_methodNamed B.named
  have hlocks := B.notSynchronized
  subst hsz
  have hD := hD0.self (sz := s.heap.size)
  generalize hAe : va_A [(h_v, .inr (7, [.ref h_v_text, .ref h_v_written, .int v_length, .int v_laid, .int v_gone, .int v_thrown, .int v_were, .int v_none, .int v_beyond, .ref h_v_a, .ref h_v_b, .ref h_v_five, .ref h_v_left, .ref h_v_right, .ref h_v_part, .int v_aMany, .int v_bMany, .int v_fiveMany, .int v_leftMany, .int v_rightMany, .int v_partMany, .int v_twos, .int v_at, .int v_digits, .int v_power, .int v_good])), (h_v_a, .inl (cI, n_v_a, .inl v_a_a)), (h_v_b, .inl (cI, n_v_b, .inl v_b_a)), (h_v_five, .inl (cI, n_v_five, .inl v_five_a)), (h_v_left, .inl (cI, n_v_left, .inl v_left_a)), (h_v_right, .inl (cI, n_v_right, .inl v_right_a))] s.heap.size = A at hD hX ⊢
  have hA : ∀ q : Nat, s.heap.size ≤ q → A q := fun q h => by rw [← hAe]; exact Or.inr h
  have hS : va_S A s.heap s.heap [] := va_S.rf
  have hl := lv_entry [.ref h_v, .long x1, .int x3] (n := 7) (Nat.le_of_ble_eq_true rfl)
  rw [lg_entry_eq]
  generalize (lg_sl [.ref h_v, .long x1, .int x3] ++ List.replicate (7 - (lg_sl [.ref h_v, .long x1, .int x3]).length) Slot.unset).toArray = ls at hl ⊢
  have hl : lv_has ls 7 [(0, .ref h_v), (1, .long x1), (3, .int x3)] := hl
  refine zz_endi hx hb hr hlocks (fun Qq hend => ?_)
  have hL_10 : ∀ (n : Nat), ∀ (y4 : Int32) (y5 : Int32) (v_aMany : Int32) (v_bMany : Int32) (v_fiveMany : Int32) (v_leftMany : Int32) (v_rightMany : Int32) (v_twos : Int32) (v_a_a : Nat → Int32) (v_b_a : Nat → Int32) (v_five_a : Nat → Int32) (v_left_a : Nat → Int32) (v_right_a : Nat → Int32) (ls : Array Slot) (H : Heap) (locs : List Loc), lv_has ls 7 [(0, .ref h_v), (1, .long x1), (3, .int x3), (4, .int y4), (5, .int y5)] → va_P (dC, dI) vwCl [(h_v, .inr (7, [.ref h_v_text, .ref h_v_written, .int v_length, .int v_laid, .int v_gone, .int v_thrown, .int v_were, .int v_none, .int v_beyond, .ref h_v_a, .ref h_v_b, .ref h_v_five, .ref h_v_left, .ref h_v_right, .ref h_v_part, .int v_aMany, .int v_bMany, .int v_fiveMany, .int v_leftMany, .int v_rightMany, .int v_partMany, .int v_twos, .int v_at, .int v_digits, .int v_power, .int v_good])), (h_v_a, .inl (cI, n_v_a, .inl v_a_a)), (h_v_b, .inl (cI, n_v_b, .inl v_b_a)), (h_v_five, .inl (cI, n_v_five, .inl v_five_a)), (h_v_left, .inl (cI, n_v_left, .inl v_left_a)), (h_v_right, .inl (cI, n_v_right, .inl v_right_a))] H → va_D A [(h_v, .inr (7, [.ref h_v_text, .ref h_v_written, .int v_length, .int v_laid, .int v_gone, .int v_thrown, .int v_were, .int v_none, .int v_beyond, .ref h_v_a, .ref h_v_b, .ref h_v_five, .ref h_v_left, .ref h_v_right, .ref h_v_part, .int v_aMany, .int v_bMany, .int v_fiveMany, .int v_leftMany, .int v_rightMany, .int v_partMany, .int v_twos, .int v_at, .int v_digits, .int v_power, .int v_good])), (h_v_a, .inl (cI, n_v_a, .inl v_a_a)), (h_v_b, .inl (cI, n_v_b, .inl v_b_a)), (h_v_five, .inl (cI, n_v_five, .inl v_five_a)), (h_v_left, .inl (cI, n_v_left, .inl v_left_a)), (h_v_right, .inl (cI, n_v_right, .inl v_right_a))] → va_S A s.heap H locs → f_Mod_tens_10 fu n_v_a n_v_b n_v_five n_v_left n_v_right x1 x3 n y4 y5 v_aMany v_bMany v_fiveMany v_leftMany v_rightMany v_twos v_a_a v_b_a v_five_a v_left_a v_right_a = some u → W p l e (headSpec ws_Mod_tens rm_Mod_tens).room s m [.ref h_v, .long x1, .int x3].toArray below meth c H locs 0 0 Qq (F0 m 10 ls []) := by
    intro n
    induction n with
    | zero =>
      intro y4 y5 v_aMany v_bMany v_fiveMany v_leftMany v_rightMany v_twos v_a_a v_b_a v_five_a v_left_a v_right_a ls H locs hl hP hD hS hf
      exact zz_no hf
    | succ n ih =>
      intro y4 y5 v_aMany v_bMany v_fiveMany v_leftMany v_rightMany v_twos v_a_a v_b_a v_five_a v_left_a v_right_a ls H locs hl hP hD hS hf
      rw [f_Mod_tens_10_s] at hf
      refine lv_iload hx hb d_Mod_tens_10 (lv_at hl 3 rfl) ?_
      refine lv_iload hx hb d_Mod_tens_12 (lv_at hl 4 rfl) ?_
      refine lv_icmp_ge (tgt := 63) hx hb d_Mod_tens_14 (by decide) (fun hc => ?_) (fun hc => ?_)
      · have hf := zz_ifp hc hf
        refine lv_iload hx hb d_Mod_tens_63 (lv_at hl 3 rfl) ?_
        cases hf
        exact hend 65 ls _ _ d_Mod_tens_65 hP hD hS
      · have hf := zz_ifn hc hf
        refine lv_iload hx hb d_Mod_tens_17 (lv_at hl 3 rfl) ?_
        refine lv_iload hx hb d_Mod_tens_19 (lv_at hl 4 rfl) ?_
        refine lv_iload hx hb d_Mod_tens_21 (lv_at hl 3 rfl) ?_
        refine lv_isub hx hb d_Mod_tens_23 ?_
        refine lv_iconst (v := 1) hx hb d_Mod_tens_24 (by decide) ?_
        refine lv_iadd hx hb d_Mod_tens_25 ?_
        refine lv_iconst (v := 2) hx hb d_Mod_tens_26 (by decide) ?_
        refine lv_idiv hx hb d_Mod_tens_27 (by decide) ?_
        refine lv_iadd hx hb d_Mod_tens_28 ?_
        refine lv_topi (fun x6_1 e_x6_1 => ?_)
        have hf := zz_ltp hf x6_1 e_x6_1
        refine lv_istore hx hb d_Mod_tens_29 hl (by decide) rfl (fun ls hl => ?_)
        have hl : lv_has ls 7 [(6, .int x6_1), (0, .ref h_v), (1, .long x1), (3, .int x3), (4, .int y4), (5, .int y5)] := hl
        refine lv_aload_n hx hb d_Mod_tens_31 rfl (lv_at hl 1 rfl) ?_
        refine lv_iload hx hb d_Mod_tens_32 (lv_at hl 0 rfl) ?_
        obtain ⟨u_2, hu_2, hf⟩ := zz_bd hf
        refine zz_cv (ws' := [(h_v, .inr (7, [.ref h_v_text, .ref h_v_written, .int v_length, .int v_laid, .int v_gone, .int v_thrown, .int v_were, .int v_none, .int v_beyond, .ref h_v_a, .ref h_v_b, .ref h_v_five, .ref h_v_left, .ref h_v_right, .ref h_v_part, .int v_aMany, .int u_2.1, .int u_2.2.1, .int v_leftMany, .int v_rightMany, .int v_partMany, .int u_2.2.2.1, .int v_at, .int v_digits, .int v_power, .int v_good])), (h_v_a, .inl (cI, n_v_a, .inl v_a_a)), (h_v_b, .inl (cI, n_v_b, .inl u_2.2.2.2.1)), (h_v_five, .inl (cI, n_v_five, .inl u_2.2.2.2.2)), (h_v_left, .inl (cI, n_v_left, .inl v_left_a)), (h_v_right, .inl (cI, n_v_right, .inl v_right_a))]) (wc := [(h_v, .inr (7, [.ref h_v_text, .ref h_v_written, .int v_length, .int v_laid, .int v_gone, .int v_thrown, .int v_were, .int v_none, .int v_beyond, .ref h_v_a, .ref h_v_b, .ref h_v_five, .ref h_v_left, .ref h_v_right, .ref h_v_part, .int v_aMany, .int v_bMany, .int v_fiveMany, .int v_leftMany, .int v_rightMany, .int v_partMany, .int v_twos, .int v_at, .int v_digits, .int v_power, .int v_good])), (h_v_b, .inl (cI, n_v_b, .inl v_b_a)), (h_v_five, .inl (cI, n_v_five, .inl v_five_a))]) (w' := [(h_v, .inr (7, [.ref h_v_text, .ref h_v_written, .int v_length, .int v_laid, .int v_gone, .int v_thrown, .int v_were, .int v_none, .int v_beyond, .ref h_v_a, .ref h_v_b, .ref h_v_five, .ref h_v_left, .ref h_v_right, .ref h_v_part, .int v_aMany, .int u_2.1, .int u_2.2.1, .int v_leftMany, .int v_rightMany, .int v_partMany, .int u_2.2.2.1, .int v_at, .int v_digits, .int v_power, .int v_good])), (h_v_b, .inl (cI, n_v_b, .inl u_2.2.2.2.1)), (h_v_five, .inl (cI, n_v_five, .inl u_2.2.2.2.2))]) hP hD hS hA [0, 2, 3] [1, 4, 5] [3, 0, 4, 5, 1, 2] rfl rfl (by decide) (by decide) rfl (by decide) (va_runV (As := [.int x6_1]) (rest := []) ⟨hx, hb, hml, hown, hw⟩ (c_Mod_scale l dC dI cI cC cB cJ fu _ h_v h_v_b h_v_five h_v_text h_v_written h_v_a h_v_left h_v_right h_v_part n_v_b n_v_five x6_1 v_length v_laid v_gone v_thrown v_were v_none v_beyond v_aMany v_bMany v_fiveMany v_leftMany v_rightMany v_partMany v_twos v_at v_digits v_power v_good v_b_a v_five_a u_2 hu_2) (cwV 1 hw (zg_V wd_875 wd_877 we_2_9 wd_8 wd_878) rfl rfl rfl hd_Mod_scale ⟨Nat.le_of_ble_eq_true rfl, Nat.le_of_ble_eq_true rfl⟩) (zz_preV zz_TE (va_recv (q0 := 0) (ci := 7) hK hP rfl rfl) hP hD hK hS hA trivial [0, 2, 3] rfl (by decide)) rfl rfl hl.1 rfl (lv_room (Nat.le_of_ble_eq_true rfl)) d_Mod_tens_34 ⟨Nat.zero_le _, Nat.zero_le _⟩) (fun H locs hP hD hS => ?_)
        refine lv_aload_n hx hb d_Mod_tens_37 rfl (lv_at hl 1 rfl) ?_
        refine lv_lconst (v := 1) hx hb d_Mod_tens_38 (by decide) ?_
        refine lv_lload_n hx hb d_Mod_tens_39 rfl (lv_at hl 2 rfl) ?_
        refine lv_iload_n hx hb d_Mod_tens_40 rfl (lv_at hl 3 rfl) ?_
        obtain ⟨u_3, hu_3, hf⟩ := zz_bd hf
        refine zz_ci (ws' := [(h_v, .inr (7, [.ref h_v_text, .ref h_v_written, .int v_length, .int v_laid, .int v_gone, .int v_thrown, .int v_were, .int v_none, .int v_beyond, .ref h_v_a, .ref h_v_b, .ref h_v_five, .ref h_v_left, .ref h_v_right, .ref h_v_part, .int u_3.2.1, .int u_2.1, .int u_2.2.1, .int u_3.2.2.1, .int u_3.2.2.2.1, .int v_partMany, .int u_2.2.2.1, .int v_at, .int v_digits, .int v_power, .int v_good])), (h_v_a, .inl (cI, n_v_a, .inl u_3.2.2.2.2.1)), (h_v_b, .inl (cI, n_v_b, .inl u_2.2.2.2.1)), (h_v_five, .inl (cI, n_v_five, .inl u_2.2.2.2.2)), (h_v_left, .inl (cI, n_v_left, .inl u_3.2.2.2.2.2.1)), (h_v_right, .inl (cI, n_v_right, .inl u_3.2.2.2.2.2.2))]) (wc := [(h_v, .inr (7, [.ref h_v_text, .ref h_v_written, .int v_length, .int v_laid, .int v_gone, .int v_thrown, .int v_were, .int v_none, .int v_beyond, .ref h_v_a, .ref h_v_b, .ref h_v_five, .ref h_v_left, .ref h_v_right, .ref h_v_part, .int v_aMany, .int u_2.1, .int u_2.2.1, .int v_leftMany, .int v_rightMany, .int v_partMany, .int u_2.2.2.1, .int v_at, .int v_digits, .int v_power, .int v_good])), (h_v_a, .inl (cI, n_v_a, .inl v_a_a)), (h_v_b, .inl (cI, n_v_b, .inl u_2.2.2.2.1)), (h_v_five, .inl (cI, n_v_five, .inl u_2.2.2.2.2)), (h_v_left, .inl (cI, n_v_left, .inl v_left_a)), (h_v_right, .inl (cI, n_v_right, .inl v_right_a))]) (w' := [(h_v, .inr (7, [.ref h_v_text, .ref h_v_written, .int v_length, .int v_laid, .int v_gone, .int v_thrown, .int v_were, .int v_none, .int v_beyond, .ref h_v_a, .ref h_v_b, .ref h_v_five, .ref h_v_left, .ref h_v_right, .ref h_v_part, .int u_3.2.1, .int u_2.1, .int u_2.2.1, .int u_3.2.2.1, .int u_3.2.2.2.1, .int v_partMany, .int u_2.2.2.1, .int v_at, .int v_digits, .int v_power, .int v_good])), (h_v_a, .inl (cI, n_v_a, .inl u_3.2.2.2.2.1)), (h_v_b, .inl (cI, n_v_b, .inl u_2.2.2.2.1)), (h_v_five, .inl (cI, n_v_five, .inl u_2.2.2.2.2)), (h_v_left, .inl (cI, n_v_left, .inl u_3.2.2.2.2.2.1)), (h_v_right, .inl (cI, n_v_right, .inl u_3.2.2.2.2.2.2))]) hP hD hS hA [0, 1, 2, 3, 4, 5] [] [0, 1, 2, 3, 4, 5] rfl rfl (by decide) (by decide) rfl (by decide) (va_runV (As := [.long 1, .long x1, .int x3]) (rest := []) ⟨hx, hb, hml, hown, hw⟩ (c_Mod_compareDigits l dC dI cI cC cB cJ fu _ h_v h_v_a h_v_b h_v_five h_v_left h_v_right h_v_text h_v_written h_v_part n_v_a n_v_b n_v_five n_v_left n_v_right 1 x1 x3 v_length v_laid v_gone v_thrown v_were v_none v_beyond v_aMany u_2.1 u_2.2.1 v_leftMany v_rightMany v_partMany u_2.2.2.1 v_at v_digits v_power v_good v_a_a u_2.2.2.2.1 u_2.2.2.2.2 v_left_a v_right_a u_3 hu_3) (cwV 3 hw (zg_V wd_879 wd_881 we_2_10 wd_8 wd_882) rfl rfl rfl hd_Mod_compareDigits ⟨Nat.le_of_ble_eq_true rfl, Nat.le_of_ble_eq_true rfl⟩) (zz_preV zz_TE (va_recv (q0 := 0) (ci := 7) hK hP rfl rfl) hP hD hK hS hA trivial [0, 1, 2, 3, 4, 5] rfl (by decide)) rfl rfl hl.1 rfl (lv_room (Nat.le_of_ble_eq_true rfl)) d_Mod_tens_41 ⟨Nat.zero_le _, Nat.zero_le _⟩) (fun H locs hP hD hS => ?_)
        refine lv_if_gt (tgt := 54) hx hb d_Mod_tens_44 (by decide) (fun hc => ?_) (fun hc => ?_)
        · have hf := zz_ifp hc hf
          refine lv_iload hx hb d_Mod_tens_54 (lv_at hl 0 rfl) ?_
          refine lv_iconst (v := 1) hx hb d_Mod_tens_56 (by decide) ?_
          refine lv_isub hx hb d_Mod_tens_57 ?_
          refine lv_topi (fun x5_4 e_x5_4 => ?_)
          have hf := zz_ltp hf x5_4 e_x5_4
          refine lv_istore hx hb d_Mod_tens_58 hl (by decide) rfl (fun ls hl => ?_)
          have hl : lv_has ls 7 [(5, .int x5_4), (6, .int x6_1), (0, .ref h_v), (1, .long x1), (3, .int x3), (4, .int y4)] := hl
          refine lv_goto (tgt := 10) hx hb d_Mod_tens_60 (by decide) ?_
          exact ih y4 x5_4 u_3.2.1 u_2.1 u_2.2.1 u_3.2.2.1 u_3.2.2.2.1 u_2.2.2.1 u_3.2.2.2.2.1 u_2.2.2.2.1 u_2.2.2.2.2 u_3.2.2.2.2.2.1 u_3.2.2.2.2.2.2 ls _ _ (lv_sub hl [2, 3, 4, 5, 0] rfl) hP hD hS hf
        · have hf := zz_ifn hc hf
          refine lv_iload hx hb d_Mod_tens_47 (lv_at hl 0 rfl) ?_
          refine lv_istore hx hb d_Mod_tens_49 hl (by decide) rfl (fun ls hl => ?_)
          have hl : lv_has ls 7 [(4, .int x6_1), (6, .int x6_1), (0, .ref h_v), (1, .long x1), (3, .int x3), (5, .int y5)] := hl
          refine lv_goto (tgt := 60) hx hb d_Mod_tens_51 (by decide) ?_
          refine lv_goto (tgt := 10) hx hb d_Mod_tens_60 (by decide) ?_
          exact ih x6_1 y5 u_3.2.1 u_2.1 u_2.2.1 u_3.2.2.1 u_3.2.2.2.1 u_2.2.2.1 u_3.2.2.2.2.1 u_2.2.2.2.1 u_2.2.2.2.2 u_3.2.2.2.2.2.1 u_3.2.2.2.2.2.2 ls _ _ (lv_sub hl [2, 3, 4, 0, 5] rfl) hP hD hS hf
  unfold f_Mod_tens at hf
  refine lv_sipush (v := (-330)) hx hb d_Mod_tens_0 (by decide) ?_
  refine lv_istore hx hb d_Mod_tens_3 hl (by decide) rfl (fun ls hl => ?_)
  have hl : lv_has ls 7 [(4, .int (-330)), (0, .ref h_v), (1, .long x1), (3, .int x3)] := hl
  refine lv_sipush (v := 310) hx hb d_Mod_tens_5 (by decide) ?_
  refine lv_istore hx hb d_Mod_tens_8 hl (by decide) rfl (fun ls hl => ?_)
  have hl : lv_has ls 7 [(5, .int 310), (4, .int (-330)), (0, .ref h_v), (1, .long x1), (3, .int x3)] := hl
  exact hL_10 fu (-330) 310 v_aMany v_bMany v_fiveMany v_leftMany v_rightMany v_twos v_a_a v_b_a v_five_a v_left_a v_right_a ls _ _ (lv_sub hl [2, 3, 4, 1, 0] rfl) hP hD hS hf
abbrev ws_Mod_isRead : List Cond := .code y_Mod_isRead prog_10_method_30_code 9 (some .boolean) :: zw
abbrev rm_Mod_isRead : Room := { frames := 5, cells := 0, slots := 0, locals := 123 }
theorem hd_Mod_isRead : y_Mod_isRead.cls = "RealTextModel" ∧ y_Mod_isRead.cls ≠ "java/lang/invoke/MethodHandle" ∧ y_Mod_isRead.cls ≠ "java/lang/invoke/VarHandle" ∧ (parseMethodDescriptor y_Mod_isRead.desc).map (fun d => d.parameters.length) = some 3 := by decide +kernel
theorem d_Mod_isRead_0 : decode prog_10_method_30_code 0 = .ok (.aload_n 0, 1) := by decide +kernel
theorem d_Mod_isRead_1 : decode prog_10_method_30_code 1 = .ok (.aload_n 0, 1) := by decide +kernel
theorem d_Mod_isRead_2 : decode prog_10_method_30_code 2 = .ok (.aload_n 0, 1) := by decide +kernel
theorem d_Mod_isRead_3 : decode prog_10_method_30_code 3 = .ok (.getfield 22, 3) := by decide +kernel
theorem d_Mod_isRead_6 : decode prog_10_method_30_code 6 = .ok (.aload_n 0, 1) := by decide +kernel
theorem d_Mod_isRead_7 : decode prog_10_method_30_code 7 = .ok (.getfield 171, 3) := by decide +kernel
theorem d_Mod_isRead_10 : decode prog_10_method_30_code 10 = .ok (.lload_n 1, 1) := by decide +kernel
theorem d_Mod_isRead_11 : decode prog_10_method_30_code 11 = .ok (.aload_n 0, 1) := by decide +kernel
theorem d_Mod_isRead_12 : decode prog_10_method_30_code 12 = .ok (.getfield 16, 3) := by decide +kernel
theorem d_Mod_isRead_15 : decode prog_10_method_30_code 15 = .ok (.invokevirtual 75, 3) := by decide +kernel
theorem d_Mod_isRead_18 : decode prog_10_method_30_code 18 = .ok (.putfield 62, 3) := by decide +kernel
theorem d_Mod_isRead_21 : decode prog_10_method_30_code 21 = .ok (.aload_n 0, 1) := by decide +kernel
theorem d_Mod_isRead_22 : decode prog_10_method_30_code 22 = .ok (.lload_n 3, 1) := by decide +kernel
theorem d_Mod_isRead_23 : decode prog_10_method_30_code 23 = .ok (.lconst 1, 1) := by decide +kernel
theorem d_Mod_isRead_24 : decode prog_10_method_30_code 24 = .ok (.lsub, 1) := by decide +kernel
theorem d_Mod_isRead_25 : decode prog_10_method_30_code 25 = .ok (.iload 5, 2) := by decide +kernel
theorem d_Mod_isRead_27 : decode prog_10_method_30_code 27 = .ok (.invokevirtual 104, 3) := by decide +kernel
theorem d_Mod_isRead_30 : decode prog_10_method_30_code 30 = .ok (.istore 6, 2) := by decide +kernel
theorem d_Mod_isRead_32 : decode prog_10_method_30_code 32 = .ok (.aload_n 0, 1) := by decide +kernel
theorem d_Mod_isRead_33 : decode prog_10_method_30_code 33 = .ok (.lload_n 3, 1) := by decide +kernel
theorem d_Mod_isRead_34 : decode prog_10_method_30_code 34 = .ok (.iload 5, 2) := by decide +kernel
theorem d_Mod_isRead_36 : decode prog_10_method_30_code 36 = .ok (.invokevirtual 104, 3) := by decide +kernel
theorem d_Mod_isRead_39 : decode prog_10_method_30_code 39 = .ok (.istore 7, 2) := by decide +kernel
theorem d_Mod_isRead_41 : decode prog_10_method_30_code 41 = .ok (.lload_n 3, 1) := by decide +kernel
theorem d_Mod_isRead_42 : decode prog_10_method_30_code 42 = .ok (.lconst 1, 1) := by decide +kernel
theorem d_Mod_isRead_43 : decode prog_10_method_30_code 43 = .ok (.land, 1) := by decide +kernel
theorem d_Mod_isRead_44 : decode prog_10_method_30_code 44 = .ok (.lconst 0, 1) := by decide +kernel
theorem d_Mod_isRead_45 : decode prog_10_method_30_code 45 = .ok (.lcmp, 1) := by decide +kernel
theorem d_Mod_isRead_46 : decode prog_10_method_30_code 46 = .ok (.ifCond .ne 7, 3) := by decide +kernel
theorem d_Mod_isRead_49 : decode prog_10_method_30_code 49 = .ok (.iconst 1, 1) := by decide +kernel
theorem d_Mod_isRead_50 : decode prog_10_method_30_code 50 = .ok (.goto 4, 3) := by decide +kernel
theorem d_Mod_isRead_53 : decode prog_10_method_30_code 53 = .ok (.iconst 0, 1) := by decide +kernel
theorem d_Mod_isRead_54 : decode prog_10_method_30_code 54 = .ok (.istore 8, 2) := by decide +kernel
theorem d_Mod_isRead_56 : decode prog_10_method_30_code 56 = .ok (.iload 6, 2) := by decide +kernel
theorem d_Mod_isRead_58 : decode prog_10_method_30_code 58 = .ok (.ifCond .gt 13, 3) := by decide +kernel
theorem d_Mod_isRead_61 : decode prog_10_method_30_code 61 = .ok (.iload 6, 2) := by decide +kernel
theorem d_Mod_isRead_63 : decode prog_10_method_30_code 63 = .ok (.ifCond .ne 27, 3) := by decide +kernel
theorem d_Mod_isRead_66 : decode prog_10_method_30_code 66 = .ok (.iload 8, 2) := by decide +kernel
theorem d_Mod_isRead_68 : decode prog_10_method_30_code 68 = .ok (.ifCond .eq 22, 3) := by decide +kernel
theorem d_Mod_isRead_71 : decode prog_10_method_30_code 71 = .ok (.iload 7, 2) := by decide +kernel
theorem d_Mod_isRead_73 : decode prog_10_method_30_code 73 = .ok (.ifCond .lt 13, 3) := by decide +kernel
theorem d_Mod_isRead_76 : decode prog_10_method_30_code 76 = .ok (.iload 7, 2) := by decide +kernel
theorem d_Mod_isRead_78 : decode prog_10_method_30_code 78 = .ok (.ifCond .ne 12, 3) := by decide +kernel
theorem d_Mod_isRead_81 : decode prog_10_method_30_code 81 = .ok (.iload 8, 2) := by decide +kernel
theorem d_Mod_isRead_83 : decode prog_10_method_30_code 83 = .ok (.ifCond .eq 7, 3) := by decide +kernel
theorem d_Mod_isRead_86 : decode prog_10_method_30_code 86 = .ok (.iconst 1, 1) := by decide +kernel
theorem d_Mod_isRead_87 : decode prog_10_method_30_code 87 = .ok (.goto 4, 3) := by decide +kernel
theorem d_Mod_isRead_90 : decode prog_10_method_30_code 90 = .ok (.iconst 0, 1) := by decide +kernel
theorem d_Mod_isRead_91 : decode prog_10_method_30_code 91 = .ok (.ireturn, 1) := by decide +kernel
def f_Mod_isRead_71 (fu : Nat) (n_v_a : Nat) (n_v_b : Nat) (n_v_five : Nat) (n_v_left : Nat) (n_v_right : Nat) (x1 : Int64) (x3 : Int64) (x5 : Int32) (v_bMany : Int32) (v_fiveMany : Int32) (v_twos : Int32) (v_b_a : Nat → Int32) (v_five_a : Nat → Int32)  (y7 : Int32) (y8 : Int32) (v_aMany : Int32) (v_leftMany : Int32) (v_rightMany : Int32) (v_a_a : Nat → Int32) (v_left_a : Nat → Int32) (v_right_a : Nat → Int32) : Option (Int32 × Int32 × Int32 × Int32 × (Nat → Int32) × (Nat → Int32) × (Nat → Int32)) :=
  (if y7 < 0 then
  some (1, v_aMany, v_leftMany, v_rightMany, v_a_a, v_left_a, v_right_a)
  else
  (if y7 = 0 then
  (if y8 = 0 then
  some (0, v_aMany, v_leftMany, v_rightMany, v_a_a, v_left_a, v_right_a)
  else
  some (1, v_aMany, v_leftMany, v_rightMany, v_a_a, v_left_a, v_right_a))
  else
  some (0, v_aMany, v_leftMany, v_rightMany, v_a_a, v_left_a, v_right_a)))
def f_Mod_isRead_54 (fu : Nat) (n_v_a : Nat) (n_v_b : Nat) (n_v_five : Nat) (n_v_left : Nat) (n_v_right : Nat) (x1 : Int64) (x3 : Int64) (x5 : Int32) (v_bMany : Int32) (v_fiveMany : Int32) (v_twos : Int32) (v_b_a : Nat → Int32) (v_five_a : Nat → Int32)  (y6 : Int32) (y7 : Int32) (k0 : Int32) (v_aMany : Int32) (v_leftMany : Int32) (v_rightMany : Int32) (v_a_a : Nat → Int32) (v_left_a : Nat → Int32) (v_right_a : Nat → Int32) : Option (Int32 × Int32 × Int32 × Int32 × (Nat → Int32) × (Nat → Int32) × (Nat → Int32)) :=
  (if 0 < y6 then
  f_Mod_isRead_71 fu n_v_a n_v_b n_v_five n_v_left n_v_right x1 x3 x5 v_bMany v_fiveMany v_twos v_b_a v_five_a y7 k0 v_aMany v_leftMany v_rightMany v_a_a v_left_a v_right_a
  else
  (if y6 = 0 then
  (if k0 = 0 then
  some (0, v_aMany, v_leftMany, v_rightMany, v_a_a, v_left_a, v_right_a)
  else
  f_Mod_isRead_71 fu n_v_a n_v_b n_v_five n_v_left n_v_right x1 x3 x5 v_bMany v_fiveMany v_twos v_b_a v_five_a y7 k0 v_aMany v_leftMany v_rightMany v_a_a v_left_a v_right_a)
  else
  some (0, v_aMany, v_leftMany, v_rightMany, v_a_a, v_left_a, v_right_a)))
def f_Mod_isRead (fu : Nat) (n_v_a : Nat) (n_v_b : Nat) (n_v_five : Nat) (n_v_left : Nat) (n_v_right : Nat) (x1 : Int64) (x3 : Int64) (x5 : Int32) (v_aMany : Int32) (v_bMany : Int32) (v_fiveMany : Int32) (v_leftMany : Int32) (v_rightMany : Int32) (v_twos : Int32) (v_a_a : Nat → Int32) (v_b_a : Nat → Int32) (v_five_a : Nat → Int32) (v_left_a : Nat → Int32) (v_right_a : Nat → Int32) : Option (Int32 × Int32 × Int32 × Int32 × (Nat → Int32) × (Nat → Int32) × (Nat → Int32)) :=
  (f_Mod_times fu n_v_five n_v_a v_fiveMany x1 v_five_a v_a_a).bind fun u_1 =>
  (f_Mod_above fu n_v_a n_v_b n_v_left n_v_right (x3 - 1) x5 u_1.1 v_bMany v_leftMany v_rightMany v_twos u_1.2 v_b_a v_left_a v_right_a).bind fun u_2 =>
  (f_Mod_above fu n_v_a n_v_b n_v_left n_v_right x3 x5 u_1.1 v_bMany u_2.2.1 u_2.2.2.1 v_twos u_1.2 v_b_a u_2.2.2.2.1 u_2.2.2.2.2).bind fun u_3 =>
  (if (lg_cmp (x3 &&& 1) 0) = 0 then
  f_Mod_isRead_54 fu n_v_a n_v_b n_v_five n_v_left n_v_right x1 x3 x5 v_bMany v_fiveMany v_twos v_b_a v_five_a u_2.1 u_3.1 1 u_1.1 u_3.2.1 u_3.2.2.1 u_1.2 u_3.2.2.2.1 u_3.2.2.2.2
  else
  f_Mod_isRead_54 fu n_v_a n_v_b n_v_five n_v_left n_v_right x1 x3 x5 v_bMany v_fiveMany v_twos v_b_a v_five_a u_2.1 u_3.1 0 u_1.1 u_3.2.1 u_3.2.2.1 u_1.2 u_3.2.2.2.1 u_3.2.2.2.2)
set_option maxHeartbeats 4000000 in
set_option maxRecDepth 100000 in
theorem c_Mod_isRead (l : Launch) (dC : Nat → ClassId) (dI : Nat → Nat → Nat) (cI cC cB cJ : ClassId) (fu : Nat) (sz : Nat) (h_v : Nat) (h_v_a : Nat) (h_v_b : Nat) (h_v_five : Nat) (h_v_left : Nat) (h_v_right : Nat) (h_v_text : Nat) (h_v_written : Nat) (h_v_part : Nat) (n_v_a : Nat) (n_v_b : Nat) (n_v_five : Nat) (n_v_left : Nat) (n_v_right : Nat) (x1 : Int64) (x3 : Int64) (x5 : Int32) (v_length : Int32) (v_laid : Int32) (v_gone : Int32) (v_thrown : Int32) (v_were : Int32) (v_none : Int32) (v_beyond : Int32) (v_aMany : Int32) (v_bMany : Int32) (v_fiveMany : Int32) (v_leftMany : Int32) (v_rightMany : Int32) (v_partMany : Int32) (v_twos : Int32) (v_at : Int32) (v_digits : Int32) (v_power : Int32) (v_good : Int32) (v_a_a : Nat → Int32) (v_b_a : Nat → Int32) (v_five_a : Nat → Int32) (v_left_a : Nat → Int32) (v_right_a : Nat → Int32) (u : Int32 × Int32 × Int32 × Int32 × (Nat → Int32) × (Nat → Int32) × (Nat → Int32)) (hf : f_Mod_isRead fu n_v_a n_v_b n_v_five n_v_left n_v_right x1 x3 x5 v_aMany v_bMany v_fiveMany v_leftMany v_rightMany v_twos v_a_a v_b_a v_five_a v_left_a v_right_a = some u) : Met l y_Mod_isRead ws_Mod_isRead rm_Mod_isRead (zz_P zz_T (dC, dI) vwCl (zz_tys cI cC cB cJ) [.ref h_v, .long x1, .long x3, .int x5] [(h_v, .inr (7, [.ref h_v_text, .ref h_v_written, .int v_length, .int v_laid, .int v_gone, .int v_thrown, .int v_were, .int v_none, .int v_beyond, .ref h_v_a, .ref h_v_b, .ref h_v_five, .ref h_v_left, .ref h_v_right, .ref h_v_part, .int v_aMany, .int v_bMany, .int v_fiveMany, .int v_leftMany, .int v_rightMany, .int v_partMany, .int v_twos, .int v_at, .int v_digits, .int v_power, .int v_good])), (h_v_a, .inl (cI, n_v_a, .inl v_a_a)), (h_v_b, .inl (cI, n_v_b, .inl v_b_a)), (h_v_five, .inl (cI, n_v_five, .inl v_five_a)), (h_v_left, .inl (cI, n_v_left, .inl v_left_a)), (h_v_right, .inl (cI, n_v_right, .inl v_right_a))] sz) (zz_Qi (dC, dI) vwCl u.1 [(h_v, .inr (7, [.ref h_v_text, .ref h_v_written, .int v_length, .int v_laid, .int v_gone, .int v_thrown, .int v_were, .int v_none, .int v_beyond, .ref h_v_a, .ref h_v_b, .ref h_v_five, .ref h_v_left, .ref h_v_right, .ref h_v_part, .int u.2.1, .int v_bMany, .int v_fiveMany, .int u.2.2.1, .int u.2.2.2.1, .int v_partMany, .int v_twos, .int v_at, .int v_digits, .int v_power, .int v_good])), (h_v_a, .inl (cI, n_v_a, .inl u.2.2.2.2.1)), (h_v_b, .inl (cI, n_v_b, .inl v_b_a)), (h_v_five, .inl (cI, n_v_five, .inl v_five_a)), (h_v_left, .inl (cI, n_v_left, .inl u.2.2.2.2.2.1)), (h_v_right, .inl (cI, n_v_right, .inl u.2.2.2.2.2.2))] (va_A [(h_v, .inr (7, [.ref h_v_text, .ref h_v_written, .int v_length, .int v_laid, .int v_gone, .int v_thrown, .int v_were, .int v_none, .int v_beyond, .ref h_v_a, .ref h_v_b, .ref h_v_five, .ref h_v_left, .ref h_v_right, .ref h_v_part, .int v_aMany, .int v_bMany, .int v_fiveMany, .int v_leftMany, .int v_rightMany, .int v_partMany, .int v_twos, .int v_at, .int v_digits, .int v_power, .int v_good])), (h_v_a, .inl (cI, n_v_a, .inl v_a_a)), (h_v_b, .inl (cI, n_v_b, .inl v_b_a)), (h_v_five, .inl (cI, n_v_five, .inl v_five_a)), (h_v_left, .inl (cI, n_v_left, .inl v_left_a)), (h_v_right, .inl (cI, n_v_right, .inl v_right_a))] sz)) 0 0 (va_A [(h_v, .inr (7, [.ref h_v_text, .ref h_v_written, .int v_length, .int v_laid, .int v_gone, .int v_thrown, .int v_were, .int v_none, .int v_beyond, .ref h_v_a, .ref h_v_b, .ref h_v_five, .ref h_v_left, .ref h_v_right, .ref h_v_part, .int v_aMany, .int v_bMany, .int v_fiveMany, .int v_leftMany, .int v_rightMany, .int v_partMany, .int v_twos, .int v_at, .int v_digits, .int v_power, .int v_good])), (h_v_a, .inl (cI, n_v_a, .inl v_a_a)), (h_v_b, .inl (cI, n_v_b, .inl v_b_a)), (h_v_five, .inl (cI, n_v_five, .inl v_five_a)), (h_v_left, .inl (cI, n_v_left, .inl v_left_a)), (h_v_right, .inl (cI, n_v_right, .inl v_right_a))] sz) := by
  refine Met.ofW (cc := prog_10_method_30_code) (maxL := 9) (ret := (some .boolean)) (by decide +kernel) rfl ?_
  intro p e s m args below meth c s₁ B hml hv
  obtain ⟨rfl, hsz, hP, hK, hD0, hX⟩ := hv
  have hx := B.exec
  have hb := B.bytes
  have hr := B.returns
  have hts := atoms_spec (ws := ws_Mod_isRead) B.pre
  have hw : ∀ w ∈ zw, w.before [.ref h_v, .long x1, .long x3, .int x5].toArray s = true := fun w h => hts w (List.mem_cons_of_mem _ h)
  have hown : s.vm.findClass R_Mod = some m.cls := findClass_of_methodNamed B.named
  have hlocks := B.notSynchronized
  subst hsz
  have hD := hD0.self (sz := s.heap.size)
  generalize hAe : va_A [(h_v, .inr (7, [.ref h_v_text, .ref h_v_written, .int v_length, .int v_laid, .int v_gone, .int v_thrown, .int v_were, .int v_none, .int v_beyond, .ref h_v_a, .ref h_v_b, .ref h_v_five, .ref h_v_left, .ref h_v_right, .ref h_v_part, .int v_aMany, .int v_bMany, .int v_fiveMany, .int v_leftMany, .int v_rightMany, .int v_partMany, .int v_twos, .int v_at, .int v_digits, .int v_power, .int v_good])), (h_v_a, .inl (cI, n_v_a, .inl v_a_a)), (h_v_b, .inl (cI, n_v_b, .inl v_b_a)), (h_v_five, .inl (cI, n_v_five, .inl v_five_a)), (h_v_left, .inl (cI, n_v_left, .inl v_left_a)), (h_v_right, .inl (cI, n_v_right, .inl v_right_a))] s.heap.size = A at hD hX ⊢
  have hA : ∀ q : Nat, s.heap.size ≤ q → A q := fun q h => by rw [← hAe]; exact Or.inr h
  have hS : va_S A s.heap s.heap [] := va_S.rf
  have hl := lv_entry [.ref h_v, .long x1, .long x3, .int x5] (n := 9) (Nat.le_of_ble_eq_true rfl)
  rw [lg_entry_eq]
  generalize (lg_sl [.ref h_v, .long x1, .long x3, .int x5] ++ List.replicate (9 - (lg_sl [.ref h_v, .long x1, .long x3, .int x5]).length) Slot.unset).toArray = ls at hl ⊢
  have hl : lv_has ls 9 [(0, .ref h_v), (1, .long x1), (3, .long x3), (5, .int x5)] := hl
  refine zz_endz hx hb hr hlocks (fun Qq hend => ?_)
  have hL_71 : ∀ (y7 : Int32) (y8 : Int32) (v_aMany : Int32) (v_leftMany : Int32) (v_rightMany : Int32) (v_a_a : Nat → Int32) (v_left_a : Nat → Int32) (v_right_a : Nat → Int32) (ls : Array Slot) (H : Heap) (locs : List Loc), lv_has ls 9 [(7, .int y7), (8, .int y8)] → va_P (dC, dI) vwCl [(h_v, .inr (7, [.ref h_v_text, .ref h_v_written, .int v_length, .int v_laid, .int v_gone, .int v_thrown, .int v_were, .int v_none, .int v_beyond, .ref h_v_a, .ref h_v_b, .ref h_v_five, .ref h_v_left, .ref h_v_right, .ref h_v_part, .int v_aMany, .int v_bMany, .int v_fiveMany, .int v_leftMany, .int v_rightMany, .int v_partMany, .int v_twos, .int v_at, .int v_digits, .int v_power, .int v_good])), (h_v_a, .inl (cI, n_v_a, .inl v_a_a)), (h_v_b, .inl (cI, n_v_b, .inl v_b_a)), (h_v_five, .inl (cI, n_v_five, .inl v_five_a)), (h_v_left, .inl (cI, n_v_left, .inl v_left_a)), (h_v_right, .inl (cI, n_v_right, .inl v_right_a))] H → va_D A [(h_v, .inr (7, [.ref h_v_text, .ref h_v_written, .int v_length, .int v_laid, .int v_gone, .int v_thrown, .int v_were, .int v_none, .int v_beyond, .ref h_v_a, .ref h_v_b, .ref h_v_five, .ref h_v_left, .ref h_v_right, .ref h_v_part, .int v_aMany, .int v_bMany, .int v_fiveMany, .int v_leftMany, .int v_rightMany, .int v_partMany, .int v_twos, .int v_at, .int v_digits, .int v_power, .int v_good])), (h_v_a, .inl (cI, n_v_a, .inl v_a_a)), (h_v_b, .inl (cI, n_v_b, .inl v_b_a)), (h_v_five, .inl (cI, n_v_five, .inl v_five_a)), (h_v_left, .inl (cI, n_v_left, .inl v_left_a)), (h_v_right, .inl (cI, n_v_right, .inl v_right_a))] → va_S A s.heap H locs → f_Mod_isRead_71 fu n_v_a n_v_b n_v_five n_v_left n_v_right x1 x3 x5 v_bMany v_fiveMany v_twos v_b_a v_five_a y7 y8 v_aMany v_leftMany v_rightMany v_a_a v_left_a v_right_a = some u → W p l e (headSpec ws_Mod_isRead rm_Mod_isRead).room s m [.ref h_v, .long x1, .long x3, .int x5].toArray below meth c H locs 0 0 Qq (F0 m 71 ls []) := by
    intro y7 y8 v_aMany v_leftMany v_rightMany v_a_a v_left_a v_right_a ls H locs hl hP hD hS hf
    unfold f_Mod_isRead_71 at hf
    refine lv_iload hx hb d_Mod_isRead_71 (lv_at hl 0 rfl) ?_
    refine lv_if_lt (tgt := 86) hx hb d_Mod_isRead_73 (by decide) (fun hc => ?_) (fun hc => ?_)
    · have hf := zz_ifp hc hf
      refine lv_iconst (v := 1) hx hb d_Mod_isRead_86 (by decide) ?_
      refine lv_goto (tgt := 91) hx hb d_Mod_isRead_87 (by decide) ?_
      cases hf
      exact hend 91 ls _ _ narrow_b1 d_Mod_isRead_91 hP hD hS
    · have hf := zz_ifn hc hf
      refine lv_iload hx hb d_Mod_isRead_76 (lv_at hl 0 rfl) ?_
      refine lv_if_ne (tgt := 90) hx hb d_Mod_isRead_78 (by decide) (fun hc => ?_) (fun hc => ?_)
      · have hf := zz_ifn hc hf
        refine lv_iconst (v := 0) hx hb d_Mod_isRead_90 (by decide) ?_
        cases hf
        exact hend 91 ls _ _ narrow_b0 d_Mod_isRead_91 hP hD hS
      · have hf := zz_ifp hc hf
        refine lv_iload hx hb d_Mod_isRead_81 (lv_at hl 1 rfl) ?_
        refine lv_if_eq (tgt := 90) hx hb d_Mod_isRead_83 (by decide) (fun hc => ?_) (fun hc => ?_)
        · have hf := zz_ifp hc hf
          refine lv_iconst (v := 0) hx hb d_Mod_isRead_90 (by decide) ?_
          cases hf
          exact hend 91 ls _ _ narrow_b0 d_Mod_isRead_91 hP hD hS
        · have hf := zz_ifn hc hf
          refine lv_iconst (v := 1) hx hb d_Mod_isRead_86 (by decide) ?_
          refine lv_goto (tgt := 91) hx hb d_Mod_isRead_87 (by decide) ?_
          cases hf
          exact hend 91 ls _ _ narrow_b1 d_Mod_isRead_91 hP hD hS
  have hL_54 : ∀ (y6 : Int32) (y7 : Int32) (k0 : Int32) (v_aMany : Int32) (v_leftMany : Int32) (v_rightMany : Int32) (v_a_a : Nat → Int32) (v_left_a : Nat → Int32) (v_right_a : Nat → Int32) (ls : Array Slot) (H : Heap) (locs : List Loc), lv_has ls 9 [(6, .int y6), (7, .int y7)] → va_P (dC, dI) vwCl [(h_v, .inr (7, [.ref h_v_text, .ref h_v_written, .int v_length, .int v_laid, .int v_gone, .int v_thrown, .int v_were, .int v_none, .int v_beyond, .ref h_v_a, .ref h_v_b, .ref h_v_five, .ref h_v_left, .ref h_v_right, .ref h_v_part, .int v_aMany, .int v_bMany, .int v_fiveMany, .int v_leftMany, .int v_rightMany, .int v_partMany, .int v_twos, .int v_at, .int v_digits, .int v_power, .int v_good])), (h_v_a, .inl (cI, n_v_a, .inl v_a_a)), (h_v_b, .inl (cI, n_v_b, .inl v_b_a)), (h_v_five, .inl (cI, n_v_five, .inl v_five_a)), (h_v_left, .inl (cI, n_v_left, .inl v_left_a)), (h_v_right, .inl (cI, n_v_right, .inl v_right_a))] H → va_D A [(h_v, .inr (7, [.ref h_v_text, .ref h_v_written, .int v_length, .int v_laid, .int v_gone, .int v_thrown, .int v_were, .int v_none, .int v_beyond, .ref h_v_a, .ref h_v_b, .ref h_v_five, .ref h_v_left, .ref h_v_right, .ref h_v_part, .int v_aMany, .int v_bMany, .int v_fiveMany, .int v_leftMany, .int v_rightMany, .int v_partMany, .int v_twos, .int v_at, .int v_digits, .int v_power, .int v_good])), (h_v_a, .inl (cI, n_v_a, .inl v_a_a)), (h_v_b, .inl (cI, n_v_b, .inl v_b_a)), (h_v_five, .inl (cI, n_v_five, .inl v_five_a)), (h_v_left, .inl (cI, n_v_left, .inl v_left_a)), (h_v_right, .inl (cI, n_v_right, .inl v_right_a))] → va_S A s.heap H locs → f_Mod_isRead_54 fu n_v_a n_v_b n_v_five n_v_left n_v_right x1 x3 x5 v_bMany v_fiveMany v_twos v_b_a v_five_a y6 y7 k0 v_aMany v_leftMany v_rightMany v_a_a v_left_a v_right_a = some u → W p l e (headSpec ws_Mod_isRead rm_Mod_isRead).room s m [.ref h_v, .long x1, .long x3, .int x5].toArray below meth c H locs 0 0 Qq (F0 m 54 ls [.int k0]) := by
    intro y6 y7 k0 v_aMany v_leftMany v_rightMany v_a_a v_left_a v_right_a ls H locs hl hP hD hS hf
    unfold f_Mod_isRead_54 at hf
    refine lv_istore hx hb d_Mod_isRead_54 hl (by decide) rfl (fun ls hl => ?_)
    have hl : lv_has ls 9 [(8, .int k0), (6, .int y6), (7, .int y7)] := hl
    refine lv_iload hx hb d_Mod_isRead_56 (lv_at hl 1 rfl) ?_
    refine lv_if_gt (tgt := 71) hx hb d_Mod_isRead_58 (by decide) (fun hc => ?_) (fun hc => ?_)
    · have hf := zz_ifp hc hf
      exact hL_71 y7 k0 v_aMany v_leftMany v_rightMany v_a_a v_left_a v_right_a ls _ _ (lv_sub hl [2, 0] rfl) hP hD hS hf
    · have hf := zz_ifn hc hf
      refine lv_iload hx hb d_Mod_isRead_61 (lv_at hl 1 rfl) ?_
      refine lv_if_ne (tgt := 90) hx hb d_Mod_isRead_63 (by decide) (fun hc => ?_) (fun hc => ?_)
      · have hf := zz_ifn hc hf
        refine lv_iconst (v := 0) hx hb d_Mod_isRead_90 (by decide) ?_
        cases hf
        exact hend 91 ls _ _ narrow_b0 d_Mod_isRead_91 hP hD hS
      · have hf := zz_ifp hc hf
        refine lv_iload hx hb d_Mod_isRead_66 (lv_at hl 0 rfl) ?_
        refine lv_if_eq (tgt := 90) hx hb d_Mod_isRead_68 (by decide) (fun hc => ?_) (fun hc => ?_)
        · have hf := zz_ifp hc hf
          refine lv_iconst (v := 0) hx hb d_Mod_isRead_90 (by decide) ?_
          cases hf
          exact hend 91 ls _ _ narrow_b0 d_Mod_isRead_91 hP hD hS
        · have hf := zz_ifn hc hf
          exact hL_71 y7 k0 v_aMany v_leftMany v_rightMany v_a_a v_left_a v_right_a ls _ _ (lv_sub hl [2, 0] rfl) hP hD hS hf
  unfold f_Mod_isRead at hf
  refine lv_aload_n hx hb d_Mod_isRead_0 rfl (lv_at hl 0 rfl) ?_
  refine lv_aload_n hx hb d_Mod_isRead_1 rfl (lv_at hl 0 rfl) ?_
  refine lv_aload_n hx hb d_Mod_isRead_2 rfl (lv_at hl 0 rfl) ?_
  refine va_get (D := (dC, dI)) (ci := 7) (v := .ref h_v_five) (C := R_Mod) (T := T_Mod) (N := 26) hx hb hw in_Mod hown hK hP 0 rfl rfl 11 (by decide) (hw _ wd_685) (fun _ h9 => h9) rfl d_Mod_isRead_3 ?_
  refine lv_aload_n hx hb d_Mod_isRead_6 rfl (lv_at hl 0 rfl) ?_
  refine va_get (D := (dC, dI)) (ci := 7) (v := .int v_fiveMany) (C := R_Mod) (T := T_Mod) (N := 26) hx hb hw in_Mod hown hK hP 0 rfl rfl 17 (by decide) (hw _ wd_691) (fun _ h9 => h9) rfl d_Mod_isRead_7 ?_
  refine lv_lload_n hx hb d_Mod_isRead_10 rfl (lv_at hl 1 rfl) ?_
  refine lv_aload_n hx hb d_Mod_isRead_11 rfl (lv_at hl 0 rfl) ?_
  refine va_get (D := (dC, dI)) (ci := 7) (v := .ref h_v_a) (C := R_Mod) (T := T_Mod) (N := 26) hx hb hw in_Mod hown hK hP 0 rfl rfl 9 (by decide) (hw _ wd_683) (fun _ h9 => h9) rfl d_Mod_isRead_12 ?_
  obtain ⟨u_1, hu_1, hf⟩ := zz_bd hf
  refine zz_ci (ws' := [(h_v, .inr (7, [.ref h_v_text, .ref h_v_written, .int v_length, .int v_laid, .int v_gone, .int v_thrown, .int v_were, .int v_none, .int v_beyond, .ref h_v_a, .ref h_v_b, .ref h_v_five, .ref h_v_left, .ref h_v_right, .ref h_v_part, .int v_aMany, .int v_bMany, .int v_fiveMany, .int v_leftMany, .int v_rightMany, .int v_partMany, .int v_twos, .int v_at, .int v_digits, .int v_power, .int v_good])), (h_v_a, .inl (cI, n_v_a, .inl u_1.2)), (h_v_b, .inl (cI, n_v_b, .inl v_b_a)), (h_v_five, .inl (cI, n_v_five, .inl v_five_a)), (h_v_left, .inl (cI, n_v_left, .inl v_left_a)), (h_v_right, .inl (cI, n_v_right, .inl v_right_a))]) (wc := [(h_v_five, .inl (cI, n_v_five, .inl v_five_a)), (h_v_a, .inl (cI, n_v_a, .inl v_a_a))]) (w' := [(h_v_five, .inl (cI, n_v_five, .inl v_five_a)), (h_v_a, .inl (cI, n_v_a, .inl u_1.2))]) hP hD hS hA [3, 1] [0, 2, 4, 5] [0, 5, 1, 4, 2, 3] rfl rfl (by decide) (by decide) rfl (by decide) (va_runV (As := [.ref h_v_five, .int v_fiveMany, .long x1, .ref h_v_a]) (rest := [.ref h_v]) ⟨hx, hb, hml, hown, hw⟩ (c_Mod_times l dC dI cI cC cB cJ fu _ h_v_five h_v_a n_v_five n_v_a h_v v_fiveMany x1 v_five_a v_a_a u_1 hu_1) (cwV 4 hw (zg_V wd_836 wd_838 we_2_2 wd_8 wd_839) rfl rfl rfl hd_Mod_times ⟨Nat.le_of_ble_eq_true rfl, Nat.le_of_ble_eq_true rfl⟩) (zz_preV zz_TE (va_recv (q0 := 0) (ci := 7) hK hP rfl rfl) hP hD hK hS hA trivial [3, 1] rfl (by decide)) rfl rfl hl.1 rfl (lv_room (Nat.le_of_ble_eq_true rfl)) d_Mod_isRead_15 ⟨Nat.zero_le _, Nat.zero_le _⟩) (fun H locs hP hD hS => ?_)
  refine va_put (D := (dC, dI)) (ci := 7) (v := .int u_1.1) (ty := .int) (C := R_Mod) (T := T_Mod) (N := 26) hx hb hw in_Mod ty_Mod tyok_Mod nm_Mod hown hK hP hD hS 0 rfl rfl 15 (by decide) (hw _ wd_689) (fun _ h9 => h9) rfl (tyok_Mod 15 (by decide)) rfl rfl (Nat.le_of_ble_eq_true rfl) d_Mod_isRead_18 (fun H locs hP hD hS => ?_)
  have hP : va_P (dC, dI) vwCl [(h_v, .inr (7, [.ref h_v_text, .ref h_v_written, .int v_length, .int v_laid, .int v_gone, .int v_thrown, .int v_were, .int v_none, .int v_beyond, .ref h_v_a, .ref h_v_b, .ref h_v_five, .ref h_v_left, .ref h_v_right, .ref h_v_part, .int u_1.1, .int v_bMany, .int v_fiveMany, .int v_leftMany, .int v_rightMany, .int v_partMany, .int v_twos, .int v_at, .int v_digits, .int v_power, .int v_good])), (h_v_a, .inl (cI, n_v_a, .inl u_1.2)), (h_v_b, .inl (cI, n_v_b, .inl v_b_a)), (h_v_five, .inl (cI, n_v_five, .inl v_five_a)), (h_v_left, .inl (cI, n_v_left, .inl v_left_a)), (h_v_right, .inl (cI, n_v_right, .inl v_right_a))] H := hP
  have hD : va_D A [(h_v, .inr (7, [.ref h_v_text, .ref h_v_written, .int v_length, .int v_laid, .int v_gone, .int v_thrown, .int v_were, .int v_none, .int v_beyond, .ref h_v_a, .ref h_v_b, .ref h_v_five, .ref h_v_left, .ref h_v_right, .ref h_v_part, .int u_1.1, .int v_bMany, .int v_fiveMany, .int v_leftMany, .int v_rightMany, .int v_partMany, .int v_twos, .int v_at, .int v_digits, .int v_power, .int v_good])), (h_v_a, .inl (cI, n_v_a, .inl u_1.2)), (h_v_b, .inl (cI, n_v_b, .inl v_b_a)), (h_v_five, .inl (cI, n_v_five, .inl v_five_a)), (h_v_left, .inl (cI, n_v_left, .inl v_left_a)), (h_v_right, .inl (cI, n_v_right, .inl v_right_a))] := hD
  refine lv_aload_n hx hb d_Mod_isRead_21 rfl (lv_at hl 0 rfl) ?_
  refine lv_lload_n hx hb d_Mod_isRead_22 rfl (lv_at hl 2 rfl) ?_
  refine lv_lconst (v := 1) hx hb d_Mod_isRead_23 (by decide) ?_
  refine lv_lsub hx hb d_Mod_isRead_24 ?_
  refine lv_iload hx hb d_Mod_isRead_25 (lv_at hl 3 rfl) ?_
  obtain ⟨u_2, hu_2, hf⟩ := zz_bd hf
  refine zz_ci (ws' := [(h_v, .inr (7, [.ref h_v_text, .ref h_v_written, .int v_length, .int v_laid, .int v_gone, .int v_thrown, .int v_were, .int v_none, .int v_beyond, .ref h_v_a, .ref h_v_b, .ref h_v_five, .ref h_v_left, .ref h_v_right, .ref h_v_part, .int u_1.1, .int v_bMany, .int v_fiveMany, .int u_2.2.1, .int u_2.2.2.1, .int v_partMany, .int v_twos, .int v_at, .int v_digits, .int v_power, .int v_good])), (h_v_a, .inl (cI, n_v_a, .inl u_1.2)), (h_v_b, .inl (cI, n_v_b, .inl v_b_a)), (h_v_five, .inl (cI, n_v_five, .inl v_five_a)), (h_v_left, .inl (cI, n_v_left, .inl u_2.2.2.2.1)), (h_v_right, .inl (cI, n_v_right, .inl u_2.2.2.2.2))]) (wc := [(h_v, .inr (7, [.ref h_v_text, .ref h_v_written, .int v_length, .int v_laid, .int v_gone, .int v_thrown, .int v_were, .int v_none, .int v_beyond, .ref h_v_a, .ref h_v_b, .ref h_v_five, .ref h_v_left, .ref h_v_right, .ref h_v_part, .int u_1.1, .int v_bMany, .int v_fiveMany, .int v_leftMany, .int v_rightMany, .int v_partMany, .int v_twos, .int v_at, .int v_digits, .int v_power, .int v_good])), (h_v_a, .inl (cI, n_v_a, .inl u_1.2)), (h_v_b, .inl (cI, n_v_b, .inl v_b_a)), (h_v_left, .inl (cI, n_v_left, .inl v_left_a)), (h_v_right, .inl (cI, n_v_right, .inl v_right_a))]) (w' := [(h_v, .inr (7, [.ref h_v_text, .ref h_v_written, .int v_length, .int v_laid, .int v_gone, .int v_thrown, .int v_were, .int v_none, .int v_beyond, .ref h_v_a, .ref h_v_b, .ref h_v_five, .ref h_v_left, .ref h_v_right, .ref h_v_part, .int u_1.1, .int v_bMany, .int v_fiveMany, .int u_2.2.1, .int u_2.2.2.1, .int v_partMany, .int v_twos, .int v_at, .int v_digits, .int v_power, .int v_good])), (h_v_a, .inl (cI, n_v_a, .inl u_1.2)), (h_v_b, .inl (cI, n_v_b, .inl v_b_a)), (h_v_left, .inl (cI, n_v_left, .inl u_2.2.2.2.1)), (h_v_right, .inl (cI, n_v_right, .inl u_2.2.2.2.2))]) hP hD hS hA [0, 1, 2, 4, 5] [3] [1, 2, 3, 0, 4, 5] rfl rfl (by decide) (by decide) rfl (by decide) (va_runV (As := [.long (x3 - 1), .int x5]) (rest := []) ⟨hx, hb, hml, hown, hw⟩ (c_Mod_above l dC dI cI cC cB cJ fu _ h_v h_v_a h_v_b h_v_left h_v_right h_v_text h_v_written h_v_five h_v_part n_v_a n_v_b n_v_left n_v_right (x3 - 1) x5 v_length v_laid v_gone v_thrown v_were v_none v_beyond u_1.1 v_bMany v_fiveMany v_leftMany v_rightMany v_partMany v_twos v_at v_digits v_power v_good u_1.2 v_b_a v_left_a v_right_a u_2 hu_2) (cwV 2 hw (zg_V wd_840 wd_842 we_2_3 wd_8 wd_843) rfl rfl rfl hd_Mod_above ⟨Nat.le_of_ble_eq_true rfl, Nat.le_of_ble_eq_true rfl⟩) (zz_preV zz_TE (va_recv (q0 := 0) (ci := 7) hK hP rfl rfl) hP hD hK hS hA trivial [0, 1, 2, 4, 5] rfl (by decide)) rfl rfl hl.1 rfl (lv_room (Nat.le_of_ble_eq_true rfl)) d_Mod_isRead_27 ⟨Nat.zero_le _, Nat.zero_le _⟩) (fun H locs hP hD hS => ?_)
  refine lv_istore hx hb d_Mod_isRead_30 hl (by decide) rfl (fun ls hl => ?_)
  have hl : lv_has ls 9 [(6, .int u_2.1), (0, .ref h_v), (1, .long x1), (3, .long x3), (5, .int x5)] := hl
  refine lv_aload_n hx hb d_Mod_isRead_32 rfl (lv_at hl 1 rfl) ?_
  refine lv_lload_n hx hb d_Mod_isRead_33 rfl (lv_at hl 3 rfl) ?_
  refine lv_iload hx hb d_Mod_isRead_34 (lv_at hl 4 rfl) ?_
  obtain ⟨u_3, hu_3, hf⟩ := zz_bd hf
  refine zz_ci (ws' := [(h_v, .inr (7, [.ref h_v_text, .ref h_v_written, .int v_length, .int v_laid, .int v_gone, .int v_thrown, .int v_were, .int v_none, .int v_beyond, .ref h_v_a, .ref h_v_b, .ref h_v_five, .ref h_v_left, .ref h_v_right, .ref h_v_part, .int u_1.1, .int v_bMany, .int v_fiveMany, .int u_3.2.1, .int u_3.2.2.1, .int v_partMany, .int v_twos, .int v_at, .int v_digits, .int v_power, .int v_good])), (h_v_a, .inl (cI, n_v_a, .inl u_1.2)), (h_v_b, .inl (cI, n_v_b, .inl v_b_a)), (h_v_five, .inl (cI, n_v_five, .inl v_five_a)), (h_v_left, .inl (cI, n_v_left, .inl u_3.2.2.2.1)), (h_v_right, .inl (cI, n_v_right, .inl u_3.2.2.2.2))]) (wc := [(h_v, .inr (7, [.ref h_v_text, .ref h_v_written, .int v_length, .int v_laid, .int v_gone, .int v_thrown, .int v_were, .int v_none, .int v_beyond, .ref h_v_a, .ref h_v_b, .ref h_v_five, .ref h_v_left, .ref h_v_right, .ref h_v_part, .int u_1.1, .int v_bMany, .int v_fiveMany, .int u_2.2.1, .int u_2.2.2.1, .int v_partMany, .int v_twos, .int v_at, .int v_digits, .int v_power, .int v_good])), (h_v_a, .inl (cI, n_v_a, .inl u_1.2)), (h_v_b, .inl (cI, n_v_b, .inl v_b_a)), (h_v_left, .inl (cI, n_v_left, .inl u_2.2.2.2.1)), (h_v_right, .inl (cI, n_v_right, .inl u_2.2.2.2.2))]) (w' := [(h_v, .inr (7, [.ref h_v_text, .ref h_v_written, .int v_length, .int v_laid, .int v_gone, .int v_thrown, .int v_were, .int v_none, .int v_beyond, .ref h_v_a, .ref h_v_b, .ref h_v_five, .ref h_v_left, .ref h_v_right, .ref h_v_part, .int u_1.1, .int v_bMany, .int v_fiveMany, .int u_3.2.1, .int u_3.2.2.1, .int v_partMany, .int v_twos, .int v_at, .int v_digits, .int v_power, .int v_good])), (h_v_a, .inl (cI, n_v_a, .inl u_1.2)), (h_v_b, .inl (cI, n_v_b, .inl v_b_a)), (h_v_left, .inl (cI, n_v_left, .inl u_3.2.2.2.1)), (h_v_right, .inl (cI, n_v_right, .inl u_3.2.2.2.2))]) hP hD hS hA [0, 1, 2, 4, 5] [3] [1, 2, 3, 0, 4, 5] rfl rfl (by decide) (by decide) rfl (by decide) (va_runV (As := [.long x3, .int x5]) (rest := []) ⟨hx, hb, hml, hown, hw⟩ (c_Mod_above l dC dI cI cC cB cJ fu _ h_v h_v_a h_v_b h_v_left h_v_right h_v_text h_v_written h_v_five h_v_part n_v_a n_v_b n_v_left n_v_right x3 x5 v_length v_laid v_gone v_thrown v_were v_none v_beyond u_1.1 v_bMany v_fiveMany u_2.2.1 u_2.2.2.1 v_partMany v_twos v_at v_digits v_power v_good u_1.2 v_b_a u_2.2.2.2.1 u_2.2.2.2.2 u_3 hu_3) (cwV 2 hw (zg_V wd_840 wd_842 we_2_3 wd_8 wd_843) rfl rfl rfl hd_Mod_above ⟨Nat.le_of_ble_eq_true rfl, Nat.le_of_ble_eq_true rfl⟩) (zz_preV zz_TE (va_recv (q0 := 0) (ci := 7) hK hP rfl rfl) hP hD hK hS hA trivial [0, 1, 2, 4, 5] rfl (by decide)) rfl rfl hl.1 rfl (lv_room (Nat.le_of_ble_eq_true rfl)) d_Mod_isRead_36 ⟨Nat.zero_le _, Nat.zero_le _⟩) (fun H locs hP hD hS => ?_)
  refine lv_istore hx hb d_Mod_isRead_39 hl (by decide) rfl (fun ls hl => ?_)
  have hl : lv_has ls 9 [(7, .int u_3.1), (6, .int u_2.1), (0, .ref h_v), (1, .long x1), (3, .long x3), (5, .int x5)] := hl
  refine lv_lload_n hx hb d_Mod_isRead_41 rfl (lv_at hl 4 rfl) ?_
  refine lv_lconst (v := 1) hx hb d_Mod_isRead_42 (by decide) ?_
  refine lv_land hx hb d_Mod_isRead_43 ?_
  refine lv_lconst (v := 0) hx hb d_Mod_isRead_44 (by decide) ?_
  refine W.lcmp hx hb d_Mod_isRead_45 ?_
  refine lv_if_ne (tgt := 53) hx hb d_Mod_isRead_46 (by decide) (fun hc => ?_) (fun hc => ?_)
  · have hf := zz_ifn hc hf
    refine lv_iconst (v := 0) hx hb d_Mod_isRead_53 (by decide) ?_
    exact hL_54 u_2.1 u_3.1 0 u_1.1 u_3.2.1 u_3.2.2.1 u_1.2 u_3.2.2.2.1 u_3.2.2.2.2 ls _ _ (lv_sub hl [1, 0] rfl) hP hD hS hf
  · have hf := zz_ifp hc hf
    refine lv_iconst (v := 1) hx hb d_Mod_isRead_49 (by decide) ?_
    refine lv_goto (tgt := 54) hx hb d_Mod_isRead_50 (by decide) ?_
    exact hL_54 u_2.1 u_3.1 1 u_1.1 u_3.2.1 u_3.2.2.1 u_1.2 u_3.2.2.2.1 u_3.2.2.2.2 ls _ _ (lv_sub hl [1, 0] rfl) hP hD hS hf
abbrev ws_Mod_most : List Cond := .code y_Mod_most prog_10_method_31_code 12 (some .long) :: zw
abbrev rm_Mod_most : Room := { frames := 5, cells := 0, slots := 0, locals := 125 }
theorem hd_Mod_most : y_Mod_most.cls = "RealTextModel" ∧ y_Mod_most.cls ≠ "java/lang/invoke/MethodHandle" ∧ y_Mod_most.cls ≠ "java/lang/invoke/VarHandle" ∧ (parseMethodDescriptor y_Mod_most.desc).map (fun d => d.parameters.length) = some 3 := by decide +kernel
theorem d_Mod_most_0 : decode prog_10_method_31_code 0 = .ok (.lconst 0, 1) := by decide +kernel
theorem d_Mod_most_1 : decode prog_10_method_31_code 1 = .ok (.lstore 6, 2) := by decide +kernel
theorem d_Mod_most_3 : decode prog_10_method_31_code 3 = .ok (.lload 4, 2) := by decide +kernel
theorem d_Mod_most_5 : decode prog_10_method_31_code 5 = .ok (.lstore 8, 2) := by decide +kernel
theorem d_Mod_most_7 : decode prog_10_method_31_code 7 = .ok (.lload 6, 2) := by decide +kernel
theorem d_Mod_most_9 : decode prog_10_method_31_code 9 = .ok (.lload 8, 2) := by decide +kernel
theorem d_Mod_most_11 : decode prog_10_method_31_code 11 = .ok (.lcmp, 1) := by decide +kernel
theorem d_Mod_most_12 : decode prog_10_method_31_code 12 = .ok (.ifCond .ge 46, 3) := by decide +kernel
theorem d_Mod_most_15 : decode prog_10_method_31_code 15 = .ok (.lload 6, 2) := by decide +kernel
theorem d_Mod_most_17 : decode prog_10_method_31_code 17 = .ok (.lload 8, 2) := by decide +kernel
theorem d_Mod_most_19 : decode prog_10_method_31_code 19 = .ok (.lload 6, 2) := by decide +kernel
theorem d_Mod_most_21 : decode prog_10_method_31_code 21 = .ok (.lsub, 1) := by decide +kernel
theorem d_Mod_most_22 : decode prog_10_method_31_code 22 = .ok (.lconst 1, 1) := by decide +kernel
theorem d_Mod_most_23 : decode prog_10_method_31_code 23 = .ok (.ladd, 1) := by decide +kernel
theorem d_Mod_most_24 : decode prog_10_method_31_code 24 = .ok (.ldc2_w 86, 3) := by decide +kernel
theorem d_Mod_most_27 : decode prog_10_method_31_code 27 = .ok (.ldiv, 1) := by decide +kernel
theorem d_Mod_most_28 : decode prog_10_method_31_code 28 = .ok (.ladd, 1) := by decide +kernel
theorem d_Mod_most_29 : decode prog_10_method_31_code 29 = .ok (.lstore 10, 2) := by decide +kernel
theorem d_Mod_most_31 : decode prog_10_method_31_code 31 = .ok (.aload_n 0, 1) := by decide +kernel
theorem d_Mod_most_32 : decode prog_10_method_31_code 32 = .ok (.lload 10, 2) := by decide +kernel
theorem d_Mod_most_34 : decode prog_10_method_31_code 34 = .ok (.lload_n 1, 1) := by decide +kernel
theorem d_Mod_most_35 : decode prog_10_method_31_code 35 = .ok (.iload_n 3, 1) := by decide +kernel
theorem d_Mod_most_36 : decode prog_10_method_31_code 36 = .ok (.invokevirtual 178, 3) := by decide +kernel
theorem d_Mod_most_39 : decode prog_10_method_31_code 39 = .ok (.ifCond .gt 10, 3) := by decide +kernel
theorem d_Mod_most_42 : decode prog_10_method_31_code 42 = .ok (.lload 10, 2) := by decide +kernel
theorem d_Mod_most_44 : decode prog_10_method_31_code 44 = .ok (.lstore 6, 2) := by decide +kernel
theorem d_Mod_most_46 : decode prog_10_method_31_code 46 = .ok (.goto 9, 3) := by decide +kernel
theorem d_Mod_most_49 : decode prog_10_method_31_code 49 = .ok (.lload 10, 2) := by decide +kernel
theorem d_Mod_most_51 : decode prog_10_method_31_code 51 = .ok (.lconst 1, 1) := by decide +kernel
theorem d_Mod_most_52 : decode prog_10_method_31_code 52 = .ok (.lsub, 1) := by decide +kernel
theorem d_Mod_most_53 : decode prog_10_method_31_code 53 = .ok (.lstore 8, 2) := by decide +kernel
theorem d_Mod_most_55 : decode prog_10_method_31_code 55 = .ok (.goto (-48), 3) := by decide +kernel
theorem d_Mod_most_58 : decode prog_10_method_31_code 58 = .ok (.lload 6, 2) := by decide +kernel
theorem d_Mod_most_60 : decode prog_10_method_31_code 60 = .ok (.lreturn, 1) := by decide +kernel
def f_Mod_most_7 (fu : Nat) (n_v_a : Nat) (n_v_b : Nat) (n_v_five : Nat) (n_v_left : Nat) (n_v_right : Nat) (x1 : Int64) (x3 : Int32) (x4 : Int64) (v_bMany : Int32) (v_fiveMany : Int32) (v_twos : Int32) (v_b_a : Nat → Int32) (v_five_a : Nat → Int32)  : Nat → Int64 → Int64 → Int32 → Int32 → Int32 → (Nat → Int32) → (Nat → Int32) → (Nat → Int32) → Option (Int64 × Int32 × Int32 × Int32 × (Nat → Int32) × (Nat → Int32) × (Nat → Int32))
  | 0, _, _, _, _, _, _, _, _ => none
  | n + 1, y6, y8, v_aMany, v_leftMany, v_rightMany, v_a_a, v_left_a, v_right_a =>
  (if 0 ≤ (lg_cmp y6 y8) then
  some (y6, v_aMany, v_leftMany, v_rightMany, v_a_a, v_left_a, v_right_a)
  else
  zz_lt (y6 + (((y8 - y6) + 1) / 2)) fun x10_1 =>
  (f_Mod_compareDigits fu n_v_a n_v_b n_v_five n_v_left n_v_right x10_1 x1 x3 v_aMany v_bMany v_fiveMany v_leftMany v_rightMany v_twos v_a_a v_b_a v_five_a v_left_a v_right_a).bind fun u_2 =>
  (if 0 < u_2.1 then
  zz_lt (x10_1 - 1) fun x8_3 =>
  f_Mod_most_7 fu n_v_a n_v_b n_v_five n_v_left n_v_right x1 x3 x4 v_bMany v_fiveMany v_twos v_b_a v_five_a n y6 x8_3 u_2.2.1 u_2.2.2.1 u_2.2.2.2.1 u_2.2.2.2.2.1 u_2.2.2.2.2.2.1 u_2.2.2.2.2.2.2
  else
  f_Mod_most_7 fu n_v_a n_v_b n_v_five n_v_left n_v_right x1 x3 x4 v_bMany v_fiveMany v_twos v_b_a v_five_a n x10_1 y8 u_2.2.1 u_2.2.2.1 u_2.2.2.2.1 u_2.2.2.2.2.1 u_2.2.2.2.2.2.1 u_2.2.2.2.2.2.2))
theorem f_Mod_most_7_s (fu : Nat) (n_v_a : Nat) (n_v_b : Nat) (n_v_five : Nat) (n_v_left : Nat) (n_v_right : Nat) (x1 : Int64) (x3 : Int32) (x4 : Int64) (v_bMany : Int32) (v_fiveMany : Int32) (v_twos : Int32) (v_b_a : Nat → Int32) (v_five_a : Nat → Int32)  (n : Nat) (y6 : Int64) (y8 : Int64) (v_aMany : Int32) (v_leftMany : Int32) (v_rightMany : Int32) (v_a_a : Nat → Int32) (v_left_a : Nat → Int32) (v_right_a : Nat → Int32) : f_Mod_most_7 fu n_v_a n_v_b n_v_five n_v_left n_v_right x1 x3 x4 v_bMany v_fiveMany v_twos v_b_a v_five_a (n + 1) y6 y8 v_aMany v_leftMany v_rightMany v_a_a v_left_a v_right_a =
  (if 0 ≤ (lg_cmp y6 y8) then
  some (y6, v_aMany, v_leftMany, v_rightMany, v_a_a, v_left_a, v_right_a)
  else
  zz_lt (y6 + (((y8 - y6) + 1) / 2)) fun x10_1 =>
  (f_Mod_compareDigits fu n_v_a n_v_b n_v_five n_v_left n_v_right x10_1 x1 x3 v_aMany v_bMany v_fiveMany v_leftMany v_rightMany v_twos v_a_a v_b_a v_five_a v_left_a v_right_a).bind fun u_2 =>
  (if 0 < u_2.1 then
  zz_lt (x10_1 - 1) fun x8_3 =>
  f_Mod_most_7 fu n_v_a n_v_b n_v_five n_v_left n_v_right x1 x3 x4 v_bMany v_fiveMany v_twos v_b_a v_five_a n y6 x8_3 u_2.2.1 u_2.2.2.1 u_2.2.2.2.1 u_2.2.2.2.2.1 u_2.2.2.2.2.2.1 u_2.2.2.2.2.2.2
  else
  f_Mod_most_7 fu n_v_a n_v_b n_v_five n_v_left n_v_right x1 x3 x4 v_bMany v_fiveMany v_twos v_b_a v_five_a n x10_1 y8 u_2.2.1 u_2.2.2.1 u_2.2.2.2.1 u_2.2.2.2.2.1 u_2.2.2.2.2.2.1 u_2.2.2.2.2.2.2)) := rfl
def f_Mod_most (fu : Nat) (n_v_a : Nat) (n_v_b : Nat) (n_v_five : Nat) (n_v_left : Nat) (n_v_right : Nat) (x1 : Int64) (x3 : Int32) (x4 : Int64) (v_aMany : Int32) (v_bMany : Int32) (v_fiveMany : Int32) (v_leftMany : Int32) (v_rightMany : Int32) (v_twos : Int32) (v_a_a : Nat → Int32) (v_b_a : Nat → Int32) (v_five_a : Nat → Int32) (v_left_a : Nat → Int32) (v_right_a : Nat → Int32) : Option (Int64 × Int32 × Int32 × Int32 × (Nat → Int32) × (Nat → Int32) × (Nat → Int32)) :=
  f_Mod_most_7 fu n_v_a n_v_b n_v_five n_v_left n_v_right x1 x3 x4 v_bMany v_fiveMany v_twos v_b_a v_five_a fu 0 x4 v_aMany v_leftMany v_rightMany v_a_a v_left_a v_right_a
set_option maxHeartbeats 4000000 in
set_option maxRecDepth 100000 in
theorem c_Mod_most (l : Launch) (dC : Nat → ClassId) (dI : Nat → Nat → Nat) (cI cC cB cJ : ClassId) (fu : Nat) (sz : Nat) (h_v : Nat) (h_v_a : Nat) (h_v_b : Nat) (h_v_five : Nat) (h_v_left : Nat) (h_v_right : Nat) (h_v_text : Nat) (h_v_written : Nat) (h_v_part : Nat) (n_v_a : Nat) (n_v_b : Nat) (n_v_five : Nat) (n_v_left : Nat) (n_v_right : Nat) (x1 : Int64) (x3 : Int32) (x4 : Int64) (v_length : Int32) (v_laid : Int32) (v_gone : Int32) (v_thrown : Int32) (v_were : Int32) (v_none : Int32) (v_beyond : Int32) (v_aMany : Int32) (v_bMany : Int32) (v_fiveMany : Int32) (v_leftMany : Int32) (v_rightMany : Int32) (v_partMany : Int32) (v_twos : Int32) (v_at : Int32) (v_digits : Int32) (v_power : Int32) (v_good : Int32) (v_a_a : Nat → Int32) (v_b_a : Nat → Int32) (v_five_a : Nat → Int32) (v_left_a : Nat → Int32) (v_right_a : Nat → Int32) (u : Int64 × Int32 × Int32 × Int32 × (Nat → Int32) × (Nat → Int32) × (Nat → Int32)) (hf : f_Mod_most fu n_v_a n_v_b n_v_five n_v_left n_v_right x1 x3 x4 v_aMany v_bMany v_fiveMany v_leftMany v_rightMany v_twos v_a_a v_b_a v_five_a v_left_a v_right_a = some u) : Met l y_Mod_most ws_Mod_most rm_Mod_most (zz_P zz_T (dC, dI) vwCl (zz_tys cI cC cB cJ) [.ref h_v, .long x1, .int x3, .long x4] [(h_v, .inr (7, [.ref h_v_text, .ref h_v_written, .int v_length, .int v_laid, .int v_gone, .int v_thrown, .int v_were, .int v_none, .int v_beyond, .ref h_v_a, .ref h_v_b, .ref h_v_five, .ref h_v_left, .ref h_v_right, .ref h_v_part, .int v_aMany, .int v_bMany, .int v_fiveMany, .int v_leftMany, .int v_rightMany, .int v_partMany, .int v_twos, .int v_at, .int v_digits, .int v_power, .int v_good])), (h_v_a, .inl (cI, n_v_a, .inl v_a_a)), (h_v_b, .inl (cI, n_v_b, .inl v_b_a)), (h_v_five, .inl (cI, n_v_five, .inl v_five_a)), (h_v_left, .inl (cI, n_v_left, .inl v_left_a)), (h_v_right, .inl (cI, n_v_right, .inl v_right_a))] sz) (zz_Ql (dC, dI) vwCl u.1 [(h_v, .inr (7, [.ref h_v_text, .ref h_v_written, .int v_length, .int v_laid, .int v_gone, .int v_thrown, .int v_were, .int v_none, .int v_beyond, .ref h_v_a, .ref h_v_b, .ref h_v_five, .ref h_v_left, .ref h_v_right, .ref h_v_part, .int u.2.1, .int v_bMany, .int v_fiveMany, .int u.2.2.1, .int u.2.2.2.1, .int v_partMany, .int v_twos, .int v_at, .int v_digits, .int v_power, .int v_good])), (h_v_a, .inl (cI, n_v_a, .inl u.2.2.2.2.1)), (h_v_b, .inl (cI, n_v_b, .inl v_b_a)), (h_v_five, .inl (cI, n_v_five, .inl v_five_a)), (h_v_left, .inl (cI, n_v_left, .inl u.2.2.2.2.2.1)), (h_v_right, .inl (cI, n_v_right, .inl u.2.2.2.2.2.2))] (va_A [(h_v, .inr (7, [.ref h_v_text, .ref h_v_written, .int v_length, .int v_laid, .int v_gone, .int v_thrown, .int v_were, .int v_none, .int v_beyond, .ref h_v_a, .ref h_v_b, .ref h_v_five, .ref h_v_left, .ref h_v_right, .ref h_v_part, .int v_aMany, .int v_bMany, .int v_fiveMany, .int v_leftMany, .int v_rightMany, .int v_partMany, .int v_twos, .int v_at, .int v_digits, .int v_power, .int v_good])), (h_v_a, .inl (cI, n_v_a, .inl v_a_a)), (h_v_b, .inl (cI, n_v_b, .inl v_b_a)), (h_v_five, .inl (cI, n_v_five, .inl v_five_a)), (h_v_left, .inl (cI, n_v_left, .inl v_left_a)), (h_v_right, .inl (cI, n_v_right, .inl v_right_a))] sz)) 0 0 (va_A [(h_v, .inr (7, [.ref h_v_text, .ref h_v_written, .int v_length, .int v_laid, .int v_gone, .int v_thrown, .int v_were, .int v_none, .int v_beyond, .ref h_v_a, .ref h_v_b, .ref h_v_five, .ref h_v_left, .ref h_v_right, .ref h_v_part, .int v_aMany, .int v_bMany, .int v_fiveMany, .int v_leftMany, .int v_rightMany, .int v_partMany, .int v_twos, .int v_at, .int v_digits, .int v_power, .int v_good])), (h_v_a, .inl (cI, n_v_a, .inl v_a_a)), (h_v_b, .inl (cI, n_v_b, .inl v_b_a)), (h_v_five, .inl (cI, n_v_five, .inl v_five_a)), (h_v_left, .inl (cI, n_v_left, .inl v_left_a)), (h_v_right, .inl (cI, n_v_right, .inl v_right_a))] sz) := by
  refine Met.ofW (cc := prog_10_method_31_code) (maxL := 12) (ret := (some .long)) (by decide +kernel) rfl ?_
  intro p e s m args below meth c s₁ B hml hv
  obtain ⟨rfl, hsz, hP, hK, hD0, hX⟩ := hv
  have hx := B.exec
  have hb := B.bytes
  have hr := B.returns
  have hts := atoms_spec (ws := ws_Mod_most) B.pre
  have hw : ∀ w ∈ zw, w.before [.ref h_v, .long x1, .int x3, .long x4].toArray s = true := fun w h => hts w (List.mem_cons_of_mem _ h)
  have hown : s.vm.findClass R_Mod = some m.cls := findClass_of_methodNamed B.named
  have hlocks := B.notSynchronized
  subst hsz
  have hD := hD0.self (sz := s.heap.size)
  generalize hAe : va_A [(h_v, .inr (7, [.ref h_v_text, .ref h_v_written, .int v_length, .int v_laid, .int v_gone, .int v_thrown, .int v_were, .int v_none, .int v_beyond, .ref h_v_a, .ref h_v_b, .ref h_v_five, .ref h_v_left, .ref h_v_right, .ref h_v_part, .int v_aMany, .int v_bMany, .int v_fiveMany, .int v_leftMany, .int v_rightMany, .int v_partMany, .int v_twos, .int v_at, .int v_digits, .int v_power, .int v_good])), (h_v_a, .inl (cI, n_v_a, .inl v_a_a)), (h_v_b, .inl (cI, n_v_b, .inl v_b_a)), (h_v_five, .inl (cI, n_v_five, .inl v_five_a)), (h_v_left, .inl (cI, n_v_left, .inl v_left_a)), (h_v_right, .inl (cI, n_v_right, .inl v_right_a))] s.heap.size = A at hD hX ⊢
  have hA : ∀ q : Nat, s.heap.size ≤ q → A q := fun q h => by rw [← hAe]; exact Or.inr h
  have hS : va_S A s.heap s.heap [] := va_S.rf
  have hl := lv_entry [.ref h_v, .long x1, .int x3, .long x4] (n := 12) (Nat.le_of_ble_eq_true rfl)
  rw [lg_entry_eq]
  generalize (lg_sl [.ref h_v, .long x1, .int x3, .long x4] ++ List.replicate (12 - (lg_sl [.ref h_v, .long x1, .int x3, .long x4]).length) Slot.unset).toArray = ls at hl ⊢
  have hl : lv_has ls 12 [(0, .ref h_v), (1, .long x1), (3, .int x3), (4, .long x4)] := hl
  refine zz_endl hx hb hr hlocks (fun Qq hend => ?_)
  have hL_7 : ∀ (n : Nat), ∀ (y6 : Int64) (y8 : Int64) (v_aMany : Int32) (v_leftMany : Int32) (v_rightMany : Int32) (v_a_a : Nat → Int32) (v_left_a : Nat → Int32) (v_right_a : Nat → Int32) (ls : Array Slot) (H : Heap) (locs : List Loc), lv_has ls 12 [(0, .ref h_v), (1, .long x1), (3, .int x3), (6, .long y6), (8, .long y8)] → va_P (dC, dI) vwCl [(h_v, .inr (7, [.ref h_v_text, .ref h_v_written, .int v_length, .int v_laid, .int v_gone, .int v_thrown, .int v_were, .int v_none, .int v_beyond, .ref h_v_a, .ref h_v_b, .ref h_v_five, .ref h_v_left, .ref h_v_right, .ref h_v_part, .int v_aMany, .int v_bMany, .int v_fiveMany, .int v_leftMany, .int v_rightMany, .int v_partMany, .int v_twos, .int v_at, .int v_digits, .int v_power, .int v_good])), (h_v_a, .inl (cI, n_v_a, .inl v_a_a)), (h_v_b, .inl (cI, n_v_b, .inl v_b_a)), (h_v_five, .inl (cI, n_v_five, .inl v_five_a)), (h_v_left, .inl (cI, n_v_left, .inl v_left_a)), (h_v_right, .inl (cI, n_v_right, .inl v_right_a))] H → va_D A [(h_v, .inr (7, [.ref h_v_text, .ref h_v_written, .int v_length, .int v_laid, .int v_gone, .int v_thrown, .int v_were, .int v_none, .int v_beyond, .ref h_v_a, .ref h_v_b, .ref h_v_five, .ref h_v_left, .ref h_v_right, .ref h_v_part, .int v_aMany, .int v_bMany, .int v_fiveMany, .int v_leftMany, .int v_rightMany, .int v_partMany, .int v_twos, .int v_at, .int v_digits, .int v_power, .int v_good])), (h_v_a, .inl (cI, n_v_a, .inl v_a_a)), (h_v_b, .inl (cI, n_v_b, .inl v_b_a)), (h_v_five, .inl (cI, n_v_five, .inl v_five_a)), (h_v_left, .inl (cI, n_v_left, .inl v_left_a)), (h_v_right, .inl (cI, n_v_right, .inl v_right_a))] → va_S A s.heap H locs → f_Mod_most_7 fu n_v_a n_v_b n_v_five n_v_left n_v_right x1 x3 x4 v_bMany v_fiveMany v_twos v_b_a v_five_a n y6 y8 v_aMany v_leftMany v_rightMany v_a_a v_left_a v_right_a = some u → W p l e (headSpec ws_Mod_most rm_Mod_most).room s m [.ref h_v, .long x1, .int x3, .long x4].toArray below meth c H locs 0 0 Qq (F0 m 7 ls []) := by
    intro n
    induction n with
    | zero =>
      intro y6 y8 v_aMany v_leftMany v_rightMany v_a_a v_left_a v_right_a ls H locs hl hP hD hS hf
      exact zz_no hf
    | succ n ih =>
      intro y6 y8 v_aMany v_leftMany v_rightMany v_a_a v_left_a v_right_a ls H locs hl hP hD hS hf
      rw [f_Mod_most_7_s] at hf
      refine lv_lload hx hb d_Mod_most_7 (lv_at hl 3 rfl) ?_
      refine lv_lload hx hb d_Mod_most_9 (lv_at hl 4 rfl) ?_
      refine W.lcmp hx hb d_Mod_most_11 ?_
      refine lv_if_ge (tgt := 58) hx hb d_Mod_most_12 (by decide) (fun hc => ?_) (fun hc => ?_)
      · have hf := zz_ifp hc hf
        refine lv_lload hx hb d_Mod_most_58 (lv_at hl 3 rfl) ?_
        cases hf
        exact hend 60 ls _ _ d_Mod_most_60 hP hD hS
      · have hf := zz_ifn hc hf
        refine lv_lload hx hb d_Mod_most_15 (lv_at hl 3 rfl) ?_
        refine lv_lload hx hb d_Mod_most_17 (lv_at hl 4 rfl) ?_
        refine lv_lload hx hb d_Mod_most_19 (lv_at hl 3 rfl) ?_
        refine lv_lsub hx hb d_Mod_most_21 ?_
        refine lv_lconst (v := 1) hx hb d_Mod_most_22 (by decide) ?_
        refine lv_ladd hx hb d_Mod_most_23 ?_
        refine lv_ldc2 (v := 2) hx hb hown (hw _ wd_822) d_Mod_most_24 ?_
        refine lv_ldiv hx hb d_Mod_most_27 (by decide) ?_
        refine lv_ladd hx hb d_Mod_most_28 ?_
        refine lv_topl (fun x10_1 e_x10_1 => ?_)
        have hf := zz_ltp hf x10_1 e_x10_1
        refine lv_lstore hx hb d_Mod_most_29 hl (by decide) rfl (fun ls hl => ?_)
        have hl : lv_has ls 12 [(10, .long x10_1), (0, .ref h_v), (1, .long x1), (3, .int x3), (6, .long y6), (8, .long y8)] := hl
        refine lv_aload_n hx hb d_Mod_most_31 rfl (lv_at hl 1 rfl) ?_
        refine lv_lload hx hb d_Mod_most_32 (lv_at hl 0 rfl) ?_
        refine lv_lload_n hx hb d_Mod_most_34 rfl (lv_at hl 2 rfl) ?_
        refine lv_iload_n hx hb d_Mod_most_35 rfl (lv_at hl 3 rfl) ?_
        obtain ⟨u_2, hu_2, hf⟩ := zz_bd hf
        refine zz_ci (ws' := [(h_v, .inr (7, [.ref h_v_text, .ref h_v_written, .int v_length, .int v_laid, .int v_gone, .int v_thrown, .int v_were, .int v_none, .int v_beyond, .ref h_v_a, .ref h_v_b, .ref h_v_five, .ref h_v_left, .ref h_v_right, .ref h_v_part, .int u_2.2.1, .int v_bMany, .int v_fiveMany, .int u_2.2.2.1, .int u_2.2.2.2.1, .int v_partMany, .int v_twos, .int v_at, .int v_digits, .int v_power, .int v_good])), (h_v_a, .inl (cI, n_v_a, .inl u_2.2.2.2.2.1)), (h_v_b, .inl (cI, n_v_b, .inl v_b_a)), (h_v_five, .inl (cI, n_v_five, .inl v_five_a)), (h_v_left, .inl (cI, n_v_left, .inl u_2.2.2.2.2.2.1)), (h_v_right, .inl (cI, n_v_right, .inl u_2.2.2.2.2.2.2))]) (wc := [(h_v, .inr (7, [.ref h_v_text, .ref h_v_written, .int v_length, .int v_laid, .int v_gone, .int v_thrown, .int v_were, .int v_none, .int v_beyond, .ref h_v_a, .ref h_v_b, .ref h_v_five, .ref h_v_left, .ref h_v_right, .ref h_v_part, .int v_aMany, .int v_bMany, .int v_fiveMany, .int v_leftMany, .int v_rightMany, .int v_partMany, .int v_twos, .int v_at, .int v_digits, .int v_power, .int v_good])), (h_v_a, .inl (cI, n_v_a, .inl v_a_a)), (h_v_b, .inl (cI, n_v_b, .inl v_b_a)), (h_v_five, .inl (cI, n_v_five, .inl v_five_a)), (h_v_left, .inl (cI, n_v_left, .inl v_left_a)), (h_v_right, .inl (cI, n_v_right, .inl v_right_a))]) (w' := [(h_v, .inr (7, [.ref h_v_text, .ref h_v_written, .int v_length, .int v_laid, .int v_gone, .int v_thrown, .int v_were, .int v_none, .int v_beyond, .ref h_v_a, .ref h_v_b, .ref h_v_five, .ref h_v_left, .ref h_v_right, .ref h_v_part, .int u_2.2.1, .int v_bMany, .int v_fiveMany, .int u_2.2.2.1, .int u_2.2.2.2.1, .int v_partMany, .int v_twos, .int v_at, .int v_digits, .int v_power, .int v_good])), (h_v_a, .inl (cI, n_v_a, .inl u_2.2.2.2.2.1)), (h_v_b, .inl (cI, n_v_b, .inl v_b_a)), (h_v_five, .inl (cI, n_v_five, .inl v_five_a)), (h_v_left, .inl (cI, n_v_left, .inl u_2.2.2.2.2.2.1)), (h_v_right, .inl (cI, n_v_right, .inl u_2.2.2.2.2.2.2))]) hP hD hS hA [0, 1, 2, 3, 4, 5] [] [0, 1, 2, 3, 4, 5] rfl rfl (by decide) (by decide) rfl (by decide) (va_runV (As := [.long x10_1, .long x1, .int x3]) (rest := []) ⟨hx, hb, hml, hown, hw⟩ (c_Mod_compareDigits l dC dI cI cC cB cJ fu _ h_v h_v_a h_v_b h_v_five h_v_left h_v_right h_v_text h_v_written h_v_part n_v_a n_v_b n_v_five n_v_left n_v_right x10_1 x1 x3 v_length v_laid v_gone v_thrown v_were v_none v_beyond v_aMany v_bMany v_fiveMany v_leftMany v_rightMany v_partMany v_twos v_at v_digits v_power v_good v_a_a v_b_a v_five_a v_left_a v_right_a u_2 hu_2) (cwV 3 hw (zg_V wd_879 wd_881 we_2_10 wd_8 wd_882) rfl rfl rfl hd_Mod_compareDigits ⟨Nat.le_of_ble_eq_true rfl, Nat.le_of_ble_eq_true rfl⟩) (zz_preV zz_TE (va_recv (q0 := 0) (ci := 7) hK hP rfl rfl) hP hD hK hS hA trivial [0, 1, 2, 3, 4, 5] rfl (by decide)) rfl rfl hl.1 rfl (lv_room (Nat.le_of_ble_eq_true rfl)) d_Mod_most_36 ⟨Nat.zero_le _, Nat.zero_le _⟩) (fun H locs hP hD hS => ?_)
        refine lv_if_gt (tgt := 49) hx hb d_Mod_most_39 (by decide) (fun hc => ?_) (fun hc => ?_)
        · have hf := zz_ifp hc hf
          refine lv_lload hx hb d_Mod_most_49 (lv_at hl 0 rfl) ?_
          refine lv_lconst (v := 1) hx hb d_Mod_most_51 (by decide) ?_
          refine lv_lsub hx hb d_Mod_most_52 ?_
          refine lv_topl (fun x8_3 e_x8_3 => ?_)
          have hf := zz_ltp hf x8_3 e_x8_3
          refine lv_lstore hx hb d_Mod_most_53 hl (by decide) rfl (fun ls hl => ?_)
          have hl : lv_has ls 12 [(8, .long x8_3), (10, .long x10_1), (0, .ref h_v), (1, .long x1), (3, .int x3), (6, .long y6)] := hl
          refine lv_goto (tgt := 7) hx hb d_Mod_most_55 (by decide) ?_
          exact ih y6 x8_3 u_2.2.1 u_2.2.2.1 u_2.2.2.2.1 u_2.2.2.2.2.1 u_2.2.2.2.2.2.1 u_2.2.2.2.2.2.2 ls _ _ (lv_sub hl [2, 3, 4, 5, 0] rfl) hP hD hS hf
        · have hf := zz_ifn hc hf
          refine lv_lload hx hb d_Mod_most_42 (lv_at hl 0 rfl) ?_
          refine lv_lstore hx hb d_Mod_most_44 hl (by decide) rfl (fun ls hl => ?_)
          have hl : lv_has ls 12 [(6, .long x10_1), (10, .long x10_1), (0, .ref h_v), (1, .long x1), (3, .int x3), (8, .long y8)] := hl
          refine lv_goto (tgt := 55) hx hb d_Mod_most_46 (by decide) ?_
          refine lv_goto (tgt := 7) hx hb d_Mod_most_55 (by decide) ?_
          exact ih x10_1 y8 u_2.2.1 u_2.2.2.1 u_2.2.2.2.1 u_2.2.2.2.2.1 u_2.2.2.2.2.2.1 u_2.2.2.2.2.2.2 ls _ _ (lv_sub hl [2, 3, 4, 0, 5] rfl) hP hD hS hf
  unfold f_Mod_most at hf
  refine lv_lconst (v := 0) hx hb d_Mod_most_0 (by decide) ?_
  refine lv_lstore hx hb d_Mod_most_1 hl (by decide) rfl (fun ls hl => ?_)
  have hl : lv_has ls 12 [(6, .long 0), (0, .ref h_v), (1, .long x1), (3, .int x3), (4, .long x4)] := hl
  refine lv_lload hx hb d_Mod_most_3 (lv_at hl 4 rfl) ?_
  refine lv_lstore hx hb d_Mod_most_5 hl (by decide) rfl (fun ls hl => ?_)
  have hl : lv_has ls 12 [(8, .long x4), (6, .long 0), (0, .ref h_v), (1, .long x1), (3, .int x3), (4, .long x4)] := hl
  exact hL_7 fu 0 x4 v_aMany v_leftMany v_rightMany v_a_a v_left_a v_right_a ls _ _ (lv_sub hl [2, 3, 4, 1, 0] rfl) hP hD hS hf
abbrev ws_Mod_shortest : List Cond := .code y_Mod_shortest prog_10_method_32_code 16 (some .long) :: zw
abbrev rm_Mod_shortest : Room := { frames := 6, cells := 0, slots := 0, locals := 156 }
theorem hd_Mod_shortest : y_Mod_shortest.cls = "RealTextModel" ∧ y_Mod_shortest.cls ≠ "java/lang/invoke/MethodHandle" ∧ y_Mod_shortest.cls ≠ "java/lang/invoke/VarHandle" ∧ (parseMethodDescriptor y_Mod_shortest.desc).map (fun d => d.parameters.length) = some 2 := by decide +kernel
theorem d_Mod_shortest_0 : decode prog_10_method_32_code 0 = .ok (.lload_n 1, 1) := by decide +kernel
theorem d_Mod_shortest_1 : decode prog_10_method_32_code 1 = .ok (.iload_n 3, 1) := by decide +kernel
theorem d_Mod_shortest_2 : decode prog_10_method_32_code 2 = .ok (.invokestatic 88, 3) := by decide +kernel
theorem d_Mod_shortest_5 : decode prog_10_method_32_code 5 = .ok (.lstore 4, 2) := by decide +kernel
theorem d_Mod_shortest_7 : decode prog_10_method_32_code 7 = .ok (.ldc2_w 182, 3) := by decide +kernel
theorem d_Mod_shortest_10 : decode prog_10_method_32_code 10 = .ok (.lstore 6, 2) := by decide +kernel
theorem d_Mod_shortest_12 : decode prog_10_method_32_code 12 = .ok (.lload_n 1, 1) := by decide +kernel
theorem d_Mod_shortest_13 : decode prog_10_method_32_code 13 = .ok (.iload_n 3, 1) := by decide +kernel
theorem d_Mod_shortest_14 : decode prog_10_method_32_code 14 = .ok (.invokestatic 92, 3) := by decide +kernel
theorem d_Mod_shortest_17 : decode prog_10_method_32_code 17 = .ok (.istore 8, 2) := by decide +kernel
theorem d_Mod_shortest_19 : decode prog_10_method_32_code 19 = .ok (.aload_n 0, 1) := by decide +kernel
theorem d_Mod_shortest_20 : decode prog_10_method_32_code 20 = .ok (.lload 4, 2) := by decide +kernel
theorem d_Mod_shortest_22 : decode prog_10_method_32_code 22 = .ok (.iload 8, 2) := by decide +kernel
theorem d_Mod_shortest_24 : decode prog_10_method_32_code 24 = .ok (.invokevirtual 184, 3) := by decide +kernel
theorem d_Mod_shortest_27 : decode prog_10_method_32_code 27 = .ok (.istore 9, 2) := by decide +kernel
theorem d_Mod_shortest_29 : decode prog_10_method_32_code 29 = .ok (.iconst 2, 1) := by decide +kernel
theorem d_Mod_shortest_30 : decode prog_10_method_32_code 30 = .ok (.istore 10, 2) := by decide +kernel
theorem d_Mod_shortest_32 : decode prog_10_method_32_code 32 = .ok (.iload 10, 2) := by decide +kernel
theorem d_Mod_shortest_34 : decode prog_10_method_32_code 34 = .ok (.bipush 20, 2) := by decide +kernel
theorem d_Mod_shortest_36 : decode prog_10_method_32_code 36 = .ok (.if_icmp .ge 154, 3) := by decide +kernel
theorem d_Mod_shortest_39 : decode prog_10_method_32_code 39 = .ok (.lload 6, 2) := by decide +kernel
theorem d_Mod_shortest_41 : decode prog_10_method_32_code 41 = .ok (.ldc2_w 182, 3) := by decide +kernel
theorem d_Mod_shortest_44 : decode prog_10_method_32_code 44 = .ok (.lmul, 1) := by decide +kernel
theorem d_Mod_shortest_45 : decode prog_10_method_32_code 45 = .ok (.lstore 6, 2) := by decide +kernel
theorem d_Mod_shortest_47 : decode prog_10_method_32_code 47 = .ok (.aload_n 0, 1) := by decide +kernel
theorem d_Mod_shortest_48 : decode prog_10_method_32_code 48 = .ok (.iload 9, 2) := by decide +kernel
theorem d_Mod_shortest_50 : decode prog_10_method_32_code 50 = .ok (.iload 10, 2) := by decide +kernel
theorem d_Mod_shortest_52 : decode prog_10_method_32_code 52 = .ok (.isub, 1) := by decide +kernel
theorem d_Mod_shortest_53 : decode prog_10_method_32_code 53 = .ok (.iconst 1, 1) := by decide +kernel
theorem d_Mod_shortest_54 : decode prog_10_method_32_code 54 = .ok (.iadd, 1) := by decide +kernel
theorem d_Mod_shortest_55 : decode prog_10_method_32_code 55 = .ok (.putfield 127, 3) := by decide +kernel
theorem d_Mod_shortest_58 : decode prog_10_method_32_code 58 = .ok (.aload_n 0, 1) := by decide +kernel
theorem d_Mod_shortest_59 : decode prog_10_method_32_code 59 = .ok (.aload_n 0, 1) := by decide +kernel
theorem d_Mod_shortest_60 : decode prog_10_method_32_code 60 = .ok (.getfield 127, 3) := by decide +kernel
theorem d_Mod_shortest_63 : decode prog_10_method_32_code 63 = .ok (.invokevirtual 174, 3) := by decide +kernel
theorem d_Mod_shortest_66 : decode prog_10_method_32_code 66 = .ok (.aload_n 0, 1) := by decide +kernel
theorem d_Mod_shortest_67 : decode prog_10_method_32_code 67 = .ok (.lload 4, 2) := by decide +kernel
theorem d_Mod_shortest_69 : decode prog_10_method_32_code 69 = .ok (.iload 8, 2) := by decide +kernel
theorem d_Mod_shortest_71 : decode prog_10_method_32_code 71 = .ok (.lload 6, 2) := by decide +kernel
theorem d_Mod_shortest_73 : decode prog_10_method_32_code 73 = .ok (.invokevirtual 187, 3) := by decide +kernel
theorem d_Mod_shortest_76 : decode prog_10_method_32_code 76 = .ok (.lstore 11, 2) := by decide +kernel
theorem d_Mod_shortest_78 : decode prog_10_method_32_code 78 = .ok (.aload_n 0, 1) := by decide +kernel
theorem d_Mod_shortest_79 : decode prog_10_method_32_code 79 = .ok (.lload 11, 2) := by decide +kernel
theorem d_Mod_shortest_81 : decode prog_10_method_32_code 81 = .ok (.lload_n 1, 1) := by decide +kernel
theorem d_Mod_shortest_82 : decode prog_10_method_32_code 82 = .ok (.iload_n 3, 1) := by decide +kernel
theorem d_Mod_shortest_83 : decode prog_10_method_32_code 83 = .ok (.invokevirtual 191, 3) := by decide +kernel
theorem d_Mod_shortest_86 : decode prog_10_method_32_code 86 = .ok (.istore 13, 2) := by decide +kernel
theorem d_Mod_shortest_88 : decode prog_10_method_32_code 88 = .ok (.aload_n 0, 1) := by decide +kernel
theorem d_Mod_shortest_89 : decode prog_10_method_32_code 89 = .ok (.lload 11, 2) := by decide +kernel
theorem d_Mod_shortest_91 : decode prog_10_method_32_code 91 = .ok (.lconst 1, 1) := by decide +kernel
theorem d_Mod_shortest_92 : decode prog_10_method_32_code 92 = .ok (.ladd, 1) := by decide +kernel
theorem d_Mod_shortest_93 : decode prog_10_method_32_code 93 = .ok (.lload_n 1, 1) := by decide +kernel
theorem d_Mod_shortest_94 : decode prog_10_method_32_code 94 = .ok (.iload_n 3, 1) := by decide +kernel
theorem d_Mod_shortest_95 : decode prog_10_method_32_code 95 = .ok (.invokevirtual 191, 3) := by decide +kernel
theorem d_Mod_shortest_98 : decode prog_10_method_32_code 98 = .ok (.istore 14, 2) := by decide +kernel
theorem d_Mod_shortest_100 : decode prog_10_method_32_code 100 = .ok (.iload 13, 2) := by decide +kernel
theorem d_Mod_shortest_102 : decode prog_10_method_32_code 102 = .ok (.ifCond .eq 57, 3) := by decide +kernel
theorem d_Mod_shortest_105 : decode prog_10_method_32_code 105 = .ok (.iload 14, 2) := by decide +kernel
theorem d_Mod_shortest_107 : decode prog_10_method_32_code 107 = .ok (.ifCond .eq 52, 3) := by decide +kernel
theorem d_Mod_shortest_110 : decode prog_10_method_32_code 110 = .ok (.aload_n 0, 1) := by decide +kernel
theorem d_Mod_shortest_111 : decode prog_10_method_32_code 111 = .ok (.ldc2_w 86, 3) := by decide +kernel
theorem d_Mod_shortest_114 : decode prog_10_method_32_code 114 = .ok (.lload 11, 2) := by decide +kernel
theorem d_Mod_shortest_116 : decode prog_10_method_32_code 116 = .ok (.lmul, 1) := by decide +kernel
theorem d_Mod_shortest_117 : decode prog_10_method_32_code 117 = .ok (.lconst 1, 1) := by decide +kernel
theorem d_Mod_shortest_118 : decode prog_10_method_32_code 118 = .ok (.ladd, 1) := by decide +kernel
theorem d_Mod_shortest_119 : decode prog_10_method_32_code 119 = .ok (.lload 4, 2) := by decide +kernel
theorem d_Mod_shortest_121 : decode prog_10_method_32_code 121 = .ok (.iload 8, 2) := by decide +kernel
theorem d_Mod_shortest_123 : decode prog_10_method_32_code 123 = .ok (.iconst 1, 1) := by decide +kernel
theorem d_Mod_shortest_124 : decode prog_10_method_32_code 124 = .ok (.iadd, 1) := by decide +kernel
theorem d_Mod_shortest_125 : decode prog_10_method_32_code 125 = .ok (.invokevirtual 178, 3) := by decide +kernel
theorem d_Mod_shortest_128 : decode prog_10_method_32_code 128 = .ok (.istore 15, 2) := by decide +kernel
theorem d_Mod_shortest_130 : decode prog_10_method_32_code 130 = .ok (.iload 15, 2) := by decide +kernel
theorem d_Mod_shortest_132 : decode prog_10_method_32_code 132 = .ok (.ifCond .gt 17, 3) := by decide +kernel
theorem d_Mod_shortest_135 : decode prog_10_method_32_code 135 = .ok (.iload 15, 2) := by decide +kernel
theorem d_Mod_shortest_137 : decode prog_10_method_32_code 137 = .ok (.ifCond .ne 17, 3) := by decide +kernel
theorem d_Mod_shortest_140 : decode prog_10_method_32_code 140 = .ok (.lload 11, 2) := by decide +kernel
theorem d_Mod_shortest_142 : decode prog_10_method_32_code 142 = .ok (.lconst 1, 1) := by decide +kernel
theorem d_Mod_shortest_143 : decode prog_10_method_32_code 143 = .ok (.land, 1) := by decide +kernel
theorem d_Mod_shortest_144 : decode prog_10_method_32_code 144 = .ok (.lconst 0, 1) := by decide +kernel
theorem d_Mod_shortest_145 : decode prog_10_method_32_code 145 = .ok (.lcmp, 1) := by decide +kernel
theorem d_Mod_shortest_146 : decode prog_10_method_32_code 146 = .ok (.ifCond .ne 8, 3) := by decide +kernel
theorem d_Mod_shortest_149 : decode prog_10_method_32_code 149 = .ok (.lload 11, 2) := by decide +kernel
theorem d_Mod_shortest_151 : decode prog_10_method_32_code 151 = .ok (.goto 7, 3) := by decide +kernel
theorem d_Mod_shortest_154 : decode prog_10_method_32_code 154 = .ok (.lload 11, 2) := by decide +kernel
theorem d_Mod_shortest_156 : decode prog_10_method_32_code 156 = .ok (.lconst 1, 1) := by decide +kernel
theorem d_Mod_shortest_157 : decode prog_10_method_32_code 157 = .ok (.ladd, 1) := by decide +kernel
theorem d_Mod_shortest_158 : decode prog_10_method_32_code 158 = .ok (.lreturn, 1) := by decide +kernel
theorem d_Mod_shortest_159 : decode prog_10_method_32_code 159 = .ok (.iload 13, 2) := by decide +kernel
theorem d_Mod_shortest_161 : decode prog_10_method_32_code 161 = .ok (.ifCond .ne 8, 3) := by decide +kernel
theorem d_Mod_shortest_164 : decode prog_10_method_32_code 164 = .ok (.iload 14, 2) := by decide +kernel
theorem d_Mod_shortest_166 : decode prog_10_method_32_code 166 = .ok (.ifCond .eq 18, 3) := by decide +kernel
theorem d_Mod_shortest_169 : decode prog_10_method_32_code 169 = .ok (.iload 13, 2) := by decide +kernel
theorem d_Mod_shortest_171 : decode prog_10_method_32_code 171 = .ok (.ifCond .eq 8, 3) := by decide +kernel
theorem d_Mod_shortest_174 : decode prog_10_method_32_code 174 = .ok (.lload 11, 2) := by decide +kernel
theorem d_Mod_shortest_176 : decode prog_10_method_32_code 176 = .ok (.goto 7, 3) := by decide +kernel
theorem d_Mod_shortest_179 : decode prog_10_method_32_code 179 = .ok (.lload 11, 2) := by decide +kernel
theorem d_Mod_shortest_181 : decode prog_10_method_32_code 181 = .ok (.lconst 1, 1) := by decide +kernel
theorem d_Mod_shortest_182 : decode prog_10_method_32_code 182 = .ok (.ladd, 1) := by decide +kernel
theorem d_Mod_shortest_183 : decode prog_10_method_32_code 183 = .ok (.lreturn, 1) := by decide +kernel
theorem d_Mod_shortest_184 : decode prog_10_method_32_code 184 = .ok (.iinc 10 1, 3) := by decide +kernel
theorem d_Mod_shortest_187 : decode prog_10_method_32_code 187 = .ok (.goto (-155), 3) := by decide +kernel
theorem d_Mod_shortest_190 : decode prog_10_method_32_code 190 = .ok (.lconst 0, 1) := by decide +kernel
theorem d_Mod_shortest_191 : decode prog_10_method_32_code 191 = .ok (.lreturn, 1) := by decide +kernel
def f_Mod_shortest_169 (fu : Nat) (n_v_a : Nat) (n_v_b : Nat) (n_v_five : Nat) (n_v_left : Nat) (n_v_right : Nat) (x1 : Int64) (x3 : Int32)  (y11 : Int64) (y13 : Int32) (v_aMany : Int32) (v_bMany : Int32) (v_fiveMany : Int32) (v_leftMany : Int32) (v_rightMany : Int32) (v_twos : Int32) (v_power : Int32) (v_a_a : Nat → Int32) (v_b_a : Nat → Int32) (v_five_a : Nat → Int32) (v_left_a : Nat → Int32) (v_right_a : Nat → Int32) : Option (Int64 × Int32 × Int32 × Int32 × Int32 × Int32 × Int32 × Int32 × (Nat → Int32) × (Nat → Int32) × (Nat → Int32) × (Nat → Int32) × (Nat → Int32)) :=
  (if y13 = 0 then
  some (y11 + 1, v_aMany, v_bMany, v_fiveMany, v_leftMany, v_rightMany, v_twos, v_power, v_a_a, v_b_a, v_five_a, v_left_a, v_right_a)
  else
  some (y11, v_aMany, v_bMany, v_fiveMany, v_leftMany, v_rightMany, v_twos, v_power, v_a_a, v_b_a, v_five_a, v_left_a, v_right_a))
def f_Mod_shortest_159 (fu : Nat) (n_v_a : Nat) (n_v_b : Nat) (n_v_five : Nat) (n_v_left : Nat) (n_v_right : Nat) (x1 : Int64) (x3 : Int32) (self32 : Int64 → Int64 → Int32 → Int32 → Int32 → Int32 → Int32 → Int32 → Int32 → Int32 → Int32 → Int32 → (Nat → Int32) → (Nat → Int32) → (Nat → Int32) → (Nat → Int32) → (Nat → Int32) → Option (Int64 × Int32 × Int32 × Int32 × Int32 × Int32 × Int32 × Int32 × (Nat → Int32) × (Nat → Int32) × (Nat → Int32) × (Nat → Int32) × (Nat → Int32))) (y4 : Int64) (y6 : Int64) (y8 : Int32) (y9 : Int32) (y10 : Int32) (y11 : Int64) (y13 : Int32) (y14 : Int32) (v_aMany : Int32) (v_bMany : Int32) (v_fiveMany : Int32) (v_leftMany : Int32) (v_rightMany : Int32) (v_twos : Int32) (v_power : Int32) (v_a_a : Nat → Int32) (v_b_a : Nat → Int32) (v_five_a : Nat → Int32) (v_left_a : Nat → Int32) (v_right_a : Nat → Int32) : Option (Int64 × Int32 × Int32 × Int32 × Int32 × Int32 × Int32 × Int32 × (Nat → Int32) × (Nat → Int32) × (Nat → Int32) × (Nat → Int32) × (Nat → Int32)) :=
  (if y13 = 0 then
  (if y14 = 0 then
  self32 y4 y6 y8 y9 (y10 + 1) v_aMany v_bMany v_fiveMany v_leftMany v_rightMany v_twos v_power v_a_a v_b_a v_five_a v_left_a v_right_a
  else
  f_Mod_shortest_169 fu n_v_a n_v_b n_v_five n_v_left n_v_right x1 x3 y11 y13 v_aMany v_bMany v_fiveMany v_leftMany v_rightMany v_twos v_power v_a_a v_b_a v_five_a v_left_a v_right_a)
  else
  f_Mod_shortest_169 fu n_v_a n_v_b n_v_five n_v_left n_v_right x1 x3 y11 y13 v_aMany v_bMany v_fiveMany v_leftMany v_rightMany v_twos v_power v_a_a v_b_a v_five_a v_left_a v_right_a)
def f_Mod_shortest_32 (fu : Nat) (n_v_a : Nat) (n_v_b : Nat) (n_v_five : Nat) (n_v_left : Nat) (n_v_right : Nat) (x1 : Int64) (x3 : Int32)  : Nat → Int64 → Int64 → Int32 → Int32 → Int32 → Int32 → Int32 → Int32 → Int32 → Int32 → Int32 → Int32 → (Nat → Int32) → (Nat → Int32) → (Nat → Int32) → (Nat → Int32) → (Nat → Int32) → Option (Int64 × Int32 × Int32 × Int32 × Int32 × Int32 × Int32 × Int32 × (Nat → Int32) × (Nat → Int32) × (Nat → Int32) × (Nat → Int32) × (Nat → Int32))
  | 0, _, _, _, _, _, _, _, _, _, _, _, _, _, _, _, _, _ => none
  | n + 1, y4, y6, y8, y9, y10, v_aMany, v_bMany, v_fiveMany, v_leftMany, v_rightMany, v_twos, v_power, v_a_a, v_b_a, v_five_a, v_left_a, v_right_a =>
  (if 20 ≤ y10 then
  some (0, v_aMany, v_bMany, v_fiveMany, v_leftMany, v_rightMany, v_twos, v_power, v_a_a, v_b_a, v_five_a, v_left_a, v_right_a)
  else
  zz_lt (y6 * 10) fun x6_4 =>
  (f_Mod_scale fu n_v_b n_v_five ((y9 - y10) + 1) v_bMany v_fiveMany v_twos v_b_a v_five_a).bind fun u_5 =>
  (f_Mod_most fu n_v_a n_v_b n_v_five n_v_left n_v_right y4 y8 x6_4 v_aMany u_5.1 u_5.2.1 v_leftMany v_rightMany u_5.2.2.1 v_a_a u_5.2.2.2.1 u_5.2.2.2.2 v_left_a v_right_a).bind fun u_6 =>
  (f_Mod_isRead fu n_v_a n_v_b n_v_five n_v_left n_v_right u_6.1 x1 x3 u_6.2.1 u_5.1 u_5.2.1 u_6.2.2.1 u_6.2.2.2.1 u_5.2.2.1 u_6.2.2.2.2.1 u_5.2.2.2.1 u_5.2.2.2.2 u_6.2.2.2.2.2.1 u_6.2.2.2.2.2.2).bind fun u_7 =>
  (f_Mod_isRead fu n_v_a n_v_b n_v_five n_v_left n_v_right (u_6.1 + 1) x1 x3 u_7.2.1 u_5.1 u_5.2.1 u_7.2.2.1 u_7.2.2.2.1 u_5.2.2.1 u_7.2.2.2.2.1 u_5.2.2.2.1 u_5.2.2.2.2 u_7.2.2.2.2.2.1 u_7.2.2.2.2.2.2).bind fun u_8 =>
  (if u_7.1 = 0 then
  f_Mod_shortest_159 fu n_v_a n_v_b n_v_five n_v_left n_v_right x1 x3 (f_Mod_shortest_32 fu n_v_a n_v_b n_v_five n_v_left n_v_right x1 x3 n) y4 x6_4 y8 y9 y10 u_6.1 u_7.1 u_8.1 u_8.2.1 u_5.1 u_5.2.1 u_8.2.2.1 u_8.2.2.2.1 u_5.2.2.1 ((y9 - y10) + 1) u_8.2.2.2.2.1 u_5.2.2.2.1 u_5.2.2.2.2 u_8.2.2.2.2.2.1 u_8.2.2.2.2.2.2
  else
  (if u_8.1 = 0 then
  f_Mod_shortest_159 fu n_v_a n_v_b n_v_five n_v_left n_v_right x1 x3 (f_Mod_shortest_32 fu n_v_a n_v_b n_v_five n_v_left n_v_right x1 x3 n) y4 x6_4 y8 y9 y10 u_6.1 u_7.1 u_8.1 u_8.2.1 u_5.1 u_5.2.1 u_8.2.2.1 u_8.2.2.2.1 u_5.2.2.1 ((y9 - y10) + 1) u_8.2.2.2.2.1 u_5.2.2.2.1 u_5.2.2.2.2 u_8.2.2.2.2.2.1 u_8.2.2.2.2.2.2
  else
  (f_Mod_compareDigits fu n_v_a n_v_b n_v_five n_v_left n_v_right ((2 * u_6.1) + 1) y4 (y8 + 1) u_8.2.1 u_5.1 u_5.2.1 u_8.2.2.1 u_8.2.2.2.1 u_5.2.2.1 u_8.2.2.2.2.1 u_5.2.2.2.1 u_5.2.2.2.2 u_8.2.2.2.2.2.1 u_8.2.2.2.2.2.2).bind fun u_9 =>
  (if 0 < u_9.1 then
  some (u_6.1, u_9.2.1, u_5.1, u_5.2.1, u_9.2.2.1, u_9.2.2.2.1, u_5.2.2.1, (y9 - y10) + 1, u_9.2.2.2.2.1, u_5.2.2.2.1, u_5.2.2.2.2, u_9.2.2.2.2.2.1, u_9.2.2.2.2.2.2)
  else
  (if u_9.1 = 0 then
  (if (lg_cmp (u_6.1 &&& 1) 0) = 0 then
  some (u_6.1, u_9.2.1, u_5.1, u_5.2.1, u_9.2.2.1, u_9.2.2.2.1, u_5.2.2.1, (y9 - y10) + 1, u_9.2.2.2.2.1, u_5.2.2.2.1, u_5.2.2.2.2, u_9.2.2.2.2.2.1, u_9.2.2.2.2.2.2)
  else
  some (u_6.1 + 1, u_9.2.1, u_5.1, u_5.2.1, u_9.2.2.1, u_9.2.2.2.1, u_5.2.2.1, (y9 - y10) + 1, u_9.2.2.2.2.1, u_5.2.2.2.1, u_5.2.2.2.2, u_9.2.2.2.2.2.1, u_9.2.2.2.2.2.2))
  else
  some (u_6.1 + 1, u_9.2.1, u_5.1, u_5.2.1, u_9.2.2.1, u_9.2.2.2.1, u_5.2.2.1, (y9 - y10) + 1, u_9.2.2.2.2.1, u_5.2.2.2.1, u_5.2.2.2.2, u_9.2.2.2.2.2.1, u_9.2.2.2.2.2.2))))))
theorem f_Mod_shortest_32_s (fu : Nat) (n_v_a : Nat) (n_v_b : Nat) (n_v_five : Nat) (n_v_left : Nat) (n_v_right : Nat) (x1 : Int64) (x3 : Int32)  (n : Nat) (y4 : Int64) (y6 : Int64) (y8 : Int32) (y9 : Int32) (y10 : Int32) (v_aMany : Int32) (v_bMany : Int32) (v_fiveMany : Int32) (v_leftMany : Int32) (v_rightMany : Int32) (v_twos : Int32) (v_power : Int32) (v_a_a : Nat → Int32) (v_b_a : Nat → Int32) (v_five_a : Nat → Int32) (v_left_a : Nat → Int32) (v_right_a : Nat → Int32) : f_Mod_shortest_32 fu n_v_a n_v_b n_v_five n_v_left n_v_right x1 x3 (n + 1) y4 y6 y8 y9 y10 v_aMany v_bMany v_fiveMany v_leftMany v_rightMany v_twos v_power v_a_a v_b_a v_five_a v_left_a v_right_a =
  (if 20 ≤ y10 then
  some (0, v_aMany, v_bMany, v_fiveMany, v_leftMany, v_rightMany, v_twos, v_power, v_a_a, v_b_a, v_five_a, v_left_a, v_right_a)
  else
  zz_lt (y6 * 10) fun x6_4 =>
  (f_Mod_scale fu n_v_b n_v_five ((y9 - y10) + 1) v_bMany v_fiveMany v_twos v_b_a v_five_a).bind fun u_5 =>
  (f_Mod_most fu n_v_a n_v_b n_v_five n_v_left n_v_right y4 y8 x6_4 v_aMany u_5.1 u_5.2.1 v_leftMany v_rightMany u_5.2.2.1 v_a_a u_5.2.2.2.1 u_5.2.2.2.2 v_left_a v_right_a).bind fun u_6 =>
  (f_Mod_isRead fu n_v_a n_v_b n_v_five n_v_left n_v_right u_6.1 x1 x3 u_6.2.1 u_5.1 u_5.2.1 u_6.2.2.1 u_6.2.2.2.1 u_5.2.2.1 u_6.2.2.2.2.1 u_5.2.2.2.1 u_5.2.2.2.2 u_6.2.2.2.2.2.1 u_6.2.2.2.2.2.2).bind fun u_7 =>
  (f_Mod_isRead fu n_v_a n_v_b n_v_five n_v_left n_v_right (u_6.1 + 1) x1 x3 u_7.2.1 u_5.1 u_5.2.1 u_7.2.2.1 u_7.2.2.2.1 u_5.2.2.1 u_7.2.2.2.2.1 u_5.2.2.2.1 u_5.2.2.2.2 u_7.2.2.2.2.2.1 u_7.2.2.2.2.2.2).bind fun u_8 =>
  (if u_7.1 = 0 then
  f_Mod_shortest_159 fu n_v_a n_v_b n_v_five n_v_left n_v_right x1 x3 (f_Mod_shortest_32 fu n_v_a n_v_b n_v_five n_v_left n_v_right x1 x3 n) y4 x6_4 y8 y9 y10 u_6.1 u_7.1 u_8.1 u_8.2.1 u_5.1 u_5.2.1 u_8.2.2.1 u_8.2.2.2.1 u_5.2.2.1 ((y9 - y10) + 1) u_8.2.2.2.2.1 u_5.2.2.2.1 u_5.2.2.2.2 u_8.2.2.2.2.2.1 u_8.2.2.2.2.2.2
  else
  (if u_8.1 = 0 then
  f_Mod_shortest_159 fu n_v_a n_v_b n_v_five n_v_left n_v_right x1 x3 (f_Mod_shortest_32 fu n_v_a n_v_b n_v_five n_v_left n_v_right x1 x3 n) y4 x6_4 y8 y9 y10 u_6.1 u_7.1 u_8.1 u_8.2.1 u_5.1 u_5.2.1 u_8.2.2.1 u_8.2.2.2.1 u_5.2.2.1 ((y9 - y10) + 1) u_8.2.2.2.2.1 u_5.2.2.2.1 u_5.2.2.2.2 u_8.2.2.2.2.2.1 u_8.2.2.2.2.2.2
  else
  (f_Mod_compareDigits fu n_v_a n_v_b n_v_five n_v_left n_v_right ((2 * u_6.1) + 1) y4 (y8 + 1) u_8.2.1 u_5.1 u_5.2.1 u_8.2.2.1 u_8.2.2.2.1 u_5.2.2.1 u_8.2.2.2.2.1 u_5.2.2.2.1 u_5.2.2.2.2 u_8.2.2.2.2.2.1 u_8.2.2.2.2.2.2).bind fun u_9 =>
  (if 0 < u_9.1 then
  some (u_6.1, u_9.2.1, u_5.1, u_5.2.1, u_9.2.2.1, u_9.2.2.2.1, u_5.2.2.1, (y9 - y10) + 1, u_9.2.2.2.2.1, u_5.2.2.2.1, u_5.2.2.2.2, u_9.2.2.2.2.2.1, u_9.2.2.2.2.2.2)
  else
  (if u_9.1 = 0 then
  (if (lg_cmp (u_6.1 &&& 1) 0) = 0 then
  some (u_6.1, u_9.2.1, u_5.1, u_5.2.1, u_9.2.2.1, u_9.2.2.2.1, u_5.2.2.1, (y9 - y10) + 1, u_9.2.2.2.2.1, u_5.2.2.2.1, u_5.2.2.2.2, u_9.2.2.2.2.2.1, u_9.2.2.2.2.2.2)
  else
  some (u_6.1 + 1, u_9.2.1, u_5.1, u_5.2.1, u_9.2.2.1, u_9.2.2.2.1, u_5.2.2.1, (y9 - y10) + 1, u_9.2.2.2.2.1, u_5.2.2.2.1, u_5.2.2.2.2, u_9.2.2.2.2.2.1, u_9.2.2.2.2.2.2))
  else
  some (u_6.1 + 1, u_9.2.1, u_5.1, u_5.2.1, u_9.2.2.1, u_9.2.2.2.1, u_5.2.2.1, (y9 - y10) + 1, u_9.2.2.2.2.1, u_5.2.2.2.1, u_5.2.2.2.2, u_9.2.2.2.2.2.1, u_9.2.2.2.2.2.2)))))) := rfl
def f_Mod_shortest (fu : Nat) (n_v_a : Nat) (n_v_b : Nat) (n_v_five : Nat) (n_v_left : Nat) (n_v_right : Nat) (x1 : Int64) (x3 : Int32) (v_aMany : Int32) (v_bMany : Int32) (v_fiveMany : Int32) (v_leftMany : Int32) (v_rightMany : Int32) (v_twos : Int32) (v_power : Int32) (v_a_a : Nat → Int32) (v_b_a : Nat → Int32) (v_five_a : Nat → Int32) (v_left_a : Nat → Int32) (v_right_a : Nat → Int32) : Option (Int64 × Int32 × Int32 × Int32 × Int32 × Int32 × Int32 × Int32 × (Nat → Int32) × (Nat → Int32) × (Nat → Int32) × (Nat → Int32) × (Nat → Int32)) :=
  (f_Mod_mantissa x1 x3).bind fun u_1 =>
  (f_Mod_exponent x1 x3).bind fun u_2 =>
  (f_Mod_tens fu n_v_a n_v_b n_v_five n_v_left n_v_right u_1 u_2 v_aMany v_bMany v_fiveMany v_leftMany v_rightMany v_twos v_a_a v_b_a v_five_a v_left_a v_right_a).bind fun u_3 =>
  f_Mod_shortest_32 fu n_v_a n_v_b n_v_five n_v_left n_v_right x1 x3 fu u_1 10 u_2 u_3.1 2 u_3.2.1 u_3.2.2.1 u_3.2.2.2.1 u_3.2.2.2.2.1 u_3.2.2.2.2.2.1 u_3.2.2.2.2.2.2.1 v_power u_3.2.2.2.2.2.2.2.1 u_3.2.2.2.2.2.2.2.2.1 u_3.2.2.2.2.2.2.2.2.2.1 u_3.2.2.2.2.2.2.2.2.2.2.1 u_3.2.2.2.2.2.2.2.2.2.2.2
set_option maxHeartbeats 4000000 in
set_option maxRecDepth 100000 in
theorem c_Mod_shortest (l : Launch) (dC : Nat → ClassId) (dI : Nat → Nat → Nat) (cI cC cB cJ : ClassId) (fu : Nat) (sz : Nat) (h_v : Nat) (h_v_a : Nat) (h_v_b : Nat) (h_v_five : Nat) (h_v_left : Nat) (h_v_right : Nat) (h_v_text : Nat) (h_v_written : Nat) (h_v_part : Nat) (n_v_a : Nat) (n_v_b : Nat) (n_v_five : Nat) (n_v_left : Nat) (n_v_right : Nat) (x1 : Int64) (x3 : Int32) (v_length : Int32) (v_laid : Int32) (v_gone : Int32) (v_thrown : Int32) (v_were : Int32) (v_none : Int32) (v_beyond : Int32) (v_aMany : Int32) (v_bMany : Int32) (v_fiveMany : Int32) (v_leftMany : Int32) (v_rightMany : Int32) (v_partMany : Int32) (v_twos : Int32) (v_at : Int32) (v_digits : Int32) (v_power : Int32) (v_good : Int32) (v_a_a : Nat → Int32) (v_b_a : Nat → Int32) (v_five_a : Nat → Int32) (v_left_a : Nat → Int32) (v_right_a : Nat → Int32) (u : Int64 × Int32 × Int32 × Int32 × Int32 × Int32 × Int32 × Int32 × (Nat → Int32) × (Nat → Int32) × (Nat → Int32) × (Nat → Int32) × (Nat → Int32)) (hf : f_Mod_shortest fu n_v_a n_v_b n_v_five n_v_left n_v_right x1 x3 v_aMany v_bMany v_fiveMany v_leftMany v_rightMany v_twos v_power v_a_a v_b_a v_five_a v_left_a v_right_a = some u) : Met l y_Mod_shortest ws_Mod_shortest rm_Mod_shortest (zz_P zz_T (dC, dI) vwCl (zz_tys cI cC cB cJ) [.ref h_v, .long x1, .int x3] [(h_v, .inr (7, [.ref h_v_text, .ref h_v_written, .int v_length, .int v_laid, .int v_gone, .int v_thrown, .int v_were, .int v_none, .int v_beyond, .ref h_v_a, .ref h_v_b, .ref h_v_five, .ref h_v_left, .ref h_v_right, .ref h_v_part, .int v_aMany, .int v_bMany, .int v_fiveMany, .int v_leftMany, .int v_rightMany, .int v_partMany, .int v_twos, .int v_at, .int v_digits, .int v_power, .int v_good])), (h_v_a, .inl (cI, n_v_a, .inl v_a_a)), (h_v_b, .inl (cI, n_v_b, .inl v_b_a)), (h_v_five, .inl (cI, n_v_five, .inl v_five_a)), (h_v_left, .inl (cI, n_v_left, .inl v_left_a)), (h_v_right, .inl (cI, n_v_right, .inl v_right_a))] sz) (zz_Ql (dC, dI) vwCl u.1 [(h_v, .inr (7, [.ref h_v_text, .ref h_v_written, .int v_length, .int v_laid, .int v_gone, .int v_thrown, .int v_were, .int v_none, .int v_beyond, .ref h_v_a, .ref h_v_b, .ref h_v_five, .ref h_v_left, .ref h_v_right, .ref h_v_part, .int u.2.1, .int u.2.2.1, .int u.2.2.2.1, .int u.2.2.2.2.1, .int u.2.2.2.2.2.1, .int v_partMany, .int u.2.2.2.2.2.2.1, .int v_at, .int v_digits, .int u.2.2.2.2.2.2.2.1, .int v_good])), (h_v_a, .inl (cI, n_v_a, .inl u.2.2.2.2.2.2.2.2.1)), (h_v_b, .inl (cI, n_v_b, .inl u.2.2.2.2.2.2.2.2.2.1)), (h_v_five, .inl (cI, n_v_five, .inl u.2.2.2.2.2.2.2.2.2.2.1)), (h_v_left, .inl (cI, n_v_left, .inl u.2.2.2.2.2.2.2.2.2.2.2.1)), (h_v_right, .inl (cI, n_v_right, .inl u.2.2.2.2.2.2.2.2.2.2.2.2))] (va_A [(h_v, .inr (7, [.ref h_v_text, .ref h_v_written, .int v_length, .int v_laid, .int v_gone, .int v_thrown, .int v_were, .int v_none, .int v_beyond, .ref h_v_a, .ref h_v_b, .ref h_v_five, .ref h_v_left, .ref h_v_right, .ref h_v_part, .int v_aMany, .int v_bMany, .int v_fiveMany, .int v_leftMany, .int v_rightMany, .int v_partMany, .int v_twos, .int v_at, .int v_digits, .int v_power, .int v_good])), (h_v_a, .inl (cI, n_v_a, .inl v_a_a)), (h_v_b, .inl (cI, n_v_b, .inl v_b_a)), (h_v_five, .inl (cI, n_v_five, .inl v_five_a)), (h_v_left, .inl (cI, n_v_left, .inl v_left_a)), (h_v_right, .inl (cI, n_v_right, .inl v_right_a))] sz)) 0 0 (va_A [(h_v, .inr (7, [.ref h_v_text, .ref h_v_written, .int v_length, .int v_laid, .int v_gone, .int v_thrown, .int v_were, .int v_none, .int v_beyond, .ref h_v_a, .ref h_v_b, .ref h_v_five, .ref h_v_left, .ref h_v_right, .ref h_v_part, .int v_aMany, .int v_bMany, .int v_fiveMany, .int v_leftMany, .int v_rightMany, .int v_partMany, .int v_twos, .int v_at, .int v_digits, .int v_power, .int v_good])), (h_v_a, .inl (cI, n_v_a, .inl v_a_a)), (h_v_b, .inl (cI, n_v_b, .inl v_b_a)), (h_v_five, .inl (cI, n_v_five, .inl v_five_a)), (h_v_left, .inl (cI, n_v_left, .inl v_left_a)), (h_v_right, .inl (cI, n_v_right, .inl v_right_a))] sz) := by
  refine Met.ofW (cc := prog_10_method_32_code) (maxL := 16) (ret := (some .long)) (by decide +kernel) rfl ?_
  intro p e s m args below meth c s₁ B hml hv
  obtain ⟨rfl, hsz, hP, hK, hD0, hX⟩ := hv
  have hx := B.exec
  have hb := B.bytes
  have hr := B.returns
  have hts := atoms_spec (ws := ws_Mod_shortest) B.pre
  have hw : ∀ w ∈ zw, w.before [.ref h_v, .long x1, .int x3].toArray s = true := fun w h => hts w (List.mem_cons_of_mem _ h)
  have hown : s.vm.findClass R_Mod = some m.cls := findClass_of_methodNamed B.named
  have hlocks := B.notSynchronized
  subst hsz
  have hD := hD0.self (sz := s.heap.size)
  generalize hAe : va_A [(h_v, .inr (7, [.ref h_v_text, .ref h_v_written, .int v_length, .int v_laid, .int v_gone, .int v_thrown, .int v_were, .int v_none, .int v_beyond, .ref h_v_a, .ref h_v_b, .ref h_v_five, .ref h_v_left, .ref h_v_right, .ref h_v_part, .int v_aMany, .int v_bMany, .int v_fiveMany, .int v_leftMany, .int v_rightMany, .int v_partMany, .int v_twos, .int v_at, .int v_digits, .int v_power, .int v_good])), (h_v_a, .inl (cI, n_v_a, .inl v_a_a)), (h_v_b, .inl (cI, n_v_b, .inl v_b_a)), (h_v_five, .inl (cI, n_v_five, .inl v_five_a)), (h_v_left, .inl (cI, n_v_left, .inl v_left_a)), (h_v_right, .inl (cI, n_v_right, .inl v_right_a))] s.heap.size = A at hD hX ⊢
  have hA : ∀ q : Nat, s.heap.size ≤ q → A q := fun q h => by rw [← hAe]; exact Or.inr h
  have hS : va_S A s.heap s.heap [] := va_S.rf
  have hl := lv_entry [.ref h_v, .long x1, .int x3] (n := 16) (Nat.le_of_ble_eq_true rfl)
  rw [lg_entry_eq]
  generalize (lg_sl [.ref h_v, .long x1, .int x3] ++ List.replicate (16 - (lg_sl [.ref h_v, .long x1, .int x3]).length) Slot.unset).toArray = ls at hl ⊢
  have hl : lv_has ls 16 [(0, .ref h_v), (1, .long x1), (3, .int x3)] := hl
  refine zz_endl hx hb hr hlocks (fun Qq hend => ?_)
  have hL_169 : ∀ (y11 : Int64) (y13 : Int32) (v_aMany : Int32) (v_bMany : Int32) (v_fiveMany : Int32) (v_leftMany : Int32) (v_rightMany : Int32) (v_twos : Int32) (v_power : Int32) (v_a_a : Nat → Int32) (v_b_a : Nat → Int32) (v_five_a : Nat → Int32) (v_left_a : Nat → Int32) (v_right_a : Nat → Int32) (ls : Array Slot) (H : Heap) (locs : List Loc), lv_has ls 16 [(11, .long y11), (13, .int y13)] → va_P (dC, dI) vwCl [(h_v, .inr (7, [.ref h_v_text, .ref h_v_written, .int v_length, .int v_laid, .int v_gone, .int v_thrown, .int v_were, .int v_none, .int v_beyond, .ref h_v_a, .ref h_v_b, .ref h_v_five, .ref h_v_left, .ref h_v_right, .ref h_v_part, .int v_aMany, .int v_bMany, .int v_fiveMany, .int v_leftMany, .int v_rightMany, .int v_partMany, .int v_twos, .int v_at, .int v_digits, .int v_power, .int v_good])), (h_v_a, .inl (cI, n_v_a, .inl v_a_a)), (h_v_b, .inl (cI, n_v_b, .inl v_b_a)), (h_v_five, .inl (cI, n_v_five, .inl v_five_a)), (h_v_left, .inl (cI, n_v_left, .inl v_left_a)), (h_v_right, .inl (cI, n_v_right, .inl v_right_a))] H → va_D A [(h_v, .inr (7, [.ref h_v_text, .ref h_v_written, .int v_length, .int v_laid, .int v_gone, .int v_thrown, .int v_were, .int v_none, .int v_beyond, .ref h_v_a, .ref h_v_b, .ref h_v_five, .ref h_v_left, .ref h_v_right, .ref h_v_part, .int v_aMany, .int v_bMany, .int v_fiveMany, .int v_leftMany, .int v_rightMany, .int v_partMany, .int v_twos, .int v_at, .int v_digits, .int v_power, .int v_good])), (h_v_a, .inl (cI, n_v_a, .inl v_a_a)), (h_v_b, .inl (cI, n_v_b, .inl v_b_a)), (h_v_five, .inl (cI, n_v_five, .inl v_five_a)), (h_v_left, .inl (cI, n_v_left, .inl v_left_a)), (h_v_right, .inl (cI, n_v_right, .inl v_right_a))] → va_S A s.heap H locs → f_Mod_shortest_169 fu n_v_a n_v_b n_v_five n_v_left n_v_right x1 x3 y11 y13 v_aMany v_bMany v_fiveMany v_leftMany v_rightMany v_twos v_power v_a_a v_b_a v_five_a v_left_a v_right_a = some u → W p l e (headSpec ws_Mod_shortest rm_Mod_shortest).room s m [.ref h_v, .long x1, .int x3].toArray below meth c H locs 0 0 Qq (F0 m 169 ls []) := by
    intro y11 y13 v_aMany v_bMany v_fiveMany v_leftMany v_rightMany v_twos v_power v_a_a v_b_a v_five_a v_left_a v_right_a ls H locs hl hP hD hS hf
    unfold f_Mod_shortest_169 at hf
    refine lv_iload hx hb d_Mod_shortest_169 (lv_at hl 1 rfl) ?_
    refine lv_if_eq (tgt := 179) hx hb d_Mod_shortest_171 (by decide) (fun hc => ?_) (fun hc => ?_)
    · have hf := zz_ifp hc hf
      refine lv_lload hx hb d_Mod_shortest_179 (lv_at hl 0 rfl) ?_
      refine lv_lconst (v := 1) hx hb d_Mod_shortest_181 (by decide) ?_
      refine lv_ladd hx hb d_Mod_shortest_182 ?_
      cases hf
      exact hend 183 ls _ _ d_Mod_shortest_183 hP hD hS
    · have hf := zz_ifn hc hf
      refine lv_lload hx hb d_Mod_shortest_174 (lv_at hl 0 rfl) ?_
      refine lv_goto (tgt := 183) hx hb d_Mod_shortest_176 (by decide) ?_
      cases hf
      exact hend 183 ls _ _ d_Mod_shortest_183 hP hD hS
  have hL_159 : ∀ (self32 : Int64 → Int64 → Int32 → Int32 → Int32 → Int32 → Int32 → Int32 → Int32 → Int32 → Int32 → Int32 → (Nat → Int32) → (Nat → Int32) → (Nat → Int32) → (Nat → Int32) → (Nat → Int32) → Option (Int64 × Int32 × Int32 × Int32 × Int32 × Int32 × Int32 × Int32 × (Nat → Int32) × (Nat → Int32) × (Nat → Int32) × (Nat → Int32) × (Nat → Int32))), (∀ (y4 : Int64) (y6 : Int64) (y8 : Int32) (y9 : Int32) (y10 : Int32) (v_aMany : Int32) (v_bMany : Int32) (v_fiveMany : Int32) (v_leftMany : Int32) (v_rightMany : Int32) (v_twos : Int32) (v_power : Int32) (v_a_a : Nat → Int32) (v_b_a : Nat → Int32) (v_five_a : Nat → Int32) (v_left_a : Nat → Int32) (v_right_a : Nat → Int32) (ls : Array Slot) (H : Heap) (locs : List Loc), lv_has ls 16 [(0, .ref h_v), (1, .long x1), (3, .int x3), (4, .long y4), (6, .long y6), (8, .int y8), (9, .int y9), (10, .int y10)] → va_P (dC, dI) vwCl [(h_v, .inr (7, [.ref h_v_text, .ref h_v_written, .int v_length, .int v_laid, .int v_gone, .int v_thrown, .int v_were, .int v_none, .int v_beyond, .ref h_v_a, .ref h_v_b, .ref h_v_five, .ref h_v_left, .ref h_v_right, .ref h_v_part, .int v_aMany, .int v_bMany, .int v_fiveMany, .int v_leftMany, .int v_rightMany, .int v_partMany, .int v_twos, .int v_at, .int v_digits, .int v_power, .int v_good])), (h_v_a, .inl (cI, n_v_a, .inl v_a_a)), (h_v_b, .inl (cI, n_v_b, .inl v_b_a)), (h_v_five, .inl (cI, n_v_five, .inl v_five_a)), (h_v_left, .inl (cI, n_v_left, .inl v_left_a)), (h_v_right, .inl (cI, n_v_right, .inl v_right_a))] H → va_D A [(h_v, .inr (7, [.ref h_v_text, .ref h_v_written, .int v_length, .int v_laid, .int v_gone, .int v_thrown, .int v_were, .int v_none, .int v_beyond, .ref h_v_a, .ref h_v_b, .ref h_v_five, .ref h_v_left, .ref h_v_right, .ref h_v_part, .int v_aMany, .int v_bMany, .int v_fiveMany, .int v_leftMany, .int v_rightMany, .int v_partMany, .int v_twos, .int v_at, .int v_digits, .int v_power, .int v_good])), (h_v_a, .inl (cI, n_v_a, .inl v_a_a)), (h_v_b, .inl (cI, n_v_b, .inl v_b_a)), (h_v_five, .inl (cI, n_v_five, .inl v_five_a)), (h_v_left, .inl (cI, n_v_left, .inl v_left_a)), (h_v_right, .inl (cI, n_v_right, .inl v_right_a))] → va_S A s.heap H locs → self32 y4 y6 y8 y9 y10 v_aMany v_bMany v_fiveMany v_leftMany v_rightMany v_twos v_power v_a_a v_b_a v_five_a v_left_a v_right_a = some u → W p l e (headSpec ws_Mod_shortest rm_Mod_shortest).room s m [.ref h_v, .long x1, .int x3].toArray below meth c H locs 0 0 Qq (F0 m 32 ls [])) → ∀ (y4 : Int64) (y6 : Int64) (y8 : Int32) (y9 : Int32) (y10 : Int32) (y11 : Int64) (y13 : Int32) (y14 : Int32) (v_aMany : Int32) (v_bMany : Int32) (v_fiveMany : Int32) (v_leftMany : Int32) (v_rightMany : Int32) (v_twos : Int32) (v_power : Int32) (v_a_a : Nat → Int32) (v_b_a : Nat → Int32) (v_five_a : Nat → Int32) (v_left_a : Nat → Int32) (v_right_a : Nat → Int32) (ls : Array Slot) (H : Heap) (locs : List Loc), lv_has ls 16 [(0, .ref h_v), (1, .long x1), (3, .int x3), (4, .long y4), (6, .long y6), (8, .int y8), (9, .int y9), (10, .int y10), (11, .long y11), (13, .int y13), (14, .int y14)] → va_P (dC, dI) vwCl [(h_v, .inr (7, [.ref h_v_text, .ref h_v_written, .int v_length, .int v_laid, .int v_gone, .int v_thrown, .int v_were, .int v_none, .int v_beyond, .ref h_v_a, .ref h_v_b, .ref h_v_five, .ref h_v_left, .ref h_v_right, .ref h_v_part, .int v_aMany, .int v_bMany, .int v_fiveMany, .int v_leftMany, .int v_rightMany, .int v_partMany, .int v_twos, .int v_at, .int v_digits, .int v_power, .int v_good])), (h_v_a, .inl (cI, n_v_a, .inl v_a_a)), (h_v_b, .inl (cI, n_v_b, .inl v_b_a)), (h_v_five, .inl (cI, n_v_five, .inl v_five_a)), (h_v_left, .inl (cI, n_v_left, .inl v_left_a)), (h_v_right, .inl (cI, n_v_right, .inl v_right_a))] H → va_D A [(h_v, .inr (7, [.ref h_v_text, .ref h_v_written, .int v_length, .int v_laid, .int v_gone, .int v_thrown, .int v_were, .int v_none, .int v_beyond, .ref h_v_a, .ref h_v_b, .ref h_v_five, .ref h_v_left, .ref h_v_right, .ref h_v_part, .int v_aMany, .int v_bMany, .int v_fiveMany, .int v_leftMany, .int v_rightMany, .int v_partMany, .int v_twos, .int v_at, .int v_digits, .int v_power, .int v_good])), (h_v_a, .inl (cI, n_v_a, .inl v_a_a)), (h_v_b, .inl (cI, n_v_b, .inl v_b_a)), (h_v_five, .inl (cI, n_v_five, .inl v_five_a)), (h_v_left, .inl (cI, n_v_left, .inl v_left_a)), (h_v_right, .inl (cI, n_v_right, .inl v_right_a))] → va_S A s.heap H locs → f_Mod_shortest_159 fu n_v_a n_v_b n_v_five n_v_left n_v_right x1 x3 self32 y4 y6 y8 y9 y10 y11 y13 y14 v_aMany v_bMany v_fiveMany v_leftMany v_rightMany v_twos v_power v_a_a v_b_a v_five_a v_left_a v_right_a = some u → W p l e (headSpec ws_Mod_shortest rm_Mod_shortest).room s m [.ref h_v, .long x1, .int x3].toArray below meth c H locs 0 0 Qq (F0 m 159 ls []) := by
    intro self32 hs32
    intro y4 y6 y8 y9 y10 y11 y13 y14 v_aMany v_bMany v_fiveMany v_leftMany v_rightMany v_twos v_power v_a_a v_b_a v_five_a v_left_a v_right_a ls H locs hl hP hD hS hf
    unfold f_Mod_shortest_159 at hf
    refine lv_iload hx hb d_Mod_shortest_159 (lv_at hl 9 rfl) ?_
    refine lv_if_ne (tgt := 169) hx hb d_Mod_shortest_161 (by decide) (fun hc => ?_) (fun hc => ?_)
    · have hf := zz_ifn hc hf
      exact hL_169 y11 y13 v_aMany v_bMany v_fiveMany v_leftMany v_rightMany v_twos v_power v_a_a v_b_a v_five_a v_left_a v_right_a ls _ _ (lv_sub hl [8, 9] rfl) hP hD hS hf
    · have hf := zz_ifp hc hf
      refine lv_iload hx hb d_Mod_shortest_164 (lv_at hl 10 rfl) ?_
      refine lv_if_eq (tgt := 184) hx hb d_Mod_shortest_166 (by decide) (fun hc => ?_) (fun hc => ?_)
      · have hf := zz_ifp hc hf
        refine lv_iinc (k := 7) (v := y10 + 1) hx hb d_Mod_shortest_184 hl rfl rfl (by decide) rfl (fun ls hl => ?_)
        have hl : lv_has ls 16 [(10, .int (y10 + 1)), (0, .ref h_v), (1, .long x1), (3, .int x3), (4, .long y4), (6, .long y6), (8, .int y8), (9, .int y9), (11, .long y11), (13, .int y13), (14, .int y14)] := hl
        refine lv_goto (tgt := 32) hx hb d_Mod_shortest_187 (by decide) ?_
        exact hs32 y4 y6 y8 y9 (y10 + 1) v_aMany v_bMany v_fiveMany v_leftMany v_rightMany v_twos v_power v_a_a v_b_a v_five_a v_left_a v_right_a ls _ _ (lv_sub hl [1, 2, 3, 4, 5, 6, 7, 0] rfl) hP hD hS hf
      · have hf := zz_ifn hc hf
        exact hL_169 y11 y13 v_aMany v_bMany v_fiveMany v_leftMany v_rightMany v_twos v_power v_a_a v_b_a v_five_a v_left_a v_right_a ls _ _ (lv_sub hl [8, 9] rfl) hP hD hS hf
  have hL_32 : ∀ (n : Nat), ∀ (y4 : Int64) (y6 : Int64) (y8 : Int32) (y9 : Int32) (y10 : Int32) (v_aMany : Int32) (v_bMany : Int32) (v_fiveMany : Int32) (v_leftMany : Int32) (v_rightMany : Int32) (v_twos : Int32) (v_power : Int32) (v_a_a : Nat → Int32) (v_b_a : Nat → Int32) (v_five_a : Nat → Int32) (v_left_a : Nat → Int32) (v_right_a : Nat → Int32) (ls : Array Slot) (H : Heap) (locs : List Loc), lv_has ls 16 [(0, .ref h_v), (1, .long x1), (3, .int x3), (4, .long y4), (6, .long y6), (8, .int y8), (9, .int y9), (10, .int y10)] → va_P (dC, dI) vwCl [(h_v, .inr (7, [.ref h_v_text, .ref h_v_written, .int v_length, .int v_laid, .int v_gone, .int v_thrown, .int v_were, .int v_none, .int v_beyond, .ref h_v_a, .ref h_v_b, .ref h_v_five, .ref h_v_left, .ref h_v_right, .ref h_v_part, .int v_aMany, .int v_bMany, .int v_fiveMany, .int v_leftMany, .int v_rightMany, .int v_partMany, .int v_twos, .int v_at, .int v_digits, .int v_power, .int v_good])), (h_v_a, .inl (cI, n_v_a, .inl v_a_a)), (h_v_b, .inl (cI, n_v_b, .inl v_b_a)), (h_v_five, .inl (cI, n_v_five, .inl v_five_a)), (h_v_left, .inl (cI, n_v_left, .inl v_left_a)), (h_v_right, .inl (cI, n_v_right, .inl v_right_a))] H → va_D A [(h_v, .inr (7, [.ref h_v_text, .ref h_v_written, .int v_length, .int v_laid, .int v_gone, .int v_thrown, .int v_were, .int v_none, .int v_beyond, .ref h_v_a, .ref h_v_b, .ref h_v_five, .ref h_v_left, .ref h_v_right, .ref h_v_part, .int v_aMany, .int v_bMany, .int v_fiveMany, .int v_leftMany, .int v_rightMany, .int v_partMany, .int v_twos, .int v_at, .int v_digits, .int v_power, .int v_good])), (h_v_a, .inl (cI, n_v_a, .inl v_a_a)), (h_v_b, .inl (cI, n_v_b, .inl v_b_a)), (h_v_five, .inl (cI, n_v_five, .inl v_five_a)), (h_v_left, .inl (cI, n_v_left, .inl v_left_a)), (h_v_right, .inl (cI, n_v_right, .inl v_right_a))] → va_S A s.heap H locs → f_Mod_shortest_32 fu n_v_a n_v_b n_v_five n_v_left n_v_right x1 x3 n y4 y6 y8 y9 y10 v_aMany v_bMany v_fiveMany v_leftMany v_rightMany v_twos v_power v_a_a v_b_a v_five_a v_left_a v_right_a = some u → W p l e (headSpec ws_Mod_shortest rm_Mod_shortest).room s m [.ref h_v, .long x1, .int x3].toArray below meth c H locs 0 0 Qq (F0 m 32 ls []) := by
    intro n
    induction n with
    | zero =>
      intro y4 y6 y8 y9 y10 v_aMany v_bMany v_fiveMany v_leftMany v_rightMany v_twos v_power v_a_a v_b_a v_five_a v_left_a v_right_a ls H locs hl hP hD hS hf
      exact zz_no hf
    | succ n ih =>
      intro y4 y6 y8 y9 y10 v_aMany v_bMany v_fiveMany v_leftMany v_rightMany v_twos v_power v_a_a v_b_a v_five_a v_left_a v_right_a ls H locs hl hP hD hS hf
      rw [f_Mod_shortest_32_s] at hf
      refine lv_iload hx hb d_Mod_shortest_32 (lv_at hl 7 rfl) ?_
      refine lv_bipush (v := 20) hx hb d_Mod_shortest_34 (by decide) ?_
      refine lv_icmp_ge (tgt := 190) hx hb d_Mod_shortest_36 (by decide) (fun hc => ?_) (fun hc => ?_)
      · have hf := zz_ifp hc hf
        refine lv_lconst (v := 0) hx hb d_Mod_shortest_190 (by decide) ?_
        cases hf
        exact hend 191 ls _ _ d_Mod_shortest_191 hP hD hS
      · have hf := zz_ifn hc hf
        refine lv_lload hx hb d_Mod_shortest_39 (lv_at hl 4 rfl) ?_
        refine lv_ldc2 (v := 10) hx hb hown (hw _ wd_870) d_Mod_shortest_41 ?_
        refine lv_lmul hx hb d_Mod_shortest_44 ?_
        refine lv_topl (fun x6_4 e_x6_4 => ?_)
        have hf := zz_ltp hf x6_4 e_x6_4
        refine lv_lstore hx hb d_Mod_shortest_45 hl (by decide) rfl (fun ls hl => ?_)
        have hl : lv_has ls 16 [(6, .long x6_4), (0, .ref h_v), (1, .long x1), (3, .int x3), (4, .long y4), (8, .int y8), (9, .int y9), (10, .int y10)] := hl
        refine lv_aload_n hx hb d_Mod_shortest_47 rfl (lv_at hl 1 rfl) ?_
        refine lv_iload hx hb d_Mod_shortest_48 (lv_at hl 6 rfl) ?_
        refine lv_iload hx hb d_Mod_shortest_50 (lv_at hl 7 rfl) ?_
        refine lv_isub hx hb d_Mod_shortest_52 ?_
        refine lv_iconst (v := 1) hx hb d_Mod_shortest_53 (by decide) ?_
        refine lv_iadd hx hb d_Mod_shortest_54 ?_
        refine va_put (D := (dC, dI)) (ci := 7) (v := .int ((y9 - y10) + 1)) (ty := .int) (C := R_Mod) (T := T_Mod) (N := 26) hx hb hw in_Mod ty_Mod tyok_Mod nm_Mod hown hK hP hD hS 0 rfl rfl 24 (by decide) (hw _ wd_697) (fun _ h9 => h9) rfl (tyok_Mod 24 (by decide)) rfl rfl (Nat.le_of_ble_eq_true rfl) d_Mod_shortest_55 (fun H locs hP hD hS => ?_)
        have hP : va_P (dC, dI) vwCl [(h_v, .inr (7, [.ref h_v_text, .ref h_v_written, .int v_length, .int v_laid, .int v_gone, .int v_thrown, .int v_were, .int v_none, .int v_beyond, .ref h_v_a, .ref h_v_b, .ref h_v_five, .ref h_v_left, .ref h_v_right, .ref h_v_part, .int v_aMany, .int v_bMany, .int v_fiveMany, .int v_leftMany, .int v_rightMany, .int v_partMany, .int v_twos, .int v_at, .int v_digits, .int ((y9 - y10) + 1), .int v_good])), (h_v_a, .inl (cI, n_v_a, .inl v_a_a)), (h_v_b, .inl (cI, n_v_b, .inl v_b_a)), (h_v_five, .inl (cI, n_v_five, .inl v_five_a)), (h_v_left, .inl (cI, n_v_left, .inl v_left_a)), (h_v_right, .inl (cI, n_v_right, .inl v_right_a))] H := hP
        have hD : va_D A [(h_v, .inr (7, [.ref h_v_text, .ref h_v_written, .int v_length, .int v_laid, .int v_gone, .int v_thrown, .int v_were, .int v_none, .int v_beyond, .ref h_v_a, .ref h_v_b, .ref h_v_five, .ref h_v_left, .ref h_v_right, .ref h_v_part, .int v_aMany, .int v_bMany, .int v_fiveMany, .int v_leftMany, .int v_rightMany, .int v_partMany, .int v_twos, .int v_at, .int v_digits, .int ((y9 - y10) + 1), .int v_good])), (h_v_a, .inl (cI, n_v_a, .inl v_a_a)), (h_v_b, .inl (cI, n_v_b, .inl v_b_a)), (h_v_five, .inl (cI, n_v_five, .inl v_five_a)), (h_v_left, .inl (cI, n_v_left, .inl v_left_a)), (h_v_right, .inl (cI, n_v_right, .inl v_right_a))] := hD
        refine lv_aload_n hx hb d_Mod_shortest_58 rfl (lv_at hl 1 rfl) ?_
        refine lv_aload_n hx hb d_Mod_shortest_59 rfl (lv_at hl 1 rfl) ?_
        refine va_get (D := (dC, dI)) (ci := 7) (v := .int ((y9 - y10) + 1)) (C := R_Mod) (T := T_Mod) (N := 26) hx hb hw in_Mod hown hK hP 0 rfl rfl 24 (by decide) (hw _ wd_697) (fun _ h9 => h9) rfl d_Mod_shortest_60 ?_
        obtain ⟨u_5, hu_5, hf⟩ := zz_bd hf
        refine zz_cv (ws' := [(h_v, .inr (7, [.ref h_v_text, .ref h_v_written, .int v_length, .int v_laid, .int v_gone, .int v_thrown, .int v_were, .int v_none, .int v_beyond, .ref h_v_a, .ref h_v_b, .ref h_v_five, .ref h_v_left, .ref h_v_right, .ref h_v_part, .int v_aMany, .int u_5.1, .int u_5.2.1, .int v_leftMany, .int v_rightMany, .int v_partMany, .int u_5.2.2.1, .int v_at, .int v_digits, .int ((y9 - y10) + 1), .int v_good])), (h_v_a, .inl (cI, n_v_a, .inl v_a_a)), (h_v_b, .inl (cI, n_v_b, .inl u_5.2.2.2.1)), (h_v_five, .inl (cI, n_v_five, .inl u_5.2.2.2.2)), (h_v_left, .inl (cI, n_v_left, .inl v_left_a)), (h_v_right, .inl (cI, n_v_right, .inl v_right_a))]) (wc := [(h_v, .inr (7, [.ref h_v_text, .ref h_v_written, .int v_length, .int v_laid, .int v_gone, .int v_thrown, .int v_were, .int v_none, .int v_beyond, .ref h_v_a, .ref h_v_b, .ref h_v_five, .ref h_v_left, .ref h_v_right, .ref h_v_part, .int v_aMany, .int v_bMany, .int v_fiveMany, .int v_leftMany, .int v_rightMany, .int v_partMany, .int v_twos, .int v_at, .int v_digits, .int ((y9 - y10) + 1), .int v_good])), (h_v_b, .inl (cI, n_v_b, .inl v_b_a)), (h_v_five, .inl (cI, n_v_five, .inl v_five_a))]) (w' := [(h_v, .inr (7, [.ref h_v_text, .ref h_v_written, .int v_length, .int v_laid, .int v_gone, .int v_thrown, .int v_were, .int v_none, .int v_beyond, .ref h_v_a, .ref h_v_b, .ref h_v_five, .ref h_v_left, .ref h_v_right, .ref h_v_part, .int v_aMany, .int u_5.1, .int u_5.2.1, .int v_leftMany, .int v_rightMany, .int v_partMany, .int u_5.2.2.1, .int v_at, .int v_digits, .int ((y9 - y10) + 1), .int v_good])), (h_v_b, .inl (cI, n_v_b, .inl u_5.2.2.2.1)), (h_v_five, .inl (cI, n_v_five, .inl u_5.2.2.2.2))]) hP hD hS hA [0, 2, 3] [1, 4, 5] [3, 0, 4, 5, 1, 2] rfl rfl (by decide) (by decide) rfl (by decide) (va_runV (As := [.int ((y9 - y10) + 1)]) (rest := []) ⟨hx, hb, hml, hown, hw⟩ (c_Mod_scale l dC dI cI cC cB cJ fu _ h_v h_v_b h_v_five h_v_text h_v_written h_v_a h_v_left h_v_right h_v_part n_v_b n_v_five ((y9 - y10) + 1) v_length v_laid v_gone v_thrown v_were v_none v_beyond v_aMany v_bMany v_fiveMany v_leftMany v_rightMany v_partMany v_twos v_at v_digits ((y9 - y10) + 1) v_good v_b_a v_five_a u_5 hu_5) (cwV 1 hw (zg_V wd_875 wd_877 we_2_9 wd_8 wd_878) rfl rfl rfl hd_Mod_scale ⟨Nat.le_of_ble_eq_true rfl, Nat.le_of_ble_eq_true rfl⟩) (zz_preV zz_TE (va_recv (q0 := 0) (ci := 7) hK hP rfl rfl) hP hD hK hS hA trivial [0, 2, 3] rfl (by decide)) rfl rfl hl.1 rfl (lv_room (Nat.le_of_ble_eq_true rfl)) d_Mod_shortest_63 ⟨Nat.zero_le _, Nat.zero_le _⟩) (fun H locs hP hD hS => ?_)
        refine lv_aload_n hx hb d_Mod_shortest_66 rfl (lv_at hl 1 rfl) ?_
        refine lv_lload hx hb d_Mod_shortest_67 (lv_at hl 4 rfl) ?_
        refine lv_iload hx hb d_Mod_shortest_69 (lv_at hl 5 rfl) ?_
        refine lv_lload hx hb d_Mod_shortest_71 (lv_at hl 0 rfl) ?_
        obtain ⟨u_6, hu_6, hf⟩ := zz_bd hf
        refine zz_cl (ws' := [(h_v, .inr (7, [.ref h_v_text, .ref h_v_written, .int v_length, .int v_laid, .int v_gone, .int v_thrown, .int v_were, .int v_none, .int v_beyond, .ref h_v_a, .ref h_v_b, .ref h_v_five, .ref h_v_left, .ref h_v_right, .ref h_v_part, .int u_6.2.1, .int u_5.1, .int u_5.2.1, .int u_6.2.2.1, .int u_6.2.2.2.1, .int v_partMany, .int u_5.2.2.1, .int v_at, .int v_digits, .int ((y9 - y10) + 1), .int v_good])), (h_v_a, .inl (cI, n_v_a, .inl u_6.2.2.2.2.1)), (h_v_b, .inl (cI, n_v_b, .inl u_5.2.2.2.1)), (h_v_five, .inl (cI, n_v_five, .inl u_5.2.2.2.2)), (h_v_left, .inl (cI, n_v_left, .inl u_6.2.2.2.2.2.1)), (h_v_right, .inl (cI, n_v_right, .inl u_6.2.2.2.2.2.2))]) (wc := [(h_v, .inr (7, [.ref h_v_text, .ref h_v_written, .int v_length, .int v_laid, .int v_gone, .int v_thrown, .int v_were, .int v_none, .int v_beyond, .ref h_v_a, .ref h_v_b, .ref h_v_five, .ref h_v_left, .ref h_v_right, .ref h_v_part, .int v_aMany, .int u_5.1, .int u_5.2.1, .int v_leftMany, .int v_rightMany, .int v_partMany, .int u_5.2.2.1, .int v_at, .int v_digits, .int ((y9 - y10) + 1), .int v_good])), (h_v_a, .inl (cI, n_v_a, .inl v_a_a)), (h_v_b, .inl (cI, n_v_b, .inl u_5.2.2.2.1)), (h_v_five, .inl (cI, n_v_five, .inl u_5.2.2.2.2)), (h_v_left, .inl (cI, n_v_left, .inl v_left_a)), (h_v_right, .inl (cI, n_v_right, .inl v_right_a))]) (w' := [(h_v, .inr (7, [.ref h_v_text, .ref h_v_written, .int v_length, .int v_laid, .int v_gone, .int v_thrown, .int v_were, .int v_none, .int v_beyond, .ref h_v_a, .ref h_v_b, .ref h_v_five, .ref h_v_left, .ref h_v_right, .ref h_v_part, .int u_6.2.1, .int u_5.1, .int u_5.2.1, .int u_6.2.2.1, .int u_6.2.2.2.1, .int v_partMany, .int u_5.2.2.1, .int v_at, .int v_digits, .int ((y9 - y10) + 1), .int v_good])), (h_v_a, .inl (cI, n_v_a, .inl u_6.2.2.2.2.1)), (h_v_b, .inl (cI, n_v_b, .inl u_5.2.2.2.1)), (h_v_five, .inl (cI, n_v_five, .inl u_5.2.2.2.2)), (h_v_left, .inl (cI, n_v_left, .inl u_6.2.2.2.2.2.1)), (h_v_right, .inl (cI, n_v_right, .inl u_6.2.2.2.2.2.2))]) hP hD hS hA [0, 1, 2, 3, 4, 5] [] [0, 1, 2, 3, 4, 5] rfl rfl (by decide) (by decide) rfl (by decide) (va_runV (As := [.long y4, .int y8, .long x6_4]) (rest := []) ⟨hx, hb, hml, hown, hw⟩ (c_Mod_most l dC dI cI cC cB cJ fu _ h_v h_v_a h_v_b h_v_five h_v_left h_v_right h_v_text h_v_written h_v_part n_v_a n_v_b n_v_five n_v_left n_v_right y4 y8 x6_4 v_length v_laid v_gone v_thrown v_were v_none v_beyond v_aMany u_5.1 u_5.2.1 v_leftMany v_rightMany v_partMany u_5.2.2.1 v_at v_digits ((y9 - y10) + 1) v_good v_a_a u_5.2.2.2.1 u_5.2.2.2.2 v_left_a v_right_a u_6 hu_6) (cwV 3 hw (zg_V wd_883 wd_885 we_2_11 wd_8 wd_886) rfl rfl rfl hd_Mod_most ⟨Nat.le_of_ble_eq_true rfl, Nat.le_of_ble_eq_true rfl⟩) (zz_preV zz_TE (va_recv (q0 := 0) (ci := 7) hK hP rfl rfl) hP hD hK hS hA trivial [0, 1, 2, 3, 4, 5] rfl (by decide)) rfl rfl hl.1 rfl (lv_room (Nat.le_of_ble_eq_true rfl)) d_Mod_shortest_73 ⟨Nat.zero_le _, Nat.zero_le _⟩) (fun H locs hP hD hS => ?_)
        refine lv_lstore hx hb d_Mod_shortest_76 hl (by decide) rfl (fun ls hl => ?_)
        have hl : lv_has ls 16 [(11, .long u_6.1), (6, .long x6_4), (0, .ref h_v), (1, .long x1), (3, .int x3), (4, .long y4), (8, .int y8), (9, .int y9), (10, .int y10)] := hl
        refine lv_aload_n hx hb d_Mod_shortest_78 rfl (lv_at hl 2 rfl) ?_
        refine lv_lload hx hb d_Mod_shortest_79 (lv_at hl 0 rfl) ?_
        refine lv_lload_n hx hb d_Mod_shortest_81 rfl (lv_at hl 3 rfl) ?_
        refine lv_iload_n hx hb d_Mod_shortest_82 rfl (lv_at hl 4 rfl) ?_
        obtain ⟨u_7, hu_7, hf⟩ := zz_bd hf
        refine zz_ci (ws' := [(h_v, .inr (7, [.ref h_v_text, .ref h_v_written, .int v_length, .int v_laid, .int v_gone, .int v_thrown, .int v_were, .int v_none, .int v_beyond, .ref h_v_a, .ref h_v_b, .ref h_v_five, .ref h_v_left, .ref h_v_right, .ref h_v_part, .int u_7.2.1, .int u_5.1, .int u_5.2.1, .int u_7.2.2.1, .int u_7.2.2.2.1, .int v_partMany, .int u_5.2.2.1, .int v_at, .int v_digits, .int ((y9 - y10) + 1), .int v_good])), (h_v_a, .inl (cI, n_v_a, .inl u_7.2.2.2.2.1)), (h_v_b, .inl (cI, n_v_b, .inl u_5.2.2.2.1)), (h_v_five, .inl (cI, n_v_five, .inl u_5.2.2.2.2)), (h_v_left, .inl (cI, n_v_left, .inl u_7.2.2.2.2.2.1)), (h_v_right, .inl (cI, n_v_right, .inl u_7.2.2.2.2.2.2))]) (wc := [(h_v, .inr (7, [.ref h_v_text, .ref h_v_written, .int v_length, .int v_laid, .int v_gone, .int v_thrown, .int v_were, .int v_none, .int v_beyond, .ref h_v_a, .ref h_v_b, .ref h_v_five, .ref h_v_left, .ref h_v_right, .ref h_v_part, .int u_6.2.1, .int u_5.1, .int u_5.2.1, .int u_6.2.2.1, .int u_6.2.2.2.1, .int v_partMany, .int u_5.2.2.1, .int v_at, .int v_digits, .int ((y9 - y10) + 1), .int v_good])), (h_v_a, .inl (cI, n_v_a, .inl u_6.2.2.2.2.1)), (h_v_b, .inl (cI, n_v_b, .inl u_5.2.2.2.1)), (h_v_five, .inl (cI, n_v_five, .inl u_5.2.2.2.2)), (h_v_left, .inl (cI, n_v_left, .inl u_6.2.2.2.2.2.1)), (h_v_right, .inl (cI, n_v_right, .inl u_6.2.2.2.2.2.2))]) (w' := [(h_v, .inr (7, [.ref h_v_text, .ref h_v_written, .int v_length, .int v_laid, .int v_gone, .int v_thrown, .int v_were, .int v_none, .int v_beyond, .ref h_v_a, .ref h_v_b, .ref h_v_five, .ref h_v_left, .ref h_v_right, .ref h_v_part, .int u_7.2.1, .int u_5.1, .int u_5.2.1, .int u_7.2.2.1, .int u_7.2.2.2.1, .int v_partMany, .int u_5.2.2.1, .int v_at, .int v_digits, .int ((y9 - y10) + 1), .int v_good])), (h_v_a, .inl (cI, n_v_a, .inl u_7.2.2.2.2.1)), (h_v_b, .inl (cI, n_v_b, .inl u_5.2.2.2.1)), (h_v_five, .inl (cI, n_v_five, .inl u_5.2.2.2.2)), (h_v_left, .inl (cI, n_v_left, .inl u_7.2.2.2.2.2.1)), (h_v_right, .inl (cI, n_v_right, .inl u_7.2.2.2.2.2.2))]) hP hD hS hA [0, 1, 2, 3, 4, 5] [] [0, 1, 2, 3, 4, 5] rfl rfl (by decide) (by decide) rfl (by decide) (va_runV (As := [.long u_6.1, .long x1, .int x3]) (rest := []) ⟨hx, hb, hml, hown, hw⟩ (c_Mod_isRead l dC dI cI cC cB cJ fu _ h_v h_v_a h_v_b h_v_five h_v_left h_v_right h_v_text h_v_written h_v_part n_v_a n_v_b n_v_five n_v_left n_v_right u_6.1 x1 x3 v_length v_laid v_gone v_thrown v_were v_none v_beyond u_6.2.1 u_5.1 u_5.2.1 u_6.2.2.1 u_6.2.2.2.1 v_partMany u_5.2.2.1 v_at v_digits ((y9 - y10) + 1) v_good u_6.2.2.2.2.1 u_5.2.2.2.1 u_5.2.2.2.2 u_6.2.2.2.2.2.1 u_6.2.2.2.2.2.2 u_7 hu_7) (cwV 3 hw (zg_V wd_887 wd_889 we_2_12 wd_8 wd_890) rfl rfl rfl hd_Mod_isRead ⟨Nat.le_of_ble_eq_true rfl, Nat.le_of_ble_eq_true rfl⟩) (zz_preV zz_TE (va_recv (q0 := 0) (ci := 7) hK hP rfl rfl) hP hD hK hS hA trivial [0, 1, 2, 3, 4, 5] rfl (by decide)) rfl rfl hl.1 rfl (lv_room (Nat.le_of_ble_eq_true rfl)) d_Mod_shortest_83 ⟨Nat.zero_le _, Nat.zero_le _⟩) (fun H locs hP hD hS => ?_)
        refine lv_istore hx hb d_Mod_shortest_86 hl (by decide) rfl (fun ls hl => ?_)
        have hl : lv_has ls 16 [(13, .int u_7.1), (11, .long u_6.1), (6, .long x6_4), (0, .ref h_v), (1, .long x1), (3, .int x3), (4, .long y4), (8, .int y8), (9, .int y9), (10, .int y10)] := hl
        refine lv_aload_n hx hb d_Mod_shortest_88 rfl (lv_at hl 3 rfl) ?_
        refine lv_lload hx hb d_Mod_shortest_89 (lv_at hl 1 rfl) ?_
        refine lv_lconst (v := 1) hx hb d_Mod_shortest_91 (by decide) ?_
        refine lv_ladd hx hb d_Mod_shortest_92 ?_
        refine lv_lload_n hx hb d_Mod_shortest_93 rfl (lv_at hl 4 rfl) ?_
        refine lv_iload_n hx hb d_Mod_shortest_94 rfl (lv_at hl 5 rfl) ?_
        obtain ⟨u_8, hu_8, hf⟩ := zz_bd hf
        refine zz_ci (ws' := [(h_v, .inr (7, [.ref h_v_text, .ref h_v_written, .int v_length, .int v_laid, .int v_gone, .int v_thrown, .int v_were, .int v_none, .int v_beyond, .ref h_v_a, .ref h_v_b, .ref h_v_five, .ref h_v_left, .ref h_v_right, .ref h_v_part, .int u_8.2.1, .int u_5.1, .int u_5.2.1, .int u_8.2.2.1, .int u_8.2.2.2.1, .int v_partMany, .int u_5.2.2.1, .int v_at, .int v_digits, .int ((y9 - y10) + 1), .int v_good])), (h_v_a, .inl (cI, n_v_a, .inl u_8.2.2.2.2.1)), (h_v_b, .inl (cI, n_v_b, .inl u_5.2.2.2.1)), (h_v_five, .inl (cI, n_v_five, .inl u_5.2.2.2.2)), (h_v_left, .inl (cI, n_v_left, .inl u_8.2.2.2.2.2.1)), (h_v_right, .inl (cI, n_v_right, .inl u_8.2.2.2.2.2.2))]) (wc := [(h_v, .inr (7, [.ref h_v_text, .ref h_v_written, .int v_length, .int v_laid, .int v_gone, .int v_thrown, .int v_were, .int v_none, .int v_beyond, .ref h_v_a, .ref h_v_b, .ref h_v_five, .ref h_v_left, .ref h_v_right, .ref h_v_part, .int u_7.2.1, .int u_5.1, .int u_5.2.1, .int u_7.2.2.1, .int u_7.2.2.2.1, .int v_partMany, .int u_5.2.2.1, .int v_at, .int v_digits, .int ((y9 - y10) + 1), .int v_good])), (h_v_a, .inl (cI, n_v_a, .inl u_7.2.2.2.2.1)), (h_v_b, .inl (cI, n_v_b, .inl u_5.2.2.2.1)), (h_v_five, .inl (cI, n_v_five, .inl u_5.2.2.2.2)), (h_v_left, .inl (cI, n_v_left, .inl u_7.2.2.2.2.2.1)), (h_v_right, .inl (cI, n_v_right, .inl u_7.2.2.2.2.2.2))]) (w' := [(h_v, .inr (7, [.ref h_v_text, .ref h_v_written, .int v_length, .int v_laid, .int v_gone, .int v_thrown, .int v_were, .int v_none, .int v_beyond, .ref h_v_a, .ref h_v_b, .ref h_v_five, .ref h_v_left, .ref h_v_right, .ref h_v_part, .int u_8.2.1, .int u_5.1, .int u_5.2.1, .int u_8.2.2.1, .int u_8.2.2.2.1, .int v_partMany, .int u_5.2.2.1, .int v_at, .int v_digits, .int ((y9 - y10) + 1), .int v_good])), (h_v_a, .inl (cI, n_v_a, .inl u_8.2.2.2.2.1)), (h_v_b, .inl (cI, n_v_b, .inl u_5.2.2.2.1)), (h_v_five, .inl (cI, n_v_five, .inl u_5.2.2.2.2)), (h_v_left, .inl (cI, n_v_left, .inl u_8.2.2.2.2.2.1)), (h_v_right, .inl (cI, n_v_right, .inl u_8.2.2.2.2.2.2))]) hP hD hS hA [0, 1, 2, 3, 4, 5] [] [0, 1, 2, 3, 4, 5] rfl rfl (by decide) (by decide) rfl (by decide) (va_runV (As := [.long (u_6.1 + 1), .long x1, .int x3]) (rest := []) ⟨hx, hb, hml, hown, hw⟩ (c_Mod_isRead l dC dI cI cC cB cJ fu _ h_v h_v_a h_v_b h_v_five h_v_left h_v_right h_v_text h_v_written h_v_part n_v_a n_v_b n_v_five n_v_left n_v_right (u_6.1 + 1) x1 x3 v_length v_laid v_gone v_thrown v_were v_none v_beyond u_7.2.1 u_5.1 u_5.2.1 u_7.2.2.1 u_7.2.2.2.1 v_partMany u_5.2.2.1 v_at v_digits ((y9 - y10) + 1) v_good u_7.2.2.2.2.1 u_5.2.2.2.1 u_5.2.2.2.2 u_7.2.2.2.2.2.1 u_7.2.2.2.2.2.2 u_8 hu_8) (cwV 3 hw (zg_V wd_887 wd_889 we_2_12 wd_8 wd_890) rfl rfl rfl hd_Mod_isRead ⟨Nat.le_of_ble_eq_true rfl, Nat.le_of_ble_eq_true rfl⟩) (zz_preV zz_TE (va_recv (q0 := 0) (ci := 7) hK hP rfl rfl) hP hD hK hS hA trivial [0, 1, 2, 3, 4, 5] rfl (by decide)) rfl rfl hl.1 rfl (lv_room (Nat.le_of_ble_eq_true rfl)) d_Mod_shortest_95 ⟨Nat.zero_le _, Nat.zero_le _⟩) (fun H locs hP hD hS => ?_)
        refine lv_istore hx hb d_Mod_shortest_98 hl (by decide) rfl (fun ls hl => ?_)
        have hl : lv_has ls 16 [(14, .int u_8.1), (13, .int u_7.1), (11, .long u_6.1), (6, .long x6_4), (0, .ref h_v), (1, .long x1), (3, .int x3), (4, .long y4), (8, .int y8), (9, .int y9), (10, .int y10)] := hl
        refine lv_iload hx hb d_Mod_shortest_100 (lv_at hl 1 rfl) ?_
        refine lv_if_eq (tgt := 159) hx hb d_Mod_shortest_102 (by decide) (fun hc => ?_) (fun hc => ?_)
        · have hf := zz_ifp hc hf
          exact hL_159 _ ih y4 x6_4 y8 y9 y10 u_6.1 u_7.1 u_8.1 u_8.2.1 u_5.1 u_5.2.1 u_8.2.2.1 u_8.2.2.2.1 u_5.2.2.1 ((y9 - y10) + 1) u_8.2.2.2.2.1 u_5.2.2.2.1 u_5.2.2.2.2 u_8.2.2.2.2.2.1 u_8.2.2.2.2.2.2 ls _ _ (lv_sub hl [4, 5, 6, 7, 3, 8, 9, 10, 2, 1, 0] rfl) hP hD hS hf
        · have hf := zz_ifn hc hf
          refine lv_iload hx hb d_Mod_shortest_105 (lv_at hl 0 rfl) ?_
          refine lv_if_eq (tgt := 159) hx hb d_Mod_shortest_107 (by decide) (fun hc => ?_) (fun hc => ?_)
          · have hf := zz_ifp hc hf
            exact hL_159 _ ih y4 x6_4 y8 y9 y10 u_6.1 u_7.1 u_8.1 u_8.2.1 u_5.1 u_5.2.1 u_8.2.2.1 u_8.2.2.2.1 u_5.2.2.1 ((y9 - y10) + 1) u_8.2.2.2.2.1 u_5.2.2.2.1 u_5.2.2.2.2 u_8.2.2.2.2.2.1 u_8.2.2.2.2.2.2 ls _ _ (lv_sub hl [4, 5, 6, 7, 3, 8, 9, 10, 2, 1, 0] rfl) hP hD hS hf
          · have hf := zz_ifn hc hf
            refine lv_aload_n hx hb d_Mod_shortest_110 rfl (lv_at hl 4 rfl) ?_
            refine lv_ldc2 (v := 2) hx hb hown (hw _ wd_822) d_Mod_shortest_111 ?_
            refine lv_lload hx hb d_Mod_shortest_114 (lv_at hl 2 rfl) ?_
            refine lv_lmul hx hb d_Mod_shortest_116 ?_
            refine lv_lconst (v := 1) hx hb d_Mod_shortest_117 (by decide) ?_
            refine lv_ladd hx hb d_Mod_shortest_118 ?_
            refine lv_lload hx hb d_Mod_shortest_119 (lv_at hl 7 rfl) ?_
            refine lv_iload hx hb d_Mod_shortest_121 (lv_at hl 8 rfl) ?_
            refine lv_iconst (v := 1) hx hb d_Mod_shortest_123 (by decide) ?_
            refine lv_iadd hx hb d_Mod_shortest_124 ?_
            obtain ⟨u_9, hu_9, hf⟩ := zz_bd hf
            refine zz_ci (ws' := [(h_v, .inr (7, [.ref h_v_text, .ref h_v_written, .int v_length, .int v_laid, .int v_gone, .int v_thrown, .int v_were, .int v_none, .int v_beyond, .ref h_v_a, .ref h_v_b, .ref h_v_five, .ref h_v_left, .ref h_v_right, .ref h_v_part, .int u_9.2.1, .int u_5.1, .int u_5.2.1, .int u_9.2.2.1, .int u_9.2.2.2.1, .int v_partMany, .int u_5.2.2.1, .int v_at, .int v_digits, .int ((y9 - y10) + 1), .int v_good])), (h_v_a, .inl (cI, n_v_a, .inl u_9.2.2.2.2.1)), (h_v_b, .inl (cI, n_v_b, .inl u_5.2.2.2.1)), (h_v_five, .inl (cI, n_v_five, .inl u_5.2.2.2.2)), (h_v_left, .inl (cI, n_v_left, .inl u_9.2.2.2.2.2.1)), (h_v_right, .inl (cI, n_v_right, .inl u_9.2.2.2.2.2.2))]) (wc := [(h_v, .inr (7, [.ref h_v_text, .ref h_v_written, .int v_length, .int v_laid, .int v_gone, .int v_thrown, .int v_were, .int v_none, .int v_beyond, .ref h_v_a, .ref h_v_b, .ref h_v_five, .ref h_v_left, .ref h_v_right, .ref h_v_part, .int u_8.2.1, .int u_5.1, .int u_5.2.1, .int u_8.2.2.1, .int u_8.2.2.2.1, .int v_partMany, .int u_5.2.2.1, .int v_at, .int v_digits, .int ((y9 - y10) + 1), .int v_good])), (h_v_a, .inl (cI, n_v_a, .inl u_8.2.2.2.2.1)), (h_v_b, .inl (cI, n_v_b, .inl u_5.2.2.2.1)), (h_v_five, .inl (cI, n_v_five, .inl u_5.2.2.2.2)), (h_v_left, .inl (cI, n_v_left, .inl u_8.2.2.2.2.2.1)), (h_v_right, .inl (cI, n_v_right, .inl u_8.2.2.2.2.2.2))]) (w' := [(h_v, .inr (7, [.ref h_v_text, .ref h_v_written, .int v_length, .int v_laid, .int v_gone, .int v_thrown, .int v_were, .int v_none, .int v_beyond, .ref h_v_a, .ref h_v_b, .ref h_v_five, .ref h_v_left, .ref h_v_right, .ref h_v_part, .int u_9.2.1, .int u_5.1, .int u_5.2.1, .int u_9.2.2.1, .int u_9.2.2.2.1, .int v_partMany, .int u_5.2.2.1, .int v_at, .int v_digits, .int ((y9 - y10) + 1), .int v_good])), (h_v_a, .inl (cI, n_v_a, .inl u_9.2.2.2.2.1)), (h_v_b, .inl (cI, n_v_b, .inl u_5.2.2.2.1)), (h_v_five, .inl (cI, n_v_five, .inl u_5.2.2.2.2)), (h_v_left, .inl (cI, n_v_left, .inl u_9.2.2.2.2.2.1)), (h_v_right, .inl (cI, n_v_right, .inl u_9.2.2.2.2.2.2))]) hP hD hS hA [0, 1, 2, 3, 4, 5] [] [0, 1, 2, 3, 4, 5] rfl rfl (by decide) (by decide) rfl (by decide) (va_runV (As := [.long ((2 * u_6.1) + 1), .long y4, .int (y8 + 1)]) (rest := []) ⟨hx, hb, hml, hown, hw⟩ (c_Mod_compareDigits l dC dI cI cC cB cJ fu _ h_v h_v_a h_v_b h_v_five h_v_left h_v_right h_v_text h_v_written h_v_part n_v_a n_v_b n_v_five n_v_left n_v_right ((2 * u_6.1) + 1) y4 (y8 + 1) v_length v_laid v_gone v_thrown v_were v_none v_beyond u_8.2.1 u_5.1 u_5.2.1 u_8.2.2.1 u_8.2.2.2.1 v_partMany u_5.2.2.1 v_at v_digits ((y9 - y10) + 1) v_good u_8.2.2.2.2.1 u_5.2.2.2.1 u_5.2.2.2.2 u_8.2.2.2.2.2.1 u_8.2.2.2.2.2.2 u_9 hu_9) (cwV 3 hw (zg_V wd_879 wd_881 we_2_10 wd_8 wd_882) rfl rfl rfl hd_Mod_compareDigits ⟨Nat.le_of_ble_eq_true rfl, Nat.le_of_ble_eq_true rfl⟩) (zz_preV zz_TE (va_recv (q0 := 0) (ci := 7) hK hP rfl rfl) hP hD hK hS hA trivial [0, 1, 2, 3, 4, 5] rfl (by decide)) rfl rfl hl.1 rfl (lv_room (Nat.le_of_ble_eq_true rfl)) d_Mod_shortest_125 ⟨Nat.zero_le _, Nat.zero_le _⟩) (fun H locs hP hD hS => ?_)
            refine lv_istore hx hb d_Mod_shortest_128 hl (by decide) rfl (fun ls hl => ?_)
            have hl : lv_has ls 16 [(15, .int u_9.1), (14, .int u_8.1), (13, .int u_7.1), (11, .long u_6.1), (6, .long x6_4), (0, .ref h_v), (1, .long x1), (3, .int x3), (4, .long y4), (8, .int y8), (9, .int y9), (10, .int y10)] := hl
            refine lv_iload hx hb d_Mod_shortest_130 (lv_at hl 0 rfl) ?_
            refine lv_if_gt (tgt := 149) hx hb d_Mod_shortest_132 (by decide) (fun hc => ?_) (fun hc => ?_)
            · have hf := zz_ifp hc hf
              refine lv_lload hx hb d_Mod_shortest_149 (lv_at hl 3 rfl) ?_
              refine lv_goto (tgt := 158) hx hb d_Mod_shortest_151 (by decide) ?_
              cases hf
              exact hend 158 ls _ _ d_Mod_shortest_158 hP hD hS
            · have hf := zz_ifn hc hf
              refine lv_iload hx hb d_Mod_shortest_135 (lv_at hl 0 rfl) ?_
              refine lv_if_ne (tgt := 154) hx hb d_Mod_shortest_137 (by decide) (fun hc => ?_) (fun hc => ?_)
              · have hf := zz_ifn hc hf
                refine lv_lload hx hb d_Mod_shortest_154 (lv_at hl 3 rfl) ?_
                refine lv_lconst (v := 1) hx hb d_Mod_shortest_156 (by decide) ?_
                refine lv_ladd hx hb d_Mod_shortest_157 ?_
                cases hf
                exact hend 158 ls _ _ d_Mod_shortest_158 hP hD hS
              · have hf := zz_ifp hc hf
                refine lv_lload hx hb d_Mod_shortest_140 (lv_at hl 3 rfl) ?_
                refine lv_lconst (v := 1) hx hb d_Mod_shortest_142 (by decide) ?_
                refine lv_land hx hb d_Mod_shortest_143 ?_
                refine lv_lconst (v := 0) hx hb d_Mod_shortest_144 (by decide) ?_
                refine W.lcmp hx hb d_Mod_shortest_145 ?_
                refine lv_if_ne (tgt := 154) hx hb d_Mod_shortest_146 (by decide) (fun hc => ?_) (fun hc => ?_)
                · have hf := zz_ifn hc hf
                  refine lv_lload hx hb d_Mod_shortest_154 (lv_at hl 3 rfl) ?_
                  refine lv_lconst (v := 1) hx hb d_Mod_shortest_156 (by decide) ?_
                  refine lv_ladd hx hb d_Mod_shortest_157 ?_
                  cases hf
                  exact hend 158 ls _ _ d_Mod_shortest_158 hP hD hS
                · have hf := zz_ifp hc hf
                  refine lv_lload hx hb d_Mod_shortest_149 (lv_at hl 3 rfl) ?_
                  refine lv_goto (tgt := 158) hx hb d_Mod_shortest_151 (by decide) ?_
                  cases hf
                  exact hend 158 ls _ _ d_Mod_shortest_158 hP hD hS
  unfold f_Mod_shortest at hf
  refine lv_lload_n hx hb d_Mod_shortest_0 rfl (lv_at hl 1 rfl) ?_
  refine lv_iload_n hx hb d_Mod_shortest_1 rfl (lv_at hl 2 rfl) ?_
  obtain ⟨u_1, hu_1, hf⟩ := zz_bd hf
  refine zz_cl (ws' := [(h_v, .inr (7, [.ref h_v_text, .ref h_v_written, .int v_length, .int v_laid, .int v_gone, .int v_thrown, .int v_were, .int v_none, .int v_beyond, .ref h_v_a, .ref h_v_b, .ref h_v_five, .ref h_v_left, .ref h_v_right, .ref h_v_part, .int v_aMany, .int v_bMany, .int v_fiveMany, .int v_leftMany, .int v_rightMany, .int v_partMany, .int v_twos, .int v_at, .int v_digits, .int v_power, .int v_good])), (h_v_a, .inl (cI, n_v_a, .inl v_a_a)), (h_v_b, .inl (cI, n_v_b, .inl v_b_a)), (h_v_five, .inl (cI, n_v_five, .inl v_five_a)), (h_v_left, .inl (cI, n_v_left, .inl v_left_a)), (h_v_right, .inl (cI, n_v_right, .inl v_right_a))]) (wc := []) (w' := []) hP hD hS hA [] [0, 1, 2, 3, 4, 5] [0, 1, 2, 3, 4, 5] rfl rfl (by decide) (by decide) rfl (by decide) (va_runS (As := [.long x1, .int x3]) (rest := []) ⟨hx, hb, hml, hown, hw⟩ (c_Mod_mantissa l dC dI cI cC cB cJ _ x1 x3 u_1 hu_1) (va_cwS 2 hw (zg_S wd_823 wd_824 wd_8 wd_825) rfl rfl rfl hd_Mod_mantissa ⟨Nat.le_of_ble_eq_true rfl, Nat.le_of_ble_eq_true rfl⟩) (zz_preS zz_TE hP hD hK hS hA trivial [] rfl (by decide)) rfl rfl hl.1 rfl (lv_room (Nat.le_of_ble_eq_true rfl)) d_Mod_shortest_2 ⟨Nat.zero_le _, Nat.zero_le _⟩) (fun H locs hP hD hS => ?_)
  refine lv_lstore hx hb d_Mod_shortest_5 hl (by decide) rfl (fun ls hl => ?_)
  have hl : lv_has ls 16 [(4, .long u_1), (0, .ref h_v), (1, .long x1), (3, .int x3)] := hl
  refine lv_ldc2 (v := 10) hx hb hown (hw _ wd_870) d_Mod_shortest_7 ?_
  refine lv_lstore hx hb d_Mod_shortest_10 hl (by decide) rfl (fun ls hl => ?_)
  have hl : lv_has ls 16 [(6, .long 10), (4, .long u_1), (0, .ref h_v), (1, .long x1), (3, .int x3)] := hl
  refine lv_lload_n hx hb d_Mod_shortest_12 rfl (lv_at hl 3 rfl) ?_
  refine lv_iload_n hx hb d_Mod_shortest_13 rfl (lv_at hl 4 rfl) ?_
  obtain ⟨u_2, hu_2, hf⟩ := zz_bd hf
  refine zz_ci (ws' := [(h_v, .inr (7, [.ref h_v_text, .ref h_v_written, .int v_length, .int v_laid, .int v_gone, .int v_thrown, .int v_were, .int v_none, .int v_beyond, .ref h_v_a, .ref h_v_b, .ref h_v_five, .ref h_v_left, .ref h_v_right, .ref h_v_part, .int v_aMany, .int v_bMany, .int v_fiveMany, .int v_leftMany, .int v_rightMany, .int v_partMany, .int v_twos, .int v_at, .int v_digits, .int v_power, .int v_good])), (h_v_a, .inl (cI, n_v_a, .inl v_a_a)), (h_v_b, .inl (cI, n_v_b, .inl v_b_a)), (h_v_five, .inl (cI, n_v_five, .inl v_five_a)), (h_v_left, .inl (cI, n_v_left, .inl v_left_a)), (h_v_right, .inl (cI, n_v_right, .inl v_right_a))]) (wc := []) (w' := []) hP hD hS hA [] [0, 1, 2, 3, 4, 5] [0, 1, 2, 3, 4, 5] rfl rfl (by decide) (by decide) rfl (by decide) (va_runS (As := [.long x1, .int x3]) (rest := []) ⟨hx, hb, hml, hown, hw⟩ (c_Mod_exponent l dC dI cI cC cB cJ _ x1 x3 u_2 hu_2) (va_cwS 2 hw (zg_S wd_826 wd_827 wd_8 wd_828) rfl rfl rfl hd_Mod_exponent ⟨Nat.le_of_ble_eq_true rfl, Nat.le_of_ble_eq_true rfl⟩) (zz_preS zz_TE hP hD hK hS hA trivial [] rfl (by decide)) rfl rfl hl.1 rfl (lv_room (Nat.le_of_ble_eq_true rfl)) d_Mod_shortest_14 ⟨Nat.zero_le _, Nat.zero_le _⟩) (fun H locs hP hD hS => ?_)
  refine lv_istore hx hb d_Mod_shortest_17 hl (by decide) rfl (fun ls hl => ?_)
  have hl : lv_has ls 16 [(8, .int u_2), (6, .long 10), (4, .long u_1), (0, .ref h_v), (1, .long x1), (3, .int x3)] := hl
  refine lv_aload_n hx hb d_Mod_shortest_19 rfl (lv_at hl 3 rfl) ?_
  refine lv_lload hx hb d_Mod_shortest_20 (lv_at hl 2 rfl) ?_
  refine lv_iload hx hb d_Mod_shortest_22 (lv_at hl 0 rfl) ?_
  obtain ⟨u_3, hu_3, hf⟩ := zz_bd hf
  refine zz_ci (ws' := [(h_v, .inr (7, [.ref h_v_text, .ref h_v_written, .int v_length, .int v_laid, .int v_gone, .int v_thrown, .int v_were, .int v_none, .int v_beyond, .ref h_v_a, .ref h_v_b, .ref h_v_five, .ref h_v_left, .ref h_v_right, .ref h_v_part, .int u_3.2.1, .int u_3.2.2.1, .int u_3.2.2.2.1, .int u_3.2.2.2.2.1, .int u_3.2.2.2.2.2.1, .int v_partMany, .int u_3.2.2.2.2.2.2.1, .int v_at, .int v_digits, .int v_power, .int v_good])), (h_v_a, .inl (cI, n_v_a, .inl u_3.2.2.2.2.2.2.2.1)), (h_v_b, .inl (cI, n_v_b, .inl u_3.2.2.2.2.2.2.2.2.1)), (h_v_five, .inl (cI, n_v_five, .inl u_3.2.2.2.2.2.2.2.2.2.1)), (h_v_left, .inl (cI, n_v_left, .inl u_3.2.2.2.2.2.2.2.2.2.2.1)), (h_v_right, .inl (cI, n_v_right, .inl u_3.2.2.2.2.2.2.2.2.2.2.2))]) (wc := [(h_v, .inr (7, [.ref h_v_text, .ref h_v_written, .int v_length, .int v_laid, .int v_gone, .int v_thrown, .int v_were, .int v_none, .int v_beyond, .ref h_v_a, .ref h_v_b, .ref h_v_five, .ref h_v_left, .ref h_v_right, .ref h_v_part, .int v_aMany, .int v_bMany, .int v_fiveMany, .int v_leftMany, .int v_rightMany, .int v_partMany, .int v_twos, .int v_at, .int v_digits, .int v_power, .int v_good])), (h_v_a, .inl (cI, n_v_a, .inl v_a_a)), (h_v_b, .inl (cI, n_v_b, .inl v_b_a)), (h_v_five, .inl (cI, n_v_five, .inl v_five_a)), (h_v_left, .inl (cI, n_v_left, .inl v_left_a)), (h_v_right, .inl (cI, n_v_right, .inl v_right_a))]) (w' := [(h_v, .inr (7, [.ref h_v_text, .ref h_v_written, .int v_length, .int v_laid, .int v_gone, .int v_thrown, .int v_were, .int v_none, .int v_beyond, .ref h_v_a, .ref h_v_b, .ref h_v_five, .ref h_v_left, .ref h_v_right, .ref h_v_part, .int u_3.2.1, .int u_3.2.2.1, .int u_3.2.2.2.1, .int u_3.2.2.2.2.1, .int u_3.2.2.2.2.2.1, .int v_partMany, .int u_3.2.2.2.2.2.2.1, .int v_at, .int v_digits, .int v_power, .int v_good])), (h_v_a, .inl (cI, n_v_a, .inl u_3.2.2.2.2.2.2.2.1)), (h_v_b, .inl (cI, n_v_b, .inl u_3.2.2.2.2.2.2.2.2.1)), (h_v_five, .inl (cI, n_v_five, .inl u_3.2.2.2.2.2.2.2.2.2.1)), (h_v_left, .inl (cI, n_v_left, .inl u_3.2.2.2.2.2.2.2.2.2.2.1)), (h_v_right, .inl (cI, n_v_right, .inl u_3.2.2.2.2.2.2.2.2.2.2.2))]) hP hD hS hA [0, 1, 2, 3, 4, 5] [] [0, 1, 2, 3, 4, 5] rfl rfl (by decide) (by decide) rfl (by decide) (va_runV (As := [.long u_1, .int u_2]) (rest := []) ⟨hx, hb, hml, hown, hw⟩ (c_Mod_tens l dC dI cI cC cB cJ fu _ h_v h_v_a h_v_b h_v_five h_v_left h_v_right h_v_text h_v_written h_v_part n_v_a n_v_b n_v_five n_v_left n_v_right u_1 u_2 v_length v_laid v_gone v_thrown v_were v_none v_beyond v_aMany v_bMany v_fiveMany v_leftMany v_rightMany v_partMany v_twos v_at v_digits v_power v_good v_a_a v_b_a v_five_a v_left_a v_right_a u_3 hu_3) (cwV 2 hw (zg_V wd_871 wd_873 we_2_8 wd_8 wd_874) rfl rfl rfl hd_Mod_tens ⟨Nat.le_of_ble_eq_true rfl, Nat.le_of_ble_eq_true rfl⟩) (zz_preV zz_TE (va_recv (q0 := 0) (ci := 7) hK hP rfl rfl) hP hD hK hS hA trivial [0, 1, 2, 3, 4, 5] rfl (by decide)) rfl rfl hl.1 rfl (lv_room (Nat.le_of_ble_eq_true rfl)) d_Mod_shortest_24 ⟨Nat.zero_le _, Nat.zero_le _⟩) (fun H locs hP hD hS => ?_)
  refine lv_istore hx hb d_Mod_shortest_27 hl (by decide) rfl (fun ls hl => ?_)
  have hl : lv_has ls 16 [(9, .int u_3.1), (8, .int u_2), (6, .long 10), (4, .long u_1), (0, .ref h_v), (1, .long x1), (3, .int x3)] := hl
  refine lv_iconst (v := 2) hx hb d_Mod_shortest_29 (by decide) ?_
  refine lv_istore hx hb d_Mod_shortest_30 hl (by decide) rfl (fun ls hl => ?_)
  have hl : lv_has ls 16 [(10, .int 2), (9, .int u_3.1), (8, .int u_2), (6, .long 10), (4, .long u_1), (0, .ref h_v), (1, .long x1), (3, .int x3)] := hl
  exact hL_32 fu u_1 10 u_2 u_3.1 2 u_3.2.1 u_3.2.2.1 u_3.2.2.2.1 u_3.2.2.2.2.1 u_3.2.2.2.2.2.1 u_3.2.2.2.2.2.2.1 v_power u_3.2.2.2.2.2.2.2.1 u_3.2.2.2.2.2.2.2.2.1 u_3.2.2.2.2.2.2.2.2.2.1 u_3.2.2.2.2.2.2.2.2.2.2.1 u_3.2.2.2.2.2.2.2.2.2.2.2 ls _ _ (lv_sub hl [5, 6, 7, 4, 3, 2, 1, 0] rfl) hP hD hS hf
abbrev ws_Mod_layDigits : List Cond := .code y_Mod_layDigits prog_10_method_33_code 10 none :: zw
abbrev rm_Mod_layDigits : Room := { frames := 1, cells := 0, slots := 0, locals := 21 }
theorem hd_Mod_layDigits : y_Mod_layDigits.cls = "RealTextModel" ∧ y_Mod_layDigits.cls ≠ "java/lang/invoke/MethodHandle" ∧ y_Mod_layDigits.cls ≠ "java/lang/invoke/VarHandle" ∧ (parseMethodDescriptor y_Mod_layDigits.desc).map (fun d => d.parameters.length) = some 4 := by decide +kernel
theorem d_Mod_layDigits_0 : decode prog_10_method_33_code 0 = .ok (.iload_n 3, 1) := by decide +kernel
theorem d_Mod_layDigits_1 : decode prog_10_method_33_code 1 = .ok (.istore 6, 2) := by decide +kernel
theorem d_Mod_layDigits_3 : decode prog_10_method_33_code 3 = .ok (.iload 6, 2) := by decide +kernel
theorem d_Mod_layDigits_5 : decode prog_10_method_33_code 5 = .ok (.iload 4, 2) := by decide +kernel
theorem d_Mod_layDigits_7 : decode prog_10_method_33_code 7 = .ok (.if_icmp .ge 68, 3) := by decide +kernel
theorem d_Mod_layDigits_10 : decode prog_10_method_33_code 10 = .ok (.lconst 1, 1) := by decide +kernel
theorem d_Mod_layDigits_11 : decode prog_10_method_33_code 11 = .ok (.lstore 7, 2) := by decide +kernel
theorem d_Mod_layDigits_13 : decode prog_10_method_33_code 13 = .ok (.iload 6, 2) := by decide +kernel
theorem d_Mod_layDigits_15 : decode prog_10_method_33_code 15 = .ok (.iconst 1, 1) := by decide +kernel
theorem d_Mod_layDigits_16 : decode prog_10_method_33_code 16 = .ok (.iadd, 1) := by decide +kernel
theorem d_Mod_layDigits_17 : decode prog_10_method_33_code 17 = .ok (.istore 9, 2) := by decide +kernel
theorem d_Mod_layDigits_19 : decode prog_10_method_33_code 19 = .ok (.iload 9, 2) := by decide +kernel
theorem d_Mod_layDigits_21 : decode prog_10_method_33_code 21 = .ok (.iload 5, 2) := by decide +kernel
theorem d_Mod_layDigits_23 : decode prog_10_method_33_code 23 = .ok (.if_icmp .ge 17, 3) := by decide +kernel
theorem d_Mod_layDigits_26 : decode prog_10_method_33_code 26 = .ok (.lload 7, 2) := by decide +kernel
theorem d_Mod_layDigits_28 : decode prog_10_method_33_code 28 = .ok (.ldc2_w 182, 3) := by decide +kernel
theorem d_Mod_layDigits_31 : decode prog_10_method_33_code 31 = .ok (.lmul, 1) := by decide +kernel
theorem d_Mod_layDigits_32 : decode prog_10_method_33_code 32 = .ok (.lstore 7, 2) := by decide +kernel
theorem d_Mod_layDigits_34 : decode prog_10_method_33_code 34 = .ok (.iinc 9 1, 3) := by decide +kernel
theorem d_Mod_layDigits_37 : decode prog_10_method_33_code 37 = .ok (.goto (-18), 3) := by decide +kernel
theorem d_Mod_layDigits_40 : decode prog_10_method_33_code 40 = .ok (.aload_n 0, 1) := by decide +kernel
theorem d_Mod_layDigits_41 : decode prog_10_method_33_code 41 = .ok (.iload 6, 2) := by decide +kernel
theorem d_Mod_layDigits_43 : decode prog_10_method_33_code 43 = .ok (.iload 5, 2) := by decide +kernel
theorem d_Mod_layDigits_45 : decode prog_10_method_33_code 45 = .ok (.if_icmp .ge 19, 3) := by decide +kernel
theorem d_Mod_layDigits_48 : decode prog_10_method_33_code 48 = .ok (.ldc2_w 195, 3) := by decide +kernel
theorem d_Mod_layDigits_51 : decode prog_10_method_33_code 51 = .ok (.lload_n 1, 1) := by decide +kernel
theorem d_Mod_layDigits_52 : decode prog_10_method_33_code 52 = .ok (.lload 7, 2) := by decide +kernel
theorem d_Mod_layDigits_54 : decode prog_10_method_33_code 54 = .ok (.ldiv, 1) := by decide +kernel
theorem d_Mod_layDigits_55 : decode prog_10_method_33_code 55 = .ok (.ldc2_w 182, 3) := by decide +kernel
theorem d_Mod_layDigits_58 : decode prog_10_method_33_code 58 = .ok (.lrem, 1) := by decide +kernel
theorem d_Mod_layDigits_59 : decode prog_10_method_33_code 59 = .ok (.ladd, 1) := by decide +kernel
theorem d_Mod_layDigits_60 : decode prog_10_method_33_code 60 = .ok (.l2i, 1) := by decide +kernel
theorem d_Mod_layDigits_61 : decode prog_10_method_33_code 61 = .ok (.goto 5, 3) := by decide +kernel
theorem d_Mod_layDigits_64 : decode prog_10_method_33_code 64 = .ok (.bipush 48, 2) := by decide +kernel
theorem d_Mod_layDigits_66 : decode prog_10_method_33_code 66 = .ok (.invokevirtual 197, 3) := by decide +kernel
theorem d_Mod_layDigits_69 : decode prog_10_method_33_code 69 = .ok (.iinc 6 1, 3) := by decide +kernel
theorem d_Mod_layDigits_72 : decode prog_10_method_33_code 72 = .ok (.goto (-69), 3) := by decide +kernel
theorem d_Mod_layDigits_75 : decode prog_10_method_33_code 75 = .ok (.return_, 1) := by decide +kernel
def f_Mod_layDigits_66 (fu : Nat) (n_v_written : Nat) (x1 : Int64) (x3 : Int32) (x4 : Int32) (x5 : Int32) (self3 : Int32 → Int32 → (Nat → Int32) → Option (Int32 × (Nat → Int32))) (y6 : Int32) (k1 : Int32) (v_laid : Int32) (v_written_a : Nat → Int32) : Option (Int32 × (Nat → Int32)) :=
  (f_Mod_lay n_v_written k1 v_laid v_written_a).bind fun u_2 =>
  self3 (y6 + 1) u_2.1 u_2.2
def f_Mod_layDigits_19 (fu : Nat) (n_v_written : Nat) (x1 : Int64) (x3 : Int32) (x4 : Int32) (x5 : Int32) (self3 : Int32 → Int32 → (Nat → Int32) → Option (Int32 × (Nat → Int32))) : Nat → Int32 → Int64 → Int32 → Int32 → (Nat → Int32) → Option (Int32 × (Nat → Int32))
  | 0, _, _, _, _, _ => none
  | n + 1, y6, y7, y9, v_laid, v_written_a =>
  (if x5 ≤ y9 then
  (if x5 ≤ y6 then
  f_Mod_layDigits_66 fu n_v_written x1 x3 x4 x5 self3 y6 48 v_laid v_written_a
  else
  if ¬ y7 = 0 then
  f_Mod_layDigits_66 fu n_v_written x1 x3 x4 x5 self3 y6 ((48 + ((x1 / y7) - (x1 / y7) / 10 * 10)).toInt32) v_laid v_written_a
  else none)
  else
  zz_lt (y7 * 10) fun x7_4 =>
  f_Mod_layDigits_19 fu n_v_written x1 x3 x4 x5 self3 n y6 x7_4 (y9 + 1) v_laid v_written_a)
theorem f_Mod_layDigits_19_s (fu : Nat) (n_v_written : Nat) (x1 : Int64) (x3 : Int32) (x4 : Int32) (x5 : Int32) (self3 : Int32 → Int32 → (Nat → Int32) → Option (Int32 × (Nat → Int32))) (n : Nat) (y6 : Int32) (y7 : Int64) (y9 : Int32) (v_laid : Int32) (v_written_a : Nat → Int32) : f_Mod_layDigits_19 fu n_v_written x1 x3 x4 x5 self3 (n + 1) y6 y7 y9 v_laid v_written_a =
  (if x5 ≤ y9 then
  (if x5 ≤ y6 then
  f_Mod_layDigits_66 fu n_v_written x1 x3 x4 x5 self3 y6 48 v_laid v_written_a
  else
  if ¬ y7 = 0 then
  f_Mod_layDigits_66 fu n_v_written x1 x3 x4 x5 self3 y6 ((48 + ((x1 / y7) - (x1 / y7) / 10 * 10)).toInt32) v_laid v_written_a
  else none)
  else
  zz_lt (y7 * 10) fun x7_4 =>
  f_Mod_layDigits_19 fu n_v_written x1 x3 x4 x5 self3 n y6 x7_4 (y9 + 1) v_laid v_written_a) := rfl
def f_Mod_layDigits_3 (fu : Nat) (n_v_written : Nat) (x1 : Int64) (x3 : Int32) (x4 : Int32) (x5 : Int32)  : Nat → Int32 → Int32 → (Nat → Int32) → Option (Int32 × (Nat → Int32))
  | 0, _, _, _ => none
  | n + 1, y6, v_laid, v_written_a =>
  (if x4 ≤ y6 then
  some (v_laid, v_written_a)
  else
  zz_lt (y6 + 1) fun x9_1 =>
  f_Mod_layDigits_19 fu n_v_written x1 x3 x4 x5 (f_Mod_layDigits_3 fu n_v_written x1 x3 x4 x5 n) fu y6 1 x9_1 v_laid v_written_a)
theorem f_Mod_layDigits_3_s (fu : Nat) (n_v_written : Nat) (x1 : Int64) (x3 : Int32) (x4 : Int32) (x5 : Int32)  (n : Nat) (y6 : Int32) (v_laid : Int32) (v_written_a : Nat → Int32) : f_Mod_layDigits_3 fu n_v_written x1 x3 x4 x5 (n + 1) y6 v_laid v_written_a =
  (if x4 ≤ y6 then
  some (v_laid, v_written_a)
  else
  zz_lt (y6 + 1) fun x9_1 =>
  f_Mod_layDigits_19 fu n_v_written x1 x3 x4 x5 (f_Mod_layDigits_3 fu n_v_written x1 x3 x4 x5 n) fu y6 1 x9_1 v_laid v_written_a) := rfl
def f_Mod_layDigits (fu : Nat) (n_v_written : Nat) (x1 : Int64) (x3 : Int32) (x4 : Int32) (x5 : Int32) (v_laid : Int32) (v_written_a : Nat → Int32) : Option (Int32 × (Nat → Int32)) :=
  f_Mod_layDigits_3 fu n_v_written x1 x3 x4 x5 fu x3 v_laid v_written_a
set_option maxHeartbeats 4000000 in
set_option maxRecDepth 100000 in
theorem c_Mod_layDigits (l : Launch) (dC : Nat → ClassId) (dI : Nat → Nat → Nat) (cI cC cB cJ : ClassId) (fu : Nat) (sz : Nat) (h_v : Nat) (h_v_written : Nat) (h_v_text : Nat) (h_v_a : Nat) (h_v_b : Nat) (h_v_five : Nat) (h_v_left : Nat) (h_v_right : Nat) (h_v_part : Nat) (n_v_written : Nat) (x1 : Int64) (x3 : Int32) (x4 : Int32) (x5 : Int32) (v_length : Int32) (v_laid : Int32) (v_gone : Int32) (v_thrown : Int32) (v_were : Int32) (v_none : Int32) (v_beyond : Int32) (v_aMany : Int32) (v_bMany : Int32) (v_fiveMany : Int32) (v_leftMany : Int32) (v_rightMany : Int32) (v_partMany : Int32) (v_twos : Int32) (v_at : Int32) (v_digits : Int32) (v_power : Int32) (v_good : Int32) (v_written_a : Nat → Int32) (u : Int32 × (Nat → Int32)) (hf : f_Mod_layDigits fu n_v_written x1 x3 x4 x5 v_laid v_written_a = some u) : Met l y_Mod_layDigits ws_Mod_layDigits rm_Mod_layDigits (zz_P zz_T (dC, dI) vwCl (zz_tys cI cC cB cJ) [.ref h_v, .long x1, .int x3, .int x4, .int x5] [(h_v, .inr (7, [.ref h_v_text, .ref h_v_written, .int v_length, .int v_laid, .int v_gone, .int v_thrown, .int v_were, .int v_none, .int v_beyond, .ref h_v_a, .ref h_v_b, .ref h_v_five, .ref h_v_left, .ref h_v_right, .ref h_v_part, .int v_aMany, .int v_bMany, .int v_fiveMany, .int v_leftMany, .int v_rightMany, .int v_partMany, .int v_twos, .int v_at, .int v_digits, .int v_power, .int v_good])), (h_v_written, .inl (cI, n_v_written, .inl v_written_a))] sz) (zz_Qv (dC, dI) vwCl [(h_v, .inr (7, [.ref h_v_text, .ref h_v_written, .int v_length, .int u.1, .int v_gone, .int v_thrown, .int v_were, .int v_none, .int v_beyond, .ref h_v_a, .ref h_v_b, .ref h_v_five, .ref h_v_left, .ref h_v_right, .ref h_v_part, .int v_aMany, .int v_bMany, .int v_fiveMany, .int v_leftMany, .int v_rightMany, .int v_partMany, .int v_twos, .int v_at, .int v_digits, .int v_power, .int v_good])), (h_v_written, .inl (cI, n_v_written, .inl u.2))] (va_A [(h_v, .inr (7, [.ref h_v_text, .ref h_v_written, .int v_length, .int v_laid, .int v_gone, .int v_thrown, .int v_were, .int v_none, .int v_beyond, .ref h_v_a, .ref h_v_b, .ref h_v_five, .ref h_v_left, .ref h_v_right, .ref h_v_part, .int v_aMany, .int v_bMany, .int v_fiveMany, .int v_leftMany, .int v_rightMany, .int v_partMany, .int v_twos, .int v_at, .int v_digits, .int v_power, .int v_good])), (h_v_written, .inl (cI, n_v_written, .inl v_written_a))] sz)) 0 0 (va_A [(h_v, .inr (7, [.ref h_v_text, .ref h_v_written, .int v_length, .int v_laid, .int v_gone, .int v_thrown, .int v_were, .int v_none, .int v_beyond, .ref h_v_a, .ref h_v_b, .ref h_v_five, .ref h_v_left, .ref h_v_right, .ref h_v_part, .int v_aMany, .int v_bMany, .int v_fiveMany, .int v_leftMany, .int v_rightMany, .int v_partMany, .int v_twos, .int v_at, .int v_digits, .int v_power, .int v_good])), (h_v_written, .inl (cI, n_v_written, .inl v_written_a))] sz) := by
  refine Met.ofW (cc := prog_10_method_33_code) (maxL := 10) (ret := none) (by decide +kernel) rfl ?_
  intro p e s m args below meth c s₁ B hml hv
  obtain ⟨rfl, hsz, hP, hK, hD0, hX⟩ := hv
  have hx := B.exec
  have hb := B.bytes
  have hr := B.returns
  have hts := atoms_spec (ws := ws_Mod_layDigits) B.pre
  have hw : ∀ w ∈ zw, w.before [.ref h_v, .long x1, .int x3, .int x4, .int x5].toArray s = true := fun w h => hts w (List.mem_cons_of_mem _ h)
  have hown : s.vm.findClass R_Mod = some m.cls := findClass_of_methodNamed B.named
  have hlocks := B.notSynchronized
  subst hsz
  have hD := hD0.self (sz := s.heap.size)
  generalize hAe : va_A [(h_v, .inr (7, [.ref h_v_text, .ref h_v_written, .int v_length, .int v_laid, .int v_gone, .int v_thrown, .int v_were, .int v_none, .int v_beyond, .ref h_v_a, .ref h_v_b, .ref h_v_five, .ref h_v_left, .ref h_v_right, .ref h_v_part, .int v_aMany, .int v_bMany, .int v_fiveMany, .int v_leftMany, .int v_rightMany, .int v_partMany, .int v_twos, .int v_at, .int v_digits, .int v_power, .int v_good])), (h_v_written, .inl (cI, n_v_written, .inl v_written_a))] s.heap.size = A at hD hX ⊢
  have hA : ∀ q : Nat, s.heap.size ≤ q → A q := fun q h => by rw [← hAe]; exact Or.inr h
  have hS : va_S A s.heap s.heap [] := va_S.rf
  have hl := lv_entry [.ref h_v, .long x1, .int x3, .int x4, .int x5] (n := 10) (Nat.le_of_ble_eq_true rfl)
  rw [lg_entry_eq]
  generalize (lg_sl [.ref h_v, .long x1, .int x3, .int x4, .int x5] ++ List.replicate (10 - (lg_sl [.ref h_v, .long x1, .int x3, .int x4, .int x5]).length) Slot.unset).toArray = ls at hl ⊢
  have hl : lv_has ls 10 [(0, .ref h_v), (1, .long x1), (3, .int x3), (4, .int x4), (5, .int x5)] := hl
  refine zz_endv hx hb hr hlocks (fun Qq hend => ?_)
  have hL_66 : ∀ (self3 : Int32 → Int32 → (Nat → Int32) → Option (Int32 × (Nat → Int32))), (∀ (y6 : Int32) (v_laid : Int32) (v_written_a : Nat → Int32) (ls : Array Slot) (H : Heap) (locs : List Loc), lv_has ls 10 [(0, .ref h_v), (1, .long x1), (4, .int x4), (5, .int x5), (6, .int y6)] → va_P (dC, dI) vwCl [(h_v, .inr (7, [.ref h_v_text, .ref h_v_written, .int v_length, .int v_laid, .int v_gone, .int v_thrown, .int v_were, .int v_none, .int v_beyond, .ref h_v_a, .ref h_v_b, .ref h_v_five, .ref h_v_left, .ref h_v_right, .ref h_v_part, .int v_aMany, .int v_bMany, .int v_fiveMany, .int v_leftMany, .int v_rightMany, .int v_partMany, .int v_twos, .int v_at, .int v_digits, .int v_power, .int v_good])), (h_v_written, .inl (cI, n_v_written, .inl v_written_a))] H → va_D A [(h_v, .inr (7, [.ref h_v_text, .ref h_v_written, .int v_length, .int v_laid, .int v_gone, .int v_thrown, .int v_were, .int v_none, .int v_beyond, .ref h_v_a, .ref h_v_b, .ref h_v_five, .ref h_v_left, .ref h_v_right, .ref h_v_part, .int v_aMany, .int v_bMany, .int v_fiveMany, .int v_leftMany, .int v_rightMany, .int v_partMany, .int v_twos, .int v_at, .int v_digits, .int v_power, .int v_good])), (h_v_written, .inl (cI, n_v_written, .inl v_written_a))] → va_S A s.heap H locs → self3 y6 v_laid v_written_a = some u → W p l e (headSpec ws_Mod_layDigits rm_Mod_layDigits).room s m [.ref h_v, .long x1, .int x3, .int x4, .int x5].toArray below meth c H locs 0 0 Qq (F0 m 3 ls [])) → ∀ (y6 : Int32) (k1 : Int32) (v_laid : Int32) (v_written_a : Nat → Int32) (ls : Array Slot) (H : Heap) (locs : List Loc), lv_has ls 10 [(0, .ref h_v), (1, .long x1), (4, .int x4), (5, .int x5), (6, .int y6)] → va_P (dC, dI) vwCl [(h_v, .inr (7, [.ref h_v_text, .ref h_v_written, .int v_length, .int v_laid, .int v_gone, .int v_thrown, .int v_were, .int v_none, .int v_beyond, .ref h_v_a, .ref h_v_b, .ref h_v_five, .ref h_v_left, .ref h_v_right, .ref h_v_part, .int v_aMany, .int v_bMany, .int v_fiveMany, .int v_leftMany, .int v_rightMany, .int v_partMany, .int v_twos, .int v_at, .int v_digits, .int v_power, .int v_good])), (h_v_written, .inl (cI, n_v_written, .inl v_written_a))] H → va_D A [(h_v, .inr (7, [.ref h_v_text, .ref h_v_written, .int v_length, .int v_laid, .int v_gone, .int v_thrown, .int v_were, .int v_none, .int v_beyond, .ref h_v_a, .ref h_v_b, .ref h_v_five, .ref h_v_left, .ref h_v_right, .ref h_v_part, .int v_aMany, .int v_bMany, .int v_fiveMany, .int v_leftMany, .int v_rightMany, .int v_partMany, .int v_twos, .int v_at, .int v_digits, .int v_power, .int v_good])), (h_v_written, .inl (cI, n_v_written, .inl v_written_a))] → va_S A s.heap H locs → f_Mod_layDigits_66 fu n_v_written x1 x3 x4 x5 self3 y6 k1 v_laid v_written_a = some u → W p l e (headSpec ws_Mod_layDigits rm_Mod_layDigits).room s m [.ref h_v, .long x1, .int x3, .int x4, .int x5].toArray below meth c H locs 0 0 Qq (F0 m 66 ls [.int k1, .ref h_v]) := by
    intro self3 hs3
    intro y6 k1 v_laid v_written_a ls H locs hl hP hD hS hf
    unfold f_Mod_layDigits_66 at hf
    obtain ⟨u_2, hu_2, hf⟩ := zz_bd hf
    refine zz_cv (ws' := [(h_v, .inr (7, [.ref h_v_text, .ref h_v_written, .int v_length, .int u_2.1, .int v_gone, .int v_thrown, .int v_were, .int v_none, .int v_beyond, .ref h_v_a, .ref h_v_b, .ref h_v_five, .ref h_v_left, .ref h_v_right, .ref h_v_part, .int v_aMany, .int v_bMany, .int v_fiveMany, .int v_leftMany, .int v_rightMany, .int v_partMany, .int v_twos, .int v_at, .int v_digits, .int v_power, .int v_good])), (h_v_written, .inl (cI, n_v_written, .inl u_2.2))]) (wc := [(h_v, .inr (7, [.ref h_v_text, .ref h_v_written, .int v_length, .int v_laid, .int v_gone, .int v_thrown, .int v_were, .int v_none, .int v_beyond, .ref h_v_a, .ref h_v_b, .ref h_v_five, .ref h_v_left, .ref h_v_right, .ref h_v_part, .int v_aMany, .int v_bMany, .int v_fiveMany, .int v_leftMany, .int v_rightMany, .int v_partMany, .int v_twos, .int v_at, .int v_digits, .int v_power, .int v_good])), (h_v_written, .inl (cI, n_v_written, .inl v_written_a))]) (w' := [(h_v, .inr (7, [.ref h_v_text, .ref h_v_written, .int v_length, .int u_2.1, .int v_gone, .int v_thrown, .int v_were, .int v_none, .int v_beyond, .ref h_v_a, .ref h_v_b, .ref h_v_five, .ref h_v_left, .ref h_v_right, .ref h_v_part, .int v_aMany, .int v_bMany, .int v_fiveMany, .int v_leftMany, .int v_rightMany, .int v_partMany, .int v_twos, .int v_at, .int v_digits, .int v_power, .int v_good])), (h_v_written, .inl (cI, n_v_written, .inl u_2.2))]) hP hD hS hA [0, 1] [] [0, 1] rfl rfl (by decide) (by decide) rfl (by decide) (va_runV (As := [.int k1]) (rest := []) ⟨hx, hb, hml, hown, hw⟩ (c_Mod_lay l dC dI cI cC cB cJ _ h_v h_v_written h_v_text h_v_a h_v_b h_v_five h_v_left h_v_right h_v_part n_v_written k1 v_length v_laid v_gone v_thrown v_were v_none v_beyond v_aMany v_bMany v_fiveMany v_leftMany v_rightMany v_partMany v_twos v_at v_digits v_power v_good v_written_a u_2 hu_2) (cwV 1 hw (zg_V wd_856 wd_858 we_2_5 wd_8 wd_859) rfl rfl rfl hd_Mod_lay ⟨Nat.le_of_ble_eq_true rfl, Nat.le_of_ble_eq_true rfl⟩) (zz_preV zz_TE (va_recv (q0 := 0) (ci := 7) hK hP rfl rfl) hP hD hK hS hA trivial [0, 1] rfl (by decide)) rfl rfl hl.1 rfl (lv_room (Nat.le_of_ble_eq_true rfl)) d_Mod_layDigits_66 ⟨Nat.zero_le _, Nat.zero_le _⟩) (fun H locs hP hD hS => ?_)
    refine lv_iinc (k := 4) (v := y6 + 1) hx hb d_Mod_layDigits_69 hl rfl rfl (by decide) rfl (fun ls hl => ?_)
    have hl : lv_has ls 10 [(6, .int (y6 + 1)), (0, .ref h_v), (1, .long x1), (4, .int x4), (5, .int x5)] := hl
    refine lv_goto (tgt := 3) hx hb d_Mod_layDigits_72 (by decide) ?_
    exact hs3 (y6 + 1) u_2.1 u_2.2 ls _ _ (lv_sub hl [1, 2, 3, 4, 0] rfl) hP hD hS hf
  have hL_19 : ∀ (self3 : Int32 → Int32 → (Nat → Int32) → Option (Int32 × (Nat → Int32))), (∀ (y6 : Int32) (v_laid : Int32) (v_written_a : Nat → Int32) (ls : Array Slot) (H : Heap) (locs : List Loc), lv_has ls 10 [(0, .ref h_v), (1, .long x1), (4, .int x4), (5, .int x5), (6, .int y6)] → va_P (dC, dI) vwCl [(h_v, .inr (7, [.ref h_v_text, .ref h_v_written, .int v_length, .int v_laid, .int v_gone, .int v_thrown, .int v_were, .int v_none, .int v_beyond, .ref h_v_a, .ref h_v_b, .ref h_v_five, .ref h_v_left, .ref h_v_right, .ref h_v_part, .int v_aMany, .int v_bMany, .int v_fiveMany, .int v_leftMany, .int v_rightMany, .int v_partMany, .int v_twos, .int v_at, .int v_digits, .int v_power, .int v_good])), (h_v_written, .inl (cI, n_v_written, .inl v_written_a))] H → va_D A [(h_v, .inr (7, [.ref h_v_text, .ref h_v_written, .int v_length, .int v_laid, .int v_gone, .int v_thrown, .int v_were, .int v_none, .int v_beyond, .ref h_v_a, .ref h_v_b, .ref h_v_five, .ref h_v_left, .ref h_v_right, .ref h_v_part, .int v_aMany, .int v_bMany, .int v_fiveMany, .int v_leftMany, .int v_rightMany, .int v_partMany, .int v_twos, .int v_at, .int v_digits, .int v_power, .int v_good])), (h_v_written, .inl (cI, n_v_written, .inl v_written_a))] → va_S A s.heap H locs → self3 y6 v_laid v_written_a = some u → W p l e (headSpec ws_Mod_layDigits rm_Mod_layDigits).room s m [.ref h_v, .long x1, .int x3, .int x4, .int x5].toArray below meth c H locs 0 0 Qq (F0 m 3 ls [])) → ∀ (n : Nat), ∀ (y6 : Int32) (y7 : Int64) (y9 : Int32) (v_laid : Int32) (v_written_a : Nat → Int32) (ls : Array Slot) (H : Heap) (locs : List Loc), lv_has ls 10 [(0, .ref h_v), (1, .long x1), (4, .int x4), (5, .int x5), (6, .int y6), (7, .long y7), (9, .int y9)] → va_P (dC, dI) vwCl [(h_v, .inr (7, [.ref h_v_text, .ref h_v_written, .int v_length, .int v_laid, .int v_gone, .int v_thrown, .int v_were, .int v_none, .int v_beyond, .ref h_v_a, .ref h_v_b, .ref h_v_five, .ref h_v_left, .ref h_v_right, .ref h_v_part, .int v_aMany, .int v_bMany, .int v_fiveMany, .int v_leftMany, .int v_rightMany, .int v_partMany, .int v_twos, .int v_at, .int v_digits, .int v_power, .int v_good])), (h_v_written, .inl (cI, n_v_written, .inl v_written_a))] H → va_D A [(h_v, .inr (7, [.ref h_v_text, .ref h_v_written, .int v_length, .int v_laid, .int v_gone, .int v_thrown, .int v_were, .int v_none, .int v_beyond, .ref h_v_a, .ref h_v_b, .ref h_v_five, .ref h_v_left, .ref h_v_right, .ref h_v_part, .int v_aMany, .int v_bMany, .int v_fiveMany, .int v_leftMany, .int v_rightMany, .int v_partMany, .int v_twos, .int v_at, .int v_digits, .int v_power, .int v_good])), (h_v_written, .inl (cI, n_v_written, .inl v_written_a))] → va_S A s.heap H locs → f_Mod_layDigits_19 fu n_v_written x1 x3 x4 x5 self3 n y6 y7 y9 v_laid v_written_a = some u → W p l e (headSpec ws_Mod_layDigits rm_Mod_layDigits).room s m [.ref h_v, .long x1, .int x3, .int x4, .int x5].toArray below meth c H locs 0 0 Qq (F0 m 19 ls []) := by
    intro self3 hs3
    intro n
    induction n with
    | zero =>
      intro y6 y7 y9 v_laid v_written_a ls H locs hl hP hD hS hf
      exact zz_no hf
    | succ n ih =>
      intro y6 y7 y9 v_laid v_written_a ls H locs hl hP hD hS hf
      rw [f_Mod_layDigits_19_s] at hf
      refine lv_iload hx hb d_Mod_layDigits_19 (lv_at hl 6 rfl) ?_
      refine lv_iload hx hb d_Mod_layDigits_21 (lv_at hl 3 rfl) ?_
      refine lv_icmp_ge (tgt := 40) hx hb d_Mod_layDigits_23 (by decide) (fun hc => ?_) (fun hc => ?_)
      · have hf := zz_ifp hc hf
        refine lv_aload_n hx hb d_Mod_layDigits_40 rfl (lv_at hl 0 rfl) ?_
        refine lv_iload hx hb d_Mod_layDigits_41 (lv_at hl 4 rfl) ?_
        refine lv_iload hx hb d_Mod_layDigits_43 (lv_at hl 3 rfl) ?_
        refine lv_icmp_ge (tgt := 64) hx hb d_Mod_layDigits_45 (by decide) (fun hc => ?_) (fun hc => ?_)
        · have hf := zz_ifp hc hf
          refine lv_bipush (v := 48) hx hb d_Mod_layDigits_64 (by decide) ?_
          exact hL_66 _ hs3 y6 48 v_laid v_written_a ls _ _ (lv_sub hl [0, 1, 2, 3, 4] rfl) hP hD hS hf
        · have hf := zz_ifn hc hf
          refine lv_ldc2 (v := 48) hx hb hown (hw _ wd_896) d_Mod_layDigits_48 ?_
          refine lv_lload_n hx hb d_Mod_layDigits_51 rfl (lv_at hl 1 rfl) ?_
          refine lv_lload hx hb d_Mod_layDigits_52 (lv_at hl 5 rfl) ?_
          obtain ⟨hz_3, hf⟩ := zz_gd hf
          refine lv_ldiv hx hb d_Mod_layDigits_54 hz_3 ?_
          refine lv_ldc2 (v := 10) hx hb hown (hw _ wd_870) d_Mod_layDigits_55 ?_
          refine lv_lrem hx hb d_Mod_layDigits_58 (by decide) ?_
          refine lv_ladd hx hb d_Mod_layDigits_59 ?_
          refine lv_l2i hx hb d_Mod_layDigits_60 rfl ?_
          refine lv_goto (tgt := 66) hx hb d_Mod_layDigits_61 (by decide) ?_
          exact hL_66 _ hs3 y6 ((48 + ((x1 / y7) - (x1 / y7) / 10 * 10)).toInt32) v_laid v_written_a ls _ _ (lv_sub hl [0, 1, 2, 3, 4] rfl) hP hD hS hf
      · have hf := zz_ifn hc hf
        refine lv_lload hx hb d_Mod_layDigits_26 (lv_at hl 5 rfl) ?_
        refine lv_ldc2 (v := 10) hx hb hown (hw _ wd_870) d_Mod_layDigits_28 ?_
        refine lv_lmul hx hb d_Mod_layDigits_31 ?_
        refine lv_topl (fun x7_4 e_x7_4 => ?_)
        have hf := zz_ltp hf x7_4 e_x7_4
        refine lv_lstore hx hb d_Mod_layDigits_32 hl (by decide) rfl (fun ls hl => ?_)
        have hl : lv_has ls 10 [(7, .long x7_4), (0, .ref h_v), (1, .long x1), (4, .int x4), (5, .int x5), (6, .int y6), (9, .int y9)] := hl
        refine lv_iinc (k := 6) (v := y9 + 1) hx hb d_Mod_layDigits_34 hl rfl rfl (by decide) rfl (fun ls hl => ?_)
        have hl : lv_has ls 10 [(9, .int (y9 + 1)), (7, .long x7_4), (0, .ref h_v), (1, .long x1), (4, .int x4), (5, .int x5), (6, .int y6)] := hl
        refine lv_goto (tgt := 19) hx hb d_Mod_layDigits_37 (by decide) ?_
        exact ih y6 x7_4 (y9 + 1) v_laid v_written_a ls _ _ (lv_sub hl [2, 3, 4, 5, 6, 1, 0] rfl) hP hD hS hf
  have hL_3 : ∀ (n : Nat), ∀ (y6 : Int32) (v_laid : Int32) (v_written_a : Nat → Int32) (ls : Array Slot) (H : Heap) (locs : List Loc), lv_has ls 10 [(0, .ref h_v), (1, .long x1), (4, .int x4), (5, .int x5), (6, .int y6)] → va_P (dC, dI) vwCl [(h_v, .inr (7, [.ref h_v_text, .ref h_v_written, .int v_length, .int v_laid, .int v_gone, .int v_thrown, .int v_were, .int v_none, .int v_beyond, .ref h_v_a, .ref h_v_b, .ref h_v_five, .ref h_v_left, .ref h_v_right, .ref h_v_part, .int v_aMany, .int v_bMany, .int v_fiveMany, .int v_leftMany, .int v_rightMany, .int v_partMany, .int v_twos, .int v_at, .int v_digits, .int v_power, .int v_good])), (h_v_written, .inl (cI, n_v_written, .inl v_written_a))] H → va_D A [(h_v, .inr (7, [.ref h_v_text, .ref h_v_written, .int v_length, .int v_laid, .int v_gone, .int v_thrown, .int v_were, .int v_none, .int v_beyond, .ref h_v_a, .ref h_v_b, .ref h_v_five, .ref h_v_left, .ref h_v_right, .ref h_v_part, .int v_aMany, .int v_bMany, .int v_fiveMany, .int v_leftMany, .int v_rightMany, .int v_partMany, .int v_twos, .int v_at, .int v_digits, .int v_power, .int v_good])), (h_v_written, .inl (cI, n_v_written, .inl v_written_a))] → va_S A s.heap H locs → f_Mod_layDigits_3 fu n_v_written x1 x3 x4 x5 n y6 v_laid v_written_a = some u → W p l e (headSpec ws_Mod_layDigits rm_Mod_layDigits).room s m [.ref h_v, .long x1, .int x3, .int x4, .int x5].toArray below meth c H locs 0 0 Qq (F0 m 3 ls []) := by
    intro n
    induction n with
    | zero =>
      intro y6 v_laid v_written_a ls H locs hl hP hD hS hf
      exact zz_no hf
    | succ n ih =>
      intro y6 v_laid v_written_a ls H locs hl hP hD hS hf
      rw [f_Mod_layDigits_3_s] at hf
      refine lv_iload hx hb d_Mod_layDigits_3 (lv_at hl 4 rfl) ?_
      refine lv_iload hx hb d_Mod_layDigits_5 (lv_at hl 2 rfl) ?_
      refine lv_icmp_ge (tgt := 75) hx hb d_Mod_layDigits_7 (by decide) (fun hc => ?_) (fun hc => ?_)
      · have hf := zz_ifp hc hf
        cases hf
        exact hend 75 ls _ _ d_Mod_layDigits_75 hP hD hS
      · have hf := zz_ifn hc hf
        refine lv_lconst (v := 1) hx hb d_Mod_layDigits_10 (by decide) ?_
        refine lv_lstore hx hb d_Mod_layDigits_11 hl (by decide) rfl (fun ls hl => ?_)
        have hl : lv_has ls 10 [(7, .long 1), (0, .ref h_v), (1, .long x1), (4, .int x4), (5, .int x5), (6, .int y6)] := hl
        refine lv_iload hx hb d_Mod_layDigits_13 (lv_at hl 5 rfl) ?_
        refine lv_iconst (v := 1) hx hb d_Mod_layDigits_15 (by decide) ?_
        refine lv_iadd hx hb d_Mod_layDigits_16 ?_
        refine lv_topi (fun x9_1 e_x9_1 => ?_)
        have hf := zz_ltp hf x9_1 e_x9_1
        refine lv_istore hx hb d_Mod_layDigits_17 hl (by decide) rfl (fun ls hl => ?_)
        have hl : lv_has ls 10 [(9, .int x9_1), (7, .long 1), (0, .ref h_v), (1, .long x1), (4, .int x4), (5, .int x5), (6, .int y6)] := hl
        exact hL_19 _ ih fu y6 1 x9_1 v_laid v_written_a ls _ _ (lv_sub hl [2, 3, 4, 5, 6, 1, 0] rfl) hP hD hS hf
  unfold f_Mod_layDigits at hf
  refine lv_iload_n hx hb d_Mod_layDigits_0 rfl (lv_at hl 2 rfl) ?_
  refine lv_istore hx hb d_Mod_layDigits_1 hl (by decide) rfl (fun ls hl => ?_)
  have hl : lv_has ls 10 [(6, .int x3), (0, .ref h_v), (1, .long x1), (3, .int x3), (4, .int x4), (5, .int x5)] := hl
  exact hL_3 fu x3 v_laid v_written_a ls _ _ (lv_sub hl [1, 2, 4, 5, 0] rfl) hP hD hS hf
abbrev ws_Mod_layNumber : List Cond := .code y_Mod_layNumber prog_10_method_34_code 3 none :: zw
abbrev rm_Mod_layNumber : Room := { frames := 1, cells := 0, slots := 0, locals := 21 }
theorem hd_Mod_layNumber : y_Mod_layNumber.cls = "RealTextModel" ∧ y_Mod_layNumber.cls ≠ "java/lang/invoke/MethodHandle" ∧ y_Mod_layNumber.cls ≠ "java/lang/invoke/VarHandle" ∧ (parseMethodDescriptor y_Mod_layNumber.desc).map (fun d => d.parameters.length) = some 1 := by decide +kernel
theorem d_Mod_layNumber_0 : decode prog_10_method_34_code 0 = .ok (.iconst 1, 1) := by decide +kernel
theorem d_Mod_layNumber_1 : decode prog_10_method_34_code 1 = .ok (.istore_n 2, 1) := by decide +kernel
theorem d_Mod_layNumber_2 : decode prog_10_method_34_code 2 = .ok (.iload_n 1, 1) := by decide +kernel
theorem d_Mod_layNumber_3 : decode prog_10_method_34_code 3 = .ok (.iload_n 2, 1) := by decide +kernel
theorem d_Mod_layNumber_4 : decode prog_10_method_34_code 4 = .ok (.idiv, 1) := by decide +kernel
theorem d_Mod_layNumber_5 : decode prog_10_method_34_code 5 = .ok (.bipush 9, 2) := by decide +kernel
theorem d_Mod_layNumber_7 : decode prog_10_method_34_code 7 = .ok (.if_icmp .le 11, 3) := by decide +kernel
theorem d_Mod_layNumber_10 : decode prog_10_method_34_code 10 = .ok (.iload_n 2, 1) := by decide +kernel
theorem d_Mod_layNumber_11 : decode prog_10_method_34_code 11 = .ok (.bipush 10, 2) := by decide +kernel
theorem d_Mod_layNumber_13 : decode prog_10_method_34_code 13 = .ok (.imul, 1) := by decide +kernel
theorem d_Mod_layNumber_14 : decode prog_10_method_34_code 14 = .ok (.istore_n 2, 1) := by decide +kernel
theorem d_Mod_layNumber_15 : decode prog_10_method_34_code 15 = .ok (.goto (-13), 3) := by decide +kernel
theorem d_Mod_layNumber_18 : decode prog_10_method_34_code 18 = .ok (.iload_n 2, 1) := by decide +kernel
theorem d_Mod_layNumber_19 : decode prog_10_method_34_code 19 = .ok (.ifCond .le 24, 3) := by decide +kernel
theorem d_Mod_layNumber_22 : decode prog_10_method_34_code 22 = .ok (.aload_n 0, 1) := by decide +kernel
theorem d_Mod_layNumber_23 : decode prog_10_method_34_code 23 = .ok (.bipush 48, 2) := by decide +kernel
theorem d_Mod_layNumber_25 : decode prog_10_method_34_code 25 = .ok (.iload_n 1, 1) := by decide +kernel
theorem d_Mod_layNumber_26 : decode prog_10_method_34_code 26 = .ok (.iload_n 2, 1) := by decide +kernel
theorem d_Mod_layNumber_27 : decode prog_10_method_34_code 27 = .ok (.idiv, 1) := by decide +kernel
theorem d_Mod_layNumber_28 : decode prog_10_method_34_code 28 = .ok (.bipush 10, 2) := by decide +kernel
theorem d_Mod_layNumber_30 : decode prog_10_method_34_code 30 = .ok (.irem, 1) := by decide +kernel
theorem d_Mod_layNumber_31 : decode prog_10_method_34_code 31 = .ok (.iadd, 1) := by decide +kernel
theorem d_Mod_layNumber_32 : decode prog_10_method_34_code 32 = .ok (.invokevirtual 197, 3) := by decide +kernel
theorem d_Mod_layNumber_35 : decode prog_10_method_34_code 35 = .ok (.iload_n 2, 1) := by decide +kernel
theorem d_Mod_layNumber_36 : decode prog_10_method_34_code 36 = .ok (.bipush 10, 2) := by decide +kernel
theorem d_Mod_layNumber_38 : decode prog_10_method_34_code 38 = .ok (.idiv, 1) := by decide +kernel
theorem d_Mod_layNumber_39 : decode prog_10_method_34_code 39 = .ok (.istore_n 2, 1) := by decide +kernel
theorem d_Mod_layNumber_40 : decode prog_10_method_34_code 40 = .ok (.goto (-22), 3) := by decide +kernel
theorem d_Mod_layNumber_43 : decode prog_10_method_34_code 43 = .ok (.return_, 1) := by decide +kernel
def f_Mod_layNumber_18 (fu : Nat) (n_v_written : Nat) (x1 : Int32)  : Nat → Int32 → Int32 → (Nat → Int32) → Option (Int32 × (Nat → Int32))
  | 0, _, _, _ => none
  | n + 1, y2, v_laid, v_written_a =>
  (if y2 ≤ 0 then
  some (v_laid, v_written_a)
  else
  if ¬ y2 = 0 then
  (f_Mod_lay n_v_written (48 + ((x1 / y2) - (x1 / y2) / 10 * 10)) v_laid v_written_a).bind fun u_3 =>
  zz_lt (y2 / 10) fun x2_4 =>
  f_Mod_layNumber_18 fu n_v_written x1 n x2_4 u_3.1 u_3.2
  else none)
theorem f_Mod_layNumber_18_s (fu : Nat) (n_v_written : Nat) (x1 : Int32)  (n : Nat) (y2 : Int32) (v_laid : Int32) (v_written_a : Nat → Int32) : f_Mod_layNumber_18 fu n_v_written x1 (n + 1) y2 v_laid v_written_a =
  (if y2 ≤ 0 then
  some (v_laid, v_written_a)
  else
  if ¬ y2 = 0 then
  (f_Mod_lay n_v_written (48 + ((x1 / y2) - (x1 / y2) / 10 * 10)) v_laid v_written_a).bind fun u_3 =>
  zz_lt (y2 / 10) fun x2_4 =>
  f_Mod_layNumber_18 fu n_v_written x1 n x2_4 u_3.1 u_3.2
  else none) := rfl
def f_Mod_layNumber_2 (fu : Nat) (n_v_written : Nat) (x1 : Int32)  : Nat → Int32 → Int32 → (Nat → Int32) → Option (Int32 × (Nat → Int32))
  | 0, _, _, _ => none
  | n + 1, y2, v_laid, v_written_a =>
  if ¬ y2 = 0 then
  (if (x1 / y2) ≤ 9 then
  f_Mod_layNumber_18 fu n_v_written x1 fu y2 v_laid v_written_a
  else
  zz_lt (y2 * 10) fun x2_5 =>
  f_Mod_layNumber_2 fu n_v_written x1 n x2_5 v_laid v_written_a)
  else none
theorem f_Mod_layNumber_2_s (fu : Nat) (n_v_written : Nat) (x1 : Int32)  (n : Nat) (y2 : Int32) (v_laid : Int32) (v_written_a : Nat → Int32) : f_Mod_layNumber_2 fu n_v_written x1 (n + 1) y2 v_laid v_written_a =
  if ¬ y2 = 0 then
  (if (x1 / y2) ≤ 9 then
  f_Mod_layNumber_18 fu n_v_written x1 fu y2 v_laid v_written_a
  else
  zz_lt (y2 * 10) fun x2_5 =>
  f_Mod_layNumber_2 fu n_v_written x1 n x2_5 v_laid v_written_a)
  else none := rfl
def f_Mod_layNumber (fu : Nat) (n_v_written : Nat) (x1 : Int32) (v_laid : Int32) (v_written_a : Nat → Int32) : Option (Int32 × (Nat → Int32)) :=
  f_Mod_layNumber_2 fu n_v_written x1 fu 1 v_laid v_written_a
set_option maxHeartbeats 4000000 in
set_option maxRecDepth 100000 in
theorem c_Mod_layNumber (l : Launch) (dC : Nat → ClassId) (dI : Nat → Nat → Nat) (cI cC cB cJ : ClassId) (fu : Nat) (sz : Nat) (h_v : Nat) (h_v_written : Nat) (h_v_text : Nat) (h_v_a : Nat) (h_v_b : Nat) (h_v_five : Nat) (h_v_left : Nat) (h_v_right : Nat) (h_v_part : Nat) (n_v_written : Nat) (x1 : Int32) (v_length : Int32) (v_laid : Int32) (v_gone : Int32) (v_thrown : Int32) (v_were : Int32) (v_none : Int32) (v_beyond : Int32) (v_aMany : Int32) (v_bMany : Int32) (v_fiveMany : Int32) (v_leftMany : Int32) (v_rightMany : Int32) (v_partMany : Int32) (v_twos : Int32) (v_at : Int32) (v_digits : Int32) (v_power : Int32) (v_good : Int32) (v_written_a : Nat → Int32) (u : Int32 × (Nat → Int32)) (hf : f_Mod_layNumber fu n_v_written x1 v_laid v_written_a = some u) : Met l y_Mod_layNumber ws_Mod_layNumber rm_Mod_layNumber (zz_P zz_T (dC, dI) vwCl (zz_tys cI cC cB cJ) [.ref h_v, .int x1] [(h_v, .inr (7, [.ref h_v_text, .ref h_v_written, .int v_length, .int v_laid, .int v_gone, .int v_thrown, .int v_were, .int v_none, .int v_beyond, .ref h_v_a, .ref h_v_b, .ref h_v_five, .ref h_v_left, .ref h_v_right, .ref h_v_part, .int v_aMany, .int v_bMany, .int v_fiveMany, .int v_leftMany, .int v_rightMany, .int v_partMany, .int v_twos, .int v_at, .int v_digits, .int v_power, .int v_good])), (h_v_written, .inl (cI, n_v_written, .inl v_written_a))] sz) (zz_Qv (dC, dI) vwCl [(h_v, .inr (7, [.ref h_v_text, .ref h_v_written, .int v_length, .int u.1, .int v_gone, .int v_thrown, .int v_were, .int v_none, .int v_beyond, .ref h_v_a, .ref h_v_b, .ref h_v_five, .ref h_v_left, .ref h_v_right, .ref h_v_part, .int v_aMany, .int v_bMany, .int v_fiveMany, .int v_leftMany, .int v_rightMany, .int v_partMany, .int v_twos, .int v_at, .int v_digits, .int v_power, .int v_good])), (h_v_written, .inl (cI, n_v_written, .inl u.2))] (va_A [(h_v, .inr (7, [.ref h_v_text, .ref h_v_written, .int v_length, .int v_laid, .int v_gone, .int v_thrown, .int v_were, .int v_none, .int v_beyond, .ref h_v_a, .ref h_v_b, .ref h_v_five, .ref h_v_left, .ref h_v_right, .ref h_v_part, .int v_aMany, .int v_bMany, .int v_fiveMany, .int v_leftMany, .int v_rightMany, .int v_partMany, .int v_twos, .int v_at, .int v_digits, .int v_power, .int v_good])), (h_v_written, .inl (cI, n_v_written, .inl v_written_a))] sz)) 0 0 (va_A [(h_v, .inr (7, [.ref h_v_text, .ref h_v_written, .int v_length, .int v_laid, .int v_gone, .int v_thrown, .int v_were, .int v_none, .int v_beyond, .ref h_v_a, .ref h_v_b, .ref h_v_five, .ref h_v_left, .ref h_v_right, .ref h_v_part, .int v_aMany, .int v_bMany, .int v_fiveMany, .int v_leftMany, .int v_rightMany, .int v_partMany, .int v_twos, .int v_at, .int v_digits, .int v_power, .int v_good])), (h_v_written, .inl (cI, n_v_written, .inl v_written_a))] sz) := by
  refine Met.ofW (cc := prog_10_method_34_code) (maxL := 3) (ret := none) (by decide +kernel) rfl ?_
  intro p e s m args below meth c s₁ B hml hv
  obtain ⟨rfl, hsz, hP, hK, hD0, hX⟩ := hv
  have hx := B.exec
  have hb := B.bytes
  have hr := B.returns
  have hts := atoms_spec (ws := ws_Mod_layNumber) B.pre
  have hw : ∀ w ∈ zw, w.before [.ref h_v, .int x1].toArray s = true := fun w h => hts w (List.mem_cons_of_mem _ h)
  have hown : s.vm.findClass R_Mod = some m.cls := findClass_of_methodNamed B.named
  have hlocks := B.notSynchronized
  subst hsz
  have hD := hD0.self (sz := s.heap.size)
  generalize hAe : va_A [(h_v, .inr (7, [.ref h_v_text, .ref h_v_written, .int v_length, .int v_laid, .int v_gone, .int v_thrown, .int v_were, .int v_none, .int v_beyond, .ref h_v_a, .ref h_v_b, .ref h_v_five, .ref h_v_left, .ref h_v_right, .ref h_v_part, .int v_aMany, .int v_bMany, .int v_fiveMany, .int v_leftMany, .int v_rightMany, .int v_partMany, .int v_twos, .int v_at, .int v_digits, .int v_power, .int v_good])), (h_v_written, .inl (cI, n_v_written, .inl v_written_a))] s.heap.size = A at hD hX ⊢
  have hA : ∀ q : Nat, s.heap.size ≤ q → A q := fun q h => by rw [← hAe]; exact Or.inr h
  have hS : va_S A s.heap s.heap [] := va_S.rf
  have hl := lv_entry [.ref h_v, .int x1] (n := 3) (Nat.le_of_ble_eq_true rfl)
  rw [lg_entry_eq]
  generalize (lg_sl [.ref h_v, .int x1] ++ List.replicate (3 - (lg_sl [.ref h_v, .int x1]).length) Slot.unset).toArray = ls at hl ⊢
  have hl : lv_has ls 3 [(0, .ref h_v), (1, .int x1)] := hl
  refine zz_endv hx hb hr hlocks (fun Qq hend => ?_)
  have hL_18 : ∀ (n : Nat), ∀ (y2 : Int32) (v_laid : Int32) (v_written_a : Nat → Int32) (ls : Array Slot) (H : Heap) (locs : List Loc), lv_has ls 3 [(0, .ref h_v), (1, .int x1), (2, .int y2)] → va_P (dC, dI) vwCl [(h_v, .inr (7, [.ref h_v_text, .ref h_v_written, .int v_length, .int v_laid, .int v_gone, .int v_thrown, .int v_were, .int v_none, .int v_beyond, .ref h_v_a, .ref h_v_b, .ref h_v_five, .ref h_v_left, .ref h_v_right, .ref h_v_part, .int v_aMany, .int v_bMany, .int v_fiveMany, .int v_leftMany, .int v_rightMany, .int v_partMany, .int v_twos, .int v_at, .int v_digits, .int v_power, .int v_good])), (h_v_written, .inl (cI, n_v_written, .inl v_written_a))] H → va_D A [(h_v, .inr (7, [.ref h_v_text, .ref h_v_written, .int v_length, .int v_laid, .int v_gone, .int v_thrown, .int v_were, .int v_none, .int v_beyond, .ref h_v_a, .ref h_v_b, .ref h_v_five, .ref h_v_left, .ref h_v_right, .ref h_v_part, .int v_aMany, .int v_bMany, .int v_fiveMany, .int v_leftMany, .int v_rightMany, .int v_partMany, .int v_twos, .int v_at, .int v_digits, .int v_power, .int v_good])), (h_v_written, .inl (cI, n_v_written, .inl v_written_a))] → va_S A s.heap H locs → f_Mod_layNumber_18 fu n_v_written x1 n y2 v_laid v_written_a = some u → W p l e (headSpec ws_Mod_layNumber rm_Mod_layNumber).room s m [.ref h_v, .int x1].toArray below meth c H locs 0 0 Qq (F0 m 18 ls []) := by
    intro n
    induction n with
    | zero =>
      intro y2 v_laid v_written_a ls H locs hl hP hD hS hf
      exact zz_no hf
    | succ n ih =>
      intro y2 v_laid v_written_a ls H locs hl hP hD hS hf
      rw [f_Mod_layNumber_18_s] at hf
      refine lv_iload_n hx hb d_Mod_layNumber_18 rfl (lv_at hl 2 rfl) ?_
      refine lv_if_le (tgt := 43) hx hb d_Mod_layNumber_19 (by decide) (fun hc => ?_) (fun hc => ?_)
      · have hf := zz_ifp hc hf
        cases hf
        exact hend 43 ls _ _ d_Mod_layNumber_43 hP hD hS
      · have hf := zz_ifn hc hf
        refine lv_aload_n hx hb d_Mod_layNumber_22 rfl (lv_at hl 0 rfl) ?_
        refine lv_bipush (v := 48) hx hb d_Mod_layNumber_23 (by decide) ?_
        refine lv_iload_n hx hb d_Mod_layNumber_25 rfl (lv_at hl 1 rfl) ?_
        refine lv_iload_n hx hb d_Mod_layNumber_26 rfl (lv_at hl 2 rfl) ?_
        obtain ⟨hz_2, hf⟩ := zz_gd hf
        refine lv_idiv hx hb d_Mod_layNumber_27 hz_2 ?_
        refine lv_bipush (v := 10) hx hb d_Mod_layNumber_28 (by decide) ?_
        refine lv_irem hx hb d_Mod_layNumber_30 (by decide) ?_
        refine lv_iadd hx hb d_Mod_layNumber_31 ?_
        obtain ⟨u_3, hu_3, hf⟩ := zz_bd hf
        refine zz_cv (ws' := [(h_v, .inr (7, [.ref h_v_text, .ref h_v_written, .int v_length, .int u_3.1, .int v_gone, .int v_thrown, .int v_were, .int v_none, .int v_beyond, .ref h_v_a, .ref h_v_b, .ref h_v_five, .ref h_v_left, .ref h_v_right, .ref h_v_part, .int v_aMany, .int v_bMany, .int v_fiveMany, .int v_leftMany, .int v_rightMany, .int v_partMany, .int v_twos, .int v_at, .int v_digits, .int v_power, .int v_good])), (h_v_written, .inl (cI, n_v_written, .inl u_3.2))]) (wc := [(h_v, .inr (7, [.ref h_v_text, .ref h_v_written, .int v_length, .int v_laid, .int v_gone, .int v_thrown, .int v_were, .int v_none, .int v_beyond, .ref h_v_a, .ref h_v_b, .ref h_v_five, .ref h_v_left, .ref h_v_right, .ref h_v_part, .int v_aMany, .int v_bMany, .int v_fiveMany, .int v_leftMany, .int v_rightMany, .int v_partMany, .int v_twos, .int v_at, .int v_digits, .int v_power, .int v_good])), (h_v_written, .inl (cI, n_v_written, .inl v_written_a))]) (w' := [(h_v, .inr (7, [.ref h_v_text, .ref h_v_written, .int v_length, .int u_3.1, .int v_gone, .int v_thrown, .int v_were, .int v_none, .int v_beyond, .ref h_v_a, .ref h_v_b, .ref h_v_five, .ref h_v_left, .ref h_v_right, .ref h_v_part, .int v_aMany, .int v_bMany, .int v_fiveMany, .int v_leftMany, .int v_rightMany, .int v_partMany, .int v_twos, .int v_at, .int v_digits, .int v_power, .int v_good])), (h_v_written, .inl (cI, n_v_written, .inl u_3.2))]) hP hD hS hA [0, 1] [] [0, 1] rfl rfl (by decide) (by decide) rfl (by decide) (va_runV (As := [.int (48 + ((x1 / y2) - (x1 / y2) / 10 * 10))]) (rest := []) ⟨hx, hb, hml, hown, hw⟩ (c_Mod_lay l dC dI cI cC cB cJ _ h_v h_v_written h_v_text h_v_a h_v_b h_v_five h_v_left h_v_right h_v_part n_v_written (48 + ((x1 / y2) - (x1 / y2) / 10 * 10)) v_length v_laid v_gone v_thrown v_were v_none v_beyond v_aMany v_bMany v_fiveMany v_leftMany v_rightMany v_partMany v_twos v_at v_digits v_power v_good v_written_a u_3 hu_3) (cwV 1 hw (zg_V wd_856 wd_858 we_2_5 wd_8 wd_859) rfl rfl rfl hd_Mod_lay ⟨Nat.le_of_ble_eq_true rfl, Nat.le_of_ble_eq_true rfl⟩) (zz_preV zz_TE (va_recv (q0 := 0) (ci := 7) hK hP rfl rfl) hP hD hK hS hA trivial [0, 1] rfl (by decide)) rfl rfl hl.1 rfl (lv_room (Nat.le_of_ble_eq_true rfl)) d_Mod_layNumber_32 ⟨Nat.zero_le _, Nat.zero_le _⟩) (fun H locs hP hD hS => ?_)
        refine lv_iload_n hx hb d_Mod_layNumber_35 rfl (lv_at hl 2 rfl) ?_
        refine lv_bipush (v := 10) hx hb d_Mod_layNumber_36 (by decide) ?_
        refine lv_idiv hx hb d_Mod_layNumber_38 (by decide) ?_
        refine lv_topi (fun x2_4 e_x2_4 => ?_)
        have hf := zz_ltp hf x2_4 e_x2_4
        refine lv_istore_n hx hb d_Mod_layNumber_39 rfl hl (by decide) rfl (fun ls hl => ?_)
        have hl : lv_has ls 3 [(2, .int x2_4), (0, .ref h_v), (1, .int x1)] := hl
        refine lv_goto (tgt := 18) hx hb d_Mod_layNumber_40 (by decide) ?_
        exact ih x2_4 u_3.1 u_3.2 ls _ _ (lv_sub hl [1, 2, 0] rfl) hP hD hS hf
  have hL_2 : ∀ (n : Nat), ∀ (y2 : Int32) (v_laid : Int32) (v_written_a : Nat → Int32) (ls : Array Slot) (H : Heap) (locs : List Loc), lv_has ls 3 [(0, .ref h_v), (1, .int x1), (2, .int y2)] → va_P (dC, dI) vwCl [(h_v, .inr (7, [.ref h_v_text, .ref h_v_written, .int v_length, .int v_laid, .int v_gone, .int v_thrown, .int v_were, .int v_none, .int v_beyond, .ref h_v_a, .ref h_v_b, .ref h_v_five, .ref h_v_left, .ref h_v_right, .ref h_v_part, .int v_aMany, .int v_bMany, .int v_fiveMany, .int v_leftMany, .int v_rightMany, .int v_partMany, .int v_twos, .int v_at, .int v_digits, .int v_power, .int v_good])), (h_v_written, .inl (cI, n_v_written, .inl v_written_a))] H → va_D A [(h_v, .inr (7, [.ref h_v_text, .ref h_v_written, .int v_length, .int v_laid, .int v_gone, .int v_thrown, .int v_were, .int v_none, .int v_beyond, .ref h_v_a, .ref h_v_b, .ref h_v_five, .ref h_v_left, .ref h_v_right, .ref h_v_part, .int v_aMany, .int v_bMany, .int v_fiveMany, .int v_leftMany, .int v_rightMany, .int v_partMany, .int v_twos, .int v_at, .int v_digits, .int v_power, .int v_good])), (h_v_written, .inl (cI, n_v_written, .inl v_written_a))] → va_S A s.heap H locs → f_Mod_layNumber_2 fu n_v_written x1 n y2 v_laid v_written_a = some u → W p l e (headSpec ws_Mod_layNumber rm_Mod_layNumber).room s m [.ref h_v, .int x1].toArray below meth c H locs 0 0 Qq (F0 m 2 ls []) := by
    intro n
    induction n with
    | zero =>
      intro y2 v_laid v_written_a ls H locs hl hP hD hS hf
      exact zz_no hf
    | succ n ih =>
      intro y2 v_laid v_written_a ls H locs hl hP hD hS hf
      rw [f_Mod_layNumber_2_s] at hf
      refine lv_iload_n hx hb d_Mod_layNumber_2 rfl (lv_at hl 1 rfl) ?_
      refine lv_iload_n hx hb d_Mod_layNumber_3 rfl (lv_at hl 2 rfl) ?_
      obtain ⟨hz_1, hf⟩ := zz_gd hf
      refine lv_idiv hx hb d_Mod_layNumber_4 hz_1 ?_
      refine lv_bipush (v := 9) hx hb d_Mod_layNumber_5 (by decide) ?_
      refine lv_icmp_le (tgt := 18) hx hb d_Mod_layNumber_7 (by decide) (fun hc => ?_) (fun hc => ?_)
      · have hf := zz_ifp hc hf
        exact hL_18 fu y2 v_laid v_written_a ls _ _ (lv_sub hl [0, 1, 2] rfl) hP hD hS hf
      · have hf := zz_ifn hc hf
        refine lv_iload_n hx hb d_Mod_layNumber_10 rfl (lv_at hl 2 rfl) ?_
        refine lv_bipush (v := 10) hx hb d_Mod_layNumber_11 (by decide) ?_
        refine lv_imul hx hb d_Mod_layNumber_13 ?_
        refine lv_topi (fun x2_5 e_x2_5 => ?_)
        have hf := zz_ltp hf x2_5 e_x2_5
        refine lv_istore_n hx hb d_Mod_layNumber_14 rfl hl (by decide) rfl (fun ls hl => ?_)
        have hl : lv_has ls 3 [(2, .int x2_5), (0, .ref h_v), (1, .int x1)] := hl
        refine lv_goto (tgt := 2) hx hb d_Mod_layNumber_15 (by decide) ?_
        exact ih x2_5 v_laid v_written_a ls _ _ (lv_sub hl [1, 2, 0] rfl) hP hD hS hf
  unfold f_Mod_layNumber at hf
  refine lv_iconst (v := 1) hx hb d_Mod_layNumber_0 (by decide) ?_
  refine lv_istore_n hx hb d_Mod_layNumber_1 rfl hl (by decide) rfl (fun ls hl => ?_)
  have hl : lv_has ls 3 [(2, .int 1), (0, .ref h_v), (1, .int x1)] := hl
  exact hL_2 fu 1 v_laid v_written_a ls _ _ (lv_sub hl [1, 2, 0] rfl) hP hD hS hf
abbrev ws_Mod_layDecimal : List Cond := .code y_Mod_layDecimal prog_10_method_35_code 10 none :: zw
abbrev rm_Mod_layDecimal : Room := { frames := 7, cells := 0, slots := 0, locals := 191 }
theorem hd_Mod_layDecimal : y_Mod_layDecimal.cls = "RealTextModel" ∧ y_Mod_layDecimal.cls ≠ "java/lang/invoke/MethodHandle" ∧ y_Mod_layDecimal.cls ≠ "java/lang/invoke/VarHandle" ∧ (parseMethodDescriptor y_Mod_layDecimal.desc).map (fun d => d.parameters.length) = some 2 := by decide +kernel
theorem d_Mod_layDecimal_0 : decode prog_10_method_35_code 0 = .ok (.aload_n 0, 1) := by decide +kernel
theorem d_Mod_layDecimal_1 : decode prog_10_method_35_code 1 = .ok (.lload_n 1, 1) := by decide +kernel
theorem d_Mod_layDecimal_2 : decode prog_10_method_35_code 2 = .ok (.iload_n 3, 1) := by decide +kernel
theorem d_Mod_layDecimal_3 : decode prog_10_method_35_code 3 = .ok (.invokevirtual 200, 3) := by decide +kernel
theorem d_Mod_layDecimal_6 : decode prog_10_method_35_code 6 = .ok (.lstore 4, 2) := by decide +kernel
theorem d_Mod_layDecimal_8 : decode prog_10_method_35_code 8 = .ok (.aload_n 0, 1) := by decide +kernel
theorem d_Mod_layDecimal_9 : decode prog_10_method_35_code 9 = .ok (.getfield 127, 3) := by decide +kernel
theorem d_Mod_layDecimal_12 : decode prog_10_method_35_code 12 = .ok (.istore 6, 2) := by decide +kernel
theorem d_Mod_layDecimal_14 : decode prog_10_method_35_code 14 = .ok (.lload 4, 2) := by decide +kernel
theorem d_Mod_layDecimal_16 : decode prog_10_method_35_code 16 = .ok (.ldc2_w 182, 3) := by decide +kernel
theorem d_Mod_layDecimal_19 : decode prog_10_method_35_code 19 = .ok (.lrem, 1) := by decide +kernel
theorem d_Mod_layDecimal_20 : decode prog_10_method_35_code 20 = .ok (.lconst 0, 1) := by decide +kernel
theorem d_Mod_layDecimal_21 : decode prog_10_method_35_code 21 = .ok (.lcmp, 1) := by decide +kernel
theorem d_Mod_layDecimal_22 : decode prog_10_method_35_code 22 = .ok (.ifCond .ne 17, 3) := by decide +kernel
theorem d_Mod_layDecimal_25 : decode prog_10_method_35_code 25 = .ok (.lload 4, 2) := by decide +kernel
theorem d_Mod_layDecimal_27 : decode prog_10_method_35_code 27 = .ok (.ldc2_w 182, 3) := by decide +kernel
theorem d_Mod_layDecimal_30 : decode prog_10_method_35_code 30 = .ok (.ldiv, 1) := by decide +kernel
theorem d_Mod_layDecimal_31 : decode prog_10_method_35_code 31 = .ok (.lstore 4, 2) := by decide +kernel
theorem d_Mod_layDecimal_33 : decode prog_10_method_35_code 33 = .ok (.iinc 6 1, 3) := by decide +kernel
theorem d_Mod_layDecimal_36 : decode prog_10_method_35_code 36 = .ok (.goto (-22), 3) := by decide +kernel
theorem d_Mod_layDecimal_39 : decode prog_10_method_35_code 39 = .ok (.iconst 1, 1) := by decide +kernel
theorem d_Mod_layDecimal_40 : decode prog_10_method_35_code 40 = .ok (.istore 7, 2) := by decide +kernel
theorem d_Mod_layDecimal_42 : decode prog_10_method_35_code 42 = .ok (.lload 4, 2) := by decide +kernel
theorem d_Mod_layDecimal_44 : decode prog_10_method_35_code 44 = .ok (.lstore 8, 2) := by decide +kernel
theorem d_Mod_layDecimal_46 : decode prog_10_method_35_code 46 = .ok (.lload 8, 2) := by decide +kernel
theorem d_Mod_layDecimal_48 : decode prog_10_method_35_code 48 = .ok (.ldc2_w 203, 3) := by decide +kernel
theorem d_Mod_layDecimal_51 : decode prog_10_method_35_code 51 = .ok (.lcmp, 1) := by decide +kernel
theorem d_Mod_layDecimal_52 : decode prog_10_method_35_code 52 = .ok (.ifCond .le 17, 3) := by decide +kernel
theorem d_Mod_layDecimal_55 : decode prog_10_method_35_code 55 = .ok (.iinc 7 1, 3) := by decide +kernel
theorem d_Mod_layDecimal_58 : decode prog_10_method_35_code 58 = .ok (.lload 8, 2) := by decide +kernel
theorem d_Mod_layDecimal_60 : decode prog_10_method_35_code 60 = .ok (.ldc2_w 182, 3) := by decide +kernel
theorem d_Mod_layDecimal_63 : decode prog_10_method_35_code 63 = .ok (.ldiv, 1) := by decide +kernel
theorem d_Mod_layDecimal_64 : decode prog_10_method_35_code 64 = .ok (.lstore 8, 2) := by decide +kernel
theorem d_Mod_layDecimal_66 : decode prog_10_method_35_code 66 = .ok (.goto (-20), 3) := by decide +kernel
theorem d_Mod_layDecimal_69 : decode prog_10_method_35_code 69 = .ok (.iload 6, 2) := by decide +kernel
theorem d_Mod_layDecimal_71 : decode prog_10_method_35_code 71 = .ok (.iload 7, 2) := by decide +kernel
theorem d_Mod_layDecimal_73 : decode prog_10_method_35_code 73 = .ok (.iadd, 1) := by decide +kernel
theorem d_Mod_layDecimal_74 : decode prog_10_method_35_code 74 = .ok (.iconst 1, 1) := by decide +kernel
theorem d_Mod_layDecimal_75 : decode prog_10_method_35_code 75 = .ok (.isub, 1) := by decide +kernel
theorem d_Mod_layDecimal_76 : decode prog_10_method_35_code 76 = .ok (.istore 8, 2) := by decide +kernel
theorem d_Mod_layDecimal_78 : decode prog_10_method_35_code 78 = .ok (.iload 8, 2) := by decide +kernel
theorem d_Mod_layDecimal_80 : decode prog_10_method_35_code 80 = .ok (.iconst 0, 1) := by decide +kernel
theorem d_Mod_layDecimal_81 : decode prog_10_method_35_code 81 = .ok (.bipush 6, 2) := by decide +kernel
theorem d_Mod_layDecimal_83 : decode prog_10_method_35_code 83 = .ok (.invokestatic 38, 3) := by decide +kernel
theorem d_Mod_layDecimal_86 : decode prog_10_method_35_code 86 = .ok (.ifCond .eq 55, 3) := by decide +kernel
theorem d_Mod_layDecimal_89 : decode prog_10_method_35_code 89 = .ok (.aload_n 0, 1) := by decide +kernel
theorem d_Mod_layDecimal_90 : decode prog_10_method_35_code 90 = .ok (.lload 4, 2) := by decide +kernel
theorem d_Mod_layDecimal_92 : decode prog_10_method_35_code 92 = .ok (.iconst 0, 1) := by decide +kernel
theorem d_Mod_layDecimal_93 : decode prog_10_method_35_code 93 = .ok (.iload 8, 2) := by decide +kernel
theorem d_Mod_layDecimal_95 : decode prog_10_method_35_code 95 = .ok (.iconst 1, 1) := by decide +kernel
theorem d_Mod_layDecimal_96 : decode prog_10_method_35_code 96 = .ok (.iadd, 1) := by decide +kernel
theorem d_Mod_layDecimal_97 : decode prog_10_method_35_code 97 = .ok (.iload 7, 2) := by decide +kernel
theorem d_Mod_layDecimal_99 : decode prog_10_method_35_code 99 = .ok (.invokevirtual 205, 3) := by decide +kernel
theorem d_Mod_layDecimal_102 : decode prog_10_method_35_code 102 = .ok (.aload_n 0, 1) := by decide +kernel
theorem d_Mod_layDecimal_103 : decode prog_10_method_35_code 103 = .ok (.bipush 46, 2) := by decide +kernel
theorem d_Mod_layDecimal_105 : decode prog_10_method_35_code 105 = .ok (.invokevirtual 197, 3) := by decide +kernel
theorem d_Mod_layDecimal_108 : decode prog_10_method_35_code 108 = .ok (.aload_n 0, 1) := by decide +kernel
theorem d_Mod_layDecimal_109 : decode prog_10_method_35_code 109 = .ok (.lload 4, 2) := by decide +kernel
theorem d_Mod_layDecimal_111 : decode prog_10_method_35_code 111 = .ok (.iload 8, 2) := by decide +kernel
theorem d_Mod_layDecimal_113 : decode prog_10_method_35_code 113 = .ok (.iconst 1, 1) := by decide +kernel
theorem d_Mod_layDecimal_114 : decode prog_10_method_35_code 114 = .ok (.iadd, 1) := by decide +kernel
theorem d_Mod_layDecimal_115 : decode prog_10_method_35_code 115 = .ok (.iload 7, 2) := by decide +kernel
theorem d_Mod_layDecimal_117 : decode prog_10_method_35_code 117 = .ok (.iload 8, 2) := by decide +kernel
theorem d_Mod_layDecimal_119 : decode prog_10_method_35_code 119 = .ok (.iconst 1, 1) := by decide +kernel
theorem d_Mod_layDecimal_120 : decode prog_10_method_35_code 120 = .ok (.iadd, 1) := by decide +kernel
theorem d_Mod_layDecimal_121 : decode prog_10_method_35_code 121 = .ok (.if_icmp .le 8, 3) := by decide +kernel
theorem d_Mod_layDecimal_124 : decode prog_10_method_35_code 124 = .ok (.iload 7, 2) := by decide +kernel
theorem d_Mod_layDecimal_126 : decode prog_10_method_35_code 126 = .ok (.goto 7, 3) := by decide +kernel
theorem d_Mod_layDecimal_129 : decode prog_10_method_35_code 129 = .ok (.iload 8, 2) := by decide +kernel
theorem d_Mod_layDecimal_131 : decode prog_10_method_35_code 131 = .ok (.iconst 2, 1) := by decide +kernel
theorem d_Mod_layDecimal_132 : decode prog_10_method_35_code 132 = .ok (.iadd, 1) := by decide +kernel
theorem d_Mod_layDecimal_133 : decode prog_10_method_35_code 133 = .ok (.iload 7, 2) := by decide +kernel
theorem d_Mod_layDecimal_135 : decode prog_10_method_35_code 135 = .ok (.invokevirtual 205, 3) := by decide +kernel
theorem d_Mod_layDecimal_138 : decode prog_10_method_35_code 138 = .ok (.goto 133, 3) := by decide +kernel
theorem d_Mod_layDecimal_141 : decode prog_10_method_35_code 141 = .ok (.iload 8, 2) := by decide +kernel
theorem d_Mod_layDecimal_143 : decode prog_10_method_35_code 143 = .ok (.bipush (-3), 2) := by decide +kernel
theorem d_Mod_layDecimal_145 : decode prog_10_method_35_code 145 = .ok (.iconst (-1), 1) := by decide +kernel
theorem d_Mod_layDecimal_146 : decode prog_10_method_35_code 146 = .ok (.invokestatic 38, 3) := by decide +kernel
theorem d_Mod_layDecimal_149 : decode prog_10_method_35_code 149 = .ok (.ifCond .eq 51, 3) := by decide +kernel
theorem d_Mod_layDecimal_152 : decode prog_10_method_35_code 152 = .ok (.aload_n 0, 1) := by decide +kernel
theorem d_Mod_layDecimal_153 : decode prog_10_method_35_code 153 = .ok (.bipush 48, 2) := by decide +kernel
theorem d_Mod_layDecimal_155 : decode prog_10_method_35_code 155 = .ok (.invokevirtual 197, 3) := by decide +kernel
theorem d_Mod_layDecimal_158 : decode prog_10_method_35_code 158 = .ok (.aload_n 0, 1) := by decide +kernel
theorem d_Mod_layDecimal_159 : decode prog_10_method_35_code 159 = .ok (.bipush 46, 2) := by decide +kernel
theorem d_Mod_layDecimal_161 : decode prog_10_method_35_code 161 = .ok (.invokevirtual 197, 3) := by decide +kernel
theorem d_Mod_layDecimal_164 : decode prog_10_method_35_code 164 = .ok (.iload 8, 2) := by decide +kernel
theorem d_Mod_layDecimal_166 : decode prog_10_method_35_code 166 = .ok (.istore 9, 2) := by decide +kernel
theorem d_Mod_layDecimal_168 : decode prog_10_method_35_code 168 = .ok (.iload 9, 2) := by decide +kernel
theorem d_Mod_layDecimal_170 : decode prog_10_method_35_code 170 = .ok (.iconst (-1), 1) := by decide +kernel
theorem d_Mod_layDecimal_171 : decode prog_10_method_35_code 171 = .ok (.if_icmp .ge 15, 3) := by decide +kernel
theorem d_Mod_layDecimal_174 : decode prog_10_method_35_code 174 = .ok (.aload_n 0, 1) := by decide +kernel
theorem d_Mod_layDecimal_175 : decode prog_10_method_35_code 175 = .ok (.bipush 48, 2) := by decide +kernel
theorem d_Mod_layDecimal_177 : decode prog_10_method_35_code 177 = .ok (.invokevirtual 197, 3) := by decide +kernel
theorem d_Mod_layDecimal_180 : decode prog_10_method_35_code 180 = .ok (.iinc 9 1, 3) := by decide +kernel
theorem d_Mod_layDecimal_183 : decode prog_10_method_35_code 183 = .ok (.goto (-15), 3) := by decide +kernel
theorem d_Mod_layDecimal_186 : decode prog_10_method_35_code 186 = .ok (.aload_n 0, 1) := by decide +kernel
theorem d_Mod_layDecimal_187 : decode prog_10_method_35_code 187 = .ok (.lload 4, 2) := by decide +kernel
theorem d_Mod_layDecimal_189 : decode prog_10_method_35_code 189 = .ok (.iconst 0, 1) := by decide +kernel
theorem d_Mod_layDecimal_190 : decode prog_10_method_35_code 190 = .ok (.iload 7, 2) := by decide +kernel
theorem d_Mod_layDecimal_192 : decode prog_10_method_35_code 192 = .ok (.iload 7, 2) := by decide +kernel
theorem d_Mod_layDecimal_194 : decode prog_10_method_35_code 194 = .ok (.invokevirtual 205, 3) := by decide +kernel
theorem d_Mod_layDecimal_197 : decode prog_10_method_35_code 197 = .ok (.goto 74, 3) := by decide +kernel
theorem d_Mod_layDecimal_200 : decode prog_10_method_35_code 200 = .ok (.aload_n 0, 1) := by decide +kernel
theorem d_Mod_layDecimal_201 : decode prog_10_method_35_code 201 = .ok (.lload 4, 2) := by decide +kernel
theorem d_Mod_layDecimal_203 : decode prog_10_method_35_code 203 = .ok (.iconst 0, 1) := by decide +kernel
theorem d_Mod_layDecimal_204 : decode prog_10_method_35_code 204 = .ok (.iconst 1, 1) := by decide +kernel
theorem d_Mod_layDecimal_205 : decode prog_10_method_35_code 205 = .ok (.iload 7, 2) := by decide +kernel
theorem d_Mod_layDecimal_207 : decode prog_10_method_35_code 207 = .ok (.invokevirtual 205, 3) := by decide +kernel
theorem d_Mod_layDecimal_210 : decode prog_10_method_35_code 210 = .ok (.aload_n 0, 1) := by decide +kernel
theorem d_Mod_layDecimal_211 : decode prog_10_method_35_code 211 = .ok (.bipush 46, 2) := by decide +kernel
theorem d_Mod_layDecimal_213 : decode prog_10_method_35_code 213 = .ok (.invokevirtual 197, 3) := by decide +kernel
theorem d_Mod_layDecimal_216 : decode prog_10_method_35_code 216 = .ok (.aload_n 0, 1) := by decide +kernel
theorem d_Mod_layDecimal_217 : decode prog_10_method_35_code 217 = .ok (.lload 4, 2) := by decide +kernel
theorem d_Mod_layDecimal_219 : decode prog_10_method_35_code 219 = .ok (.iconst 1, 1) := by decide +kernel
theorem d_Mod_layDecimal_220 : decode prog_10_method_35_code 220 = .ok (.iload 7, 2) := by decide +kernel
theorem d_Mod_layDecimal_222 : decode prog_10_method_35_code 222 = .ok (.iconst 1, 1) := by decide +kernel
theorem d_Mod_layDecimal_223 : decode prog_10_method_35_code 223 = .ok (.if_icmp .le 8, 3) := by decide +kernel
theorem d_Mod_layDecimal_226 : decode prog_10_method_35_code 226 = .ok (.iload 7, 2) := by decide +kernel
theorem d_Mod_layDecimal_228 : decode prog_10_method_35_code 228 = .ok (.goto 4, 3) := by decide +kernel
theorem d_Mod_layDecimal_231 : decode prog_10_method_35_code 231 = .ok (.iconst 2, 1) := by decide +kernel
theorem d_Mod_layDecimal_232 : decode prog_10_method_35_code 232 = .ok (.iload 7, 2) := by decide +kernel
theorem d_Mod_layDecimal_234 : decode prog_10_method_35_code 234 = .ok (.invokevirtual 205, 3) := by decide +kernel
theorem d_Mod_layDecimal_237 : decode prog_10_method_35_code 237 = .ok (.aload_n 0, 1) := by decide +kernel
theorem d_Mod_layDecimal_238 : decode prog_10_method_35_code 238 = .ok (.bipush 69, 2) := by decide +kernel
theorem d_Mod_layDecimal_240 : decode prog_10_method_35_code 240 = .ok (.invokevirtual 197, 3) := by decide +kernel
theorem d_Mod_layDecimal_243 : decode prog_10_method_35_code 243 = .ok (.iload 8, 2) := by decide +kernel
theorem d_Mod_layDecimal_245 : decode prog_10_method_35_code 245 = .ok (.ifCond .ge 9, 3) := by decide +kernel
theorem d_Mod_layDecimal_248 : decode prog_10_method_35_code 248 = .ok (.aload_n 0, 1) := by decide +kernel
theorem d_Mod_layDecimal_249 : decode prog_10_method_35_code 249 = .ok (.bipush 45, 2) := by decide +kernel
theorem d_Mod_layDecimal_251 : decode prog_10_method_35_code 251 = .ok (.invokevirtual 197, 3) := by decide +kernel
theorem d_Mod_layDecimal_254 : decode prog_10_method_35_code 254 = .ok (.aload_n 0, 1) := by decide +kernel
theorem d_Mod_layDecimal_255 : decode prog_10_method_35_code 255 = .ok (.iload 8, 2) := by decide +kernel
theorem d_Mod_layDecimal_257 : decode prog_10_method_35_code 257 = .ok (.ifCond .ge 9, 3) := by decide +kernel
theorem d_Mod_layDecimal_260 : decode prog_10_method_35_code 260 = .ok (.iload 8, 2) := by decide +kernel
theorem d_Mod_layDecimal_262 : decode prog_10_method_35_code 262 = .ok (.ineg, 1) := by decide +kernel
theorem d_Mod_layDecimal_263 : decode prog_10_method_35_code 263 = .ok (.goto 5, 3) := by decide +kernel
theorem d_Mod_layDecimal_266 : decode prog_10_method_35_code 266 = .ok (.iload 8, 2) := by decide +kernel
theorem d_Mod_layDecimal_268 : decode prog_10_method_35_code 268 = .ok (.invokevirtual 209, 3) := by decide +kernel
theorem d_Mod_layDecimal_271 : decode prog_10_method_35_code 271 = .ok (.return_, 1) := by decide +kernel
def f_Mod_layDecimal_268 (fu : Nat) (n_v_written : Nat) (n_v_a : Nat) (n_v_b : Nat) (n_v_five : Nat) (n_v_left : Nat) (n_v_right : Nat) (x1 : Int64) (x3 : Int32)  (k1 : Int32) (v_laid : Int32) (v_aMany : Int32) (v_bMany : Int32) (v_fiveMany : Int32) (v_leftMany : Int32) (v_rightMany : Int32) (v_twos : Int32) (v_power : Int32) (v_written_a : Nat → Int32) (v_a_a : Nat → Int32) (v_b_a : Nat → Int32) (v_five_a : Nat → Int32) (v_left_a : Nat → Int32) (v_right_a : Nat → Int32) : Option (Int32 × Int32 × Int32 × Int32 × Int32 × Int32 × Int32 × Int32 × (Nat → Int32) × (Nat → Int32) × (Nat → Int32) × (Nat → Int32) × (Nat → Int32) × (Nat → Int32)) :=
  (f_Mod_layNumber fu n_v_written k1 v_laid v_written_a).bind fun u_9 =>
  some (u_9.1, v_aMany, v_bMany, v_fiveMany, v_leftMany, v_rightMany, v_twos, v_power, u_9.2, v_a_a, v_b_a, v_five_a, v_left_a, v_right_a)
def f_Mod_layDecimal_254 (fu : Nat) (n_v_written : Nat) (n_v_a : Nat) (n_v_b : Nat) (n_v_five : Nat) (n_v_left : Nat) (n_v_right : Nat) (x1 : Int64) (x3 : Int32)  (y8 : Int32) (v_laid : Int32) (v_aMany : Int32) (v_bMany : Int32) (v_fiveMany : Int32) (v_leftMany : Int32) (v_rightMany : Int32) (v_twos : Int32) (v_power : Int32) (v_written_a : Nat → Int32) (v_a_a : Nat → Int32) (v_b_a : Nat → Int32) (v_five_a : Nat → Int32) (v_left_a : Nat → Int32) (v_right_a : Nat → Int32) : Option (Int32 × Int32 × Int32 × Int32 × Int32 × Int32 × Int32 × Int32 × (Nat → Int32) × (Nat → Int32) × (Nat → Int32) × (Nat → Int32) × (Nat → Int32) × (Nat → Int32)) :=
  (if 0 ≤ y8 then
  f_Mod_layDecimal_268 fu n_v_written n_v_a n_v_b n_v_five n_v_left n_v_right x1 x3 y8 v_laid v_aMany v_bMany v_fiveMany v_leftMany v_rightMany v_twos v_power v_written_a v_a_a v_b_a v_five_a v_left_a v_right_a
  else
  f_Mod_layDecimal_268 fu n_v_written n_v_a n_v_b n_v_five n_v_left n_v_right x1 x3 (-y8) v_laid v_aMany v_bMany v_fiveMany v_leftMany v_rightMany v_twos v_power v_written_a v_a_a v_b_a v_five_a v_left_a v_right_a)
def f_Mod_layDecimal_232 (fu : Nat) (n_v_written : Nat) (n_v_a : Nat) (n_v_b : Nat) (n_v_five : Nat) (n_v_left : Nat) (n_v_right : Nat) (x1 : Int64) (x3 : Int32)  (y7 : Int32) (y8 : Int32) (k1 : Int64) (k2 : Int32) (k3 : Int32) (v_laid : Int32) (v_aMany : Int32) (v_bMany : Int32) (v_fiveMany : Int32) (v_leftMany : Int32) (v_rightMany : Int32) (v_twos : Int32) (v_power : Int32) (v_written_a : Nat → Int32) (v_a_a : Nat → Int32) (v_b_a : Nat → Int32) (v_five_a : Nat → Int32) (v_left_a : Nat → Int32) (v_right_a : Nat → Int32) : Option (Int32 × Int32 × Int32 × Int32 × Int32 × Int32 × Int32 × Int32 × (Nat → Int32) × (Nat → Int32) × (Nat → Int32) × (Nat → Int32) × (Nat → Int32) × (Nat → Int32)) :=
  (f_Mod_layDigits fu n_v_written k1 k2 k3 y7 v_laid v_written_a).bind fun u_7 =>
  (f_Mod_lay n_v_written 69 u_7.1 u_7.2).bind fun u_8 =>
  (if 0 ≤ y8 then
  f_Mod_layDecimal_254 fu n_v_written n_v_a n_v_b n_v_five n_v_left n_v_right x1 x3 y8 u_8.1 v_aMany v_bMany v_fiveMany v_leftMany v_rightMany v_twos v_power u_8.2 v_a_a v_b_a v_five_a v_left_a v_right_a
  else
  (f_Mod_lay n_v_written 45 u_8.1 u_8.2).bind fun u_10 =>
  f_Mod_layDecimal_254 fu n_v_written n_v_a n_v_b n_v_five n_v_left n_v_right x1 x3 y8 u_10.1 v_aMany v_bMany v_fiveMany v_leftMany v_rightMany v_twos v_power u_10.2 v_a_a v_b_a v_five_a v_left_a v_right_a)
def f_Mod_layDecimal_168 (fu : Nat) (n_v_written : Nat) (n_v_a : Nat) (n_v_b : Nat) (n_v_five : Nat) (n_v_left : Nat) (n_v_right : Nat) (x1 : Int64) (x3 : Int32)  : Nat → Int64 → Int32 → Int32 → Int32 → Int32 → Int32 → Int32 → Int32 → Int32 → Int32 → Int32 → (Nat → Int32) → (Nat → Int32) → (Nat → Int32) → (Nat → Int32) → (Nat → Int32) → (Nat → Int32) → Option (Int32 × Int32 × Int32 × Int32 × Int32 × Int32 × Int32 × Int32 × (Nat → Int32) × (Nat → Int32) × (Nat → Int32) × (Nat → Int32) × (Nat → Int32) × (Nat → Int32))
  | 0, _, _, _, _, _, _, _, _, _, _, _, _, _, _, _, _, _ => none
  | n + 1, y4, y7, y9, v_laid, v_aMany, v_bMany, v_fiveMany, v_leftMany, v_rightMany, v_twos, v_power, v_written_a, v_a_a, v_b_a, v_five_a, v_left_a, v_right_a =>
  (if (-1) ≤ y9 then
  (f_Mod_layDigits fu n_v_written y4 0 y7 y7 v_laid v_written_a).bind fun u_13 =>
  some (u_13.1, v_aMany, v_bMany, v_fiveMany, v_leftMany, v_rightMany, v_twos, v_power, u_13.2, v_a_a, v_b_a, v_five_a, v_left_a, v_right_a)
  else
  (f_Mod_lay n_v_written 48 v_laid v_written_a).bind fun u_14 =>
  f_Mod_layDecimal_168 fu n_v_written n_v_a n_v_b n_v_five n_v_left n_v_right x1 x3 n y4 y7 (y9 + 1) u_14.1 v_aMany v_bMany v_fiveMany v_leftMany v_rightMany v_twos v_power u_14.2 v_a_a v_b_a v_five_a v_left_a v_right_a)
theorem f_Mod_layDecimal_168_s (fu : Nat) (n_v_written : Nat) (n_v_a : Nat) (n_v_b : Nat) (n_v_five : Nat) (n_v_left : Nat) (n_v_right : Nat) (x1 : Int64) (x3 : Int32)  (n : Nat) (y4 : Int64) (y7 : Int32) (y9 : Int32) (v_laid : Int32) (v_aMany : Int32) (v_bMany : Int32) (v_fiveMany : Int32) (v_leftMany : Int32) (v_rightMany : Int32) (v_twos : Int32) (v_power : Int32) (v_written_a : Nat → Int32) (v_a_a : Nat → Int32) (v_b_a : Nat → Int32) (v_five_a : Nat → Int32) (v_left_a : Nat → Int32) (v_right_a : Nat → Int32) : f_Mod_layDecimal_168 fu n_v_written n_v_a n_v_b n_v_five n_v_left n_v_right x1 x3 (n + 1) y4 y7 y9 v_laid v_aMany v_bMany v_fiveMany v_leftMany v_rightMany v_twos v_power v_written_a v_a_a v_b_a v_five_a v_left_a v_right_a =
  (if (-1) ≤ y9 then
  (f_Mod_layDigits fu n_v_written y4 0 y7 y7 v_laid v_written_a).bind fun u_13 =>
  some (u_13.1, v_aMany, v_bMany, v_fiveMany, v_leftMany, v_rightMany, v_twos, v_power, u_13.2, v_a_a, v_b_a, v_five_a, v_left_a, v_right_a)
  else
  (f_Mod_lay n_v_written 48 v_laid v_written_a).bind fun u_14 =>
  f_Mod_layDecimal_168 fu n_v_written n_v_a n_v_b n_v_five n_v_left n_v_right x1 x3 n y4 y7 (y9 + 1) u_14.1 v_aMany v_bMany v_fiveMany v_leftMany v_rightMany v_twos v_power u_14.2 v_a_a v_b_a v_five_a v_left_a v_right_a) := rfl
def f_Mod_layDecimal_133 (fu : Nat) (n_v_written : Nat) (n_v_a : Nat) (n_v_b : Nat) (n_v_five : Nat) (n_v_left : Nat) (n_v_right : Nat) (x1 : Int64) (x3 : Int32)  (y7 : Int32) (k1 : Int64) (k2 : Int32) (k3 : Int32) (v_laid : Int32) (v_aMany : Int32) (v_bMany : Int32) (v_fiveMany : Int32) (v_leftMany : Int32) (v_rightMany : Int32) (v_twos : Int32) (v_power : Int32) (v_written_a : Nat → Int32) (v_a_a : Nat → Int32) (v_b_a : Nat → Int32) (v_five_a : Nat → Int32) (v_left_a : Nat → Int32) (v_right_a : Nat → Int32) : Option (Int32 × Int32 × Int32 × Int32 × Int32 × Int32 × Int32 × Int32 × (Nat → Int32) × (Nat → Int32) × (Nat → Int32) × (Nat → Int32) × (Nat → Int32) × (Nat → Int32)) :=
  (f_Mod_layDigits fu n_v_written k1 k2 k3 y7 v_laid v_written_a).bind fun u_17 =>
  some (u_17.1, v_aMany, v_bMany, v_fiveMany, v_leftMany, v_rightMany, v_twos, v_power, u_17.2, v_a_a, v_b_a, v_five_a, v_left_a, v_right_a)
def f_Mod_layDecimal_46 (fu : Nat) (n_v_written : Nat) (n_v_a : Nat) (n_v_b : Nat) (n_v_five : Nat) (n_v_left : Nat) (n_v_right : Nat) (x1 : Int64) (x3 : Int32)  : Nat → Int64 → Int32 → Int32 → Int64 → Int32 → Int32 → Int32 → Int32 → Int32 → Int32 → Int32 → Int32 → (Nat → Int32) → (Nat → Int32) → (Nat → Int32) → (Nat → Int32) → (Nat → Int32) → (Nat → Int32) → Option (Int32 × Int32 × Int32 × Int32 × Int32 × Int32 × Int32 × Int32 × (Nat → Int32) × (Nat → Int32) × (Nat → Int32) × (Nat → Int32) × (Nat → Int32) × (Nat → Int32))
  | 0, _, _, _, _, _, _, _, _, _, _, _, _, _, _, _, _, _, _ => none
  | n + 1, y4, y6, y7, y8, v_laid, v_aMany, v_bMany, v_fiveMany, v_leftMany, v_rightMany, v_twos, v_power, v_written_a, v_a_a, v_b_a, v_five_a, v_left_a, v_right_a =>
  (if (lg_cmp y8 9) ≤ 0 then
  zz_lt ((y6 + y7) - 1) fun x8_2 =>
  (f_Mod_in x8_2 0 6).bind fun u_3 =>
  (if u_3 = 0 then
  (f_Mod_in x8_2 (-3) (-1)).bind fun u_4 =>
  (if u_4 = 0 then
  (f_Mod_layDigits fu n_v_written y4 0 1 y7 v_laid v_written_a).bind fun u_5 =>
  (f_Mod_lay n_v_written 46 u_5.1 u_5.2).bind fun u_6 =>
  (if y7 ≤ 1 then
  f_Mod_layDecimal_232 fu n_v_written n_v_a n_v_b n_v_five n_v_left n_v_right x1 x3 y7 x8_2 y4 1 2 u_6.1 v_aMany v_bMany v_fiveMany v_leftMany v_rightMany v_twos v_power u_6.2 v_a_a v_b_a v_five_a v_left_a v_right_a
  else
  f_Mod_layDecimal_232 fu n_v_written n_v_a n_v_b n_v_five n_v_left n_v_right x1 x3 y7 x8_2 y4 1 y7 u_6.1 v_aMany v_bMany v_fiveMany v_leftMany v_rightMany v_twos v_power u_6.2 v_a_a v_b_a v_five_a v_left_a v_right_a)
  else
  (f_Mod_lay n_v_written 48 v_laid v_written_a).bind fun u_11 =>
  (f_Mod_lay n_v_written 46 u_11.1 u_11.2).bind fun u_12 =>
  f_Mod_layDecimal_168 fu n_v_written n_v_a n_v_b n_v_five n_v_left n_v_right x1 x3 fu y4 y7 x8_2 u_12.1 v_aMany v_bMany v_fiveMany v_leftMany v_rightMany v_twos v_power u_12.2 v_a_a v_b_a v_five_a v_left_a v_right_a)
  else
  (f_Mod_layDigits fu n_v_written y4 0 (x8_2 + 1) y7 v_laid v_written_a).bind fun u_15 =>
  (f_Mod_lay n_v_written 46 u_15.1 u_15.2).bind fun u_16 =>
  (if y7 ≤ (x8_2 + 1) then
  f_Mod_layDecimal_133 fu n_v_written n_v_a n_v_b n_v_five n_v_left n_v_right x1 x3 y7 y4 (x8_2 + 1) (x8_2 + 2) u_16.1 v_aMany v_bMany v_fiveMany v_leftMany v_rightMany v_twos v_power u_16.2 v_a_a v_b_a v_five_a v_left_a v_right_a
  else
  f_Mod_layDecimal_133 fu n_v_written n_v_a n_v_b n_v_five n_v_left n_v_right x1 x3 y7 y4 (x8_2 + 1) y7 u_16.1 v_aMany v_bMany v_fiveMany v_leftMany v_rightMany v_twos v_power u_16.2 v_a_a v_b_a v_five_a v_left_a v_right_a))
  else
  zz_lt (y8 / 10) fun x8_18 =>
  f_Mod_layDecimal_46 fu n_v_written n_v_a n_v_b n_v_five n_v_left n_v_right x1 x3 n y4 y6 (y7 + 1) x8_18 v_laid v_aMany v_bMany v_fiveMany v_leftMany v_rightMany v_twos v_power v_written_a v_a_a v_b_a v_five_a v_left_a v_right_a)
theorem f_Mod_layDecimal_46_s (fu : Nat) (n_v_written : Nat) (n_v_a : Nat) (n_v_b : Nat) (n_v_five : Nat) (n_v_left : Nat) (n_v_right : Nat) (x1 : Int64) (x3 : Int32)  (n : Nat) (y4 : Int64) (y6 : Int32) (y7 : Int32) (y8 : Int64) (v_laid : Int32) (v_aMany : Int32) (v_bMany : Int32) (v_fiveMany : Int32) (v_leftMany : Int32) (v_rightMany : Int32) (v_twos : Int32) (v_power : Int32) (v_written_a : Nat → Int32) (v_a_a : Nat → Int32) (v_b_a : Nat → Int32) (v_five_a : Nat → Int32) (v_left_a : Nat → Int32) (v_right_a : Nat → Int32) : f_Mod_layDecimal_46 fu n_v_written n_v_a n_v_b n_v_five n_v_left n_v_right x1 x3 (n + 1) y4 y6 y7 y8 v_laid v_aMany v_bMany v_fiveMany v_leftMany v_rightMany v_twos v_power v_written_a v_a_a v_b_a v_five_a v_left_a v_right_a =
  (if (lg_cmp y8 9) ≤ 0 then
  zz_lt ((y6 + y7) - 1) fun x8_2 =>
  (f_Mod_in x8_2 0 6).bind fun u_3 =>
  (if u_3 = 0 then
  (f_Mod_in x8_2 (-3) (-1)).bind fun u_4 =>
  (if u_4 = 0 then
  (f_Mod_layDigits fu n_v_written y4 0 1 y7 v_laid v_written_a).bind fun u_5 =>
  (f_Mod_lay n_v_written 46 u_5.1 u_5.2).bind fun u_6 =>
  (if y7 ≤ 1 then
  f_Mod_layDecimal_232 fu n_v_written n_v_a n_v_b n_v_five n_v_left n_v_right x1 x3 y7 x8_2 y4 1 2 u_6.1 v_aMany v_bMany v_fiveMany v_leftMany v_rightMany v_twos v_power u_6.2 v_a_a v_b_a v_five_a v_left_a v_right_a
  else
  f_Mod_layDecimal_232 fu n_v_written n_v_a n_v_b n_v_five n_v_left n_v_right x1 x3 y7 x8_2 y4 1 y7 u_6.1 v_aMany v_bMany v_fiveMany v_leftMany v_rightMany v_twos v_power u_6.2 v_a_a v_b_a v_five_a v_left_a v_right_a)
  else
  (f_Mod_lay n_v_written 48 v_laid v_written_a).bind fun u_11 =>
  (f_Mod_lay n_v_written 46 u_11.1 u_11.2).bind fun u_12 =>
  f_Mod_layDecimal_168 fu n_v_written n_v_a n_v_b n_v_five n_v_left n_v_right x1 x3 fu y4 y7 x8_2 u_12.1 v_aMany v_bMany v_fiveMany v_leftMany v_rightMany v_twos v_power u_12.2 v_a_a v_b_a v_five_a v_left_a v_right_a)
  else
  (f_Mod_layDigits fu n_v_written y4 0 (x8_2 + 1) y7 v_laid v_written_a).bind fun u_15 =>
  (f_Mod_lay n_v_written 46 u_15.1 u_15.2).bind fun u_16 =>
  (if y7 ≤ (x8_2 + 1) then
  f_Mod_layDecimal_133 fu n_v_written n_v_a n_v_b n_v_five n_v_left n_v_right x1 x3 y7 y4 (x8_2 + 1) (x8_2 + 2) u_16.1 v_aMany v_bMany v_fiveMany v_leftMany v_rightMany v_twos v_power u_16.2 v_a_a v_b_a v_five_a v_left_a v_right_a
  else
  f_Mod_layDecimal_133 fu n_v_written n_v_a n_v_b n_v_five n_v_left n_v_right x1 x3 y7 y4 (x8_2 + 1) y7 u_16.1 v_aMany v_bMany v_fiveMany v_leftMany v_rightMany v_twos v_power u_16.2 v_a_a v_b_a v_five_a v_left_a v_right_a))
  else
  zz_lt (y8 / 10) fun x8_18 =>
  f_Mod_layDecimal_46 fu n_v_written n_v_a n_v_b n_v_five n_v_left n_v_right x1 x3 n y4 y6 (y7 + 1) x8_18 v_laid v_aMany v_bMany v_fiveMany v_leftMany v_rightMany v_twos v_power v_written_a v_a_a v_b_a v_five_a v_left_a v_right_a) := rfl
def f_Mod_layDecimal_14 (fu : Nat) (n_v_written : Nat) (n_v_a : Nat) (n_v_b : Nat) (n_v_five : Nat) (n_v_left : Nat) (n_v_right : Nat) (x1 : Int64) (x3 : Int32)  : Nat → Int64 → Int32 → Int32 → Int32 → Int32 → Int32 → Int32 → Int32 → Int32 → Int32 → (Nat → Int32) → (Nat → Int32) → (Nat → Int32) → (Nat → Int32) → (Nat → Int32) → (Nat → Int32) → Option (Int32 × Int32 × Int32 × Int32 × Int32 × Int32 × Int32 × Int32 × (Nat → Int32) × (Nat → Int32) × (Nat → Int32) × (Nat → Int32) × (Nat → Int32) × (Nat → Int32))
  | 0, _, _, _, _, _, _, _, _, _, _, _, _, _, _, _, _ => none
  | n + 1, y4, y6, v_laid, v_aMany, v_bMany, v_fiveMany, v_leftMany, v_rightMany, v_twos, v_power, v_written_a, v_a_a, v_b_a, v_five_a, v_left_a, v_right_a =>
  (if (lg_cmp (y4 - y4 / 10 * 10) 0) = 0 then
  zz_lt (y4 / 10) fun x4_19 =>
  f_Mod_layDecimal_14 fu n_v_written n_v_a n_v_b n_v_five n_v_left n_v_right x1 x3 n x4_19 (y6 + 1) v_laid v_aMany v_bMany v_fiveMany v_leftMany v_rightMany v_twos v_power v_written_a v_a_a v_b_a v_five_a v_left_a v_right_a
  else
  f_Mod_layDecimal_46 fu n_v_written n_v_a n_v_b n_v_five n_v_left n_v_right x1 x3 fu y4 y6 1 y4 v_laid v_aMany v_bMany v_fiveMany v_leftMany v_rightMany v_twos v_power v_written_a v_a_a v_b_a v_five_a v_left_a v_right_a)
theorem f_Mod_layDecimal_14_s (fu : Nat) (n_v_written : Nat) (n_v_a : Nat) (n_v_b : Nat) (n_v_five : Nat) (n_v_left : Nat) (n_v_right : Nat) (x1 : Int64) (x3 : Int32)  (n : Nat) (y4 : Int64) (y6 : Int32) (v_laid : Int32) (v_aMany : Int32) (v_bMany : Int32) (v_fiveMany : Int32) (v_leftMany : Int32) (v_rightMany : Int32) (v_twos : Int32) (v_power : Int32) (v_written_a : Nat → Int32) (v_a_a : Nat → Int32) (v_b_a : Nat → Int32) (v_five_a : Nat → Int32) (v_left_a : Nat → Int32) (v_right_a : Nat → Int32) : f_Mod_layDecimal_14 fu n_v_written n_v_a n_v_b n_v_five n_v_left n_v_right x1 x3 (n + 1) y4 y6 v_laid v_aMany v_bMany v_fiveMany v_leftMany v_rightMany v_twos v_power v_written_a v_a_a v_b_a v_five_a v_left_a v_right_a =
  (if (lg_cmp (y4 - y4 / 10 * 10) 0) = 0 then
  zz_lt (y4 / 10) fun x4_19 =>
  f_Mod_layDecimal_14 fu n_v_written n_v_a n_v_b n_v_five n_v_left n_v_right x1 x3 n x4_19 (y6 + 1) v_laid v_aMany v_bMany v_fiveMany v_leftMany v_rightMany v_twos v_power v_written_a v_a_a v_b_a v_five_a v_left_a v_right_a
  else
  f_Mod_layDecimal_46 fu n_v_written n_v_a n_v_b n_v_five n_v_left n_v_right x1 x3 fu y4 y6 1 y4 v_laid v_aMany v_bMany v_fiveMany v_leftMany v_rightMany v_twos v_power v_written_a v_a_a v_b_a v_five_a v_left_a v_right_a) := rfl
def f_Mod_layDecimal (fu : Nat) (n_v_written : Nat) (n_v_a : Nat) (n_v_b : Nat) (n_v_five : Nat) (n_v_left : Nat) (n_v_right : Nat) (x1 : Int64) (x3 : Int32) (v_laid : Int32) (v_aMany : Int32) (v_bMany : Int32) (v_fiveMany : Int32) (v_leftMany : Int32) (v_rightMany : Int32) (v_twos : Int32) (v_power : Int32) (v_written_a : Nat → Int32) (v_a_a : Nat → Int32) (v_b_a : Nat → Int32) (v_five_a : Nat → Int32) (v_left_a : Nat → Int32) (v_right_a : Nat → Int32) : Option (Int32 × Int32 × Int32 × Int32 × Int32 × Int32 × Int32 × Int32 × (Nat → Int32) × (Nat → Int32) × (Nat → Int32) × (Nat → Int32) × (Nat → Int32) × (Nat → Int32)) :=
  (f_Mod_shortest fu n_v_a n_v_b n_v_five n_v_left n_v_right x1 x3 v_aMany v_bMany v_fiveMany v_leftMany v_rightMany v_twos v_power v_a_a v_b_a v_five_a v_left_a v_right_a).bind fun u_1 =>
  f_Mod_layDecimal_14 fu n_v_written n_v_a n_v_b n_v_five n_v_left n_v_right x1 x3 fu u_1.1 u_1.2.2.2.2.2.2.2.1 v_laid u_1.2.1 u_1.2.2.1 u_1.2.2.2.1 u_1.2.2.2.2.1 u_1.2.2.2.2.2.1 u_1.2.2.2.2.2.2.1 u_1.2.2.2.2.2.2.2.1 v_written_a u_1.2.2.2.2.2.2.2.2.1 u_1.2.2.2.2.2.2.2.2.2.1 u_1.2.2.2.2.2.2.2.2.2.2.1 u_1.2.2.2.2.2.2.2.2.2.2.2.1 u_1.2.2.2.2.2.2.2.2.2.2.2.2
set_option maxHeartbeats 4000000 in
set_option maxRecDepth 100000 in
theorem c_Mod_layDecimal (l : Launch) (dC : Nat → ClassId) (dI : Nat → Nat → Nat) (cI cC cB cJ : ClassId) (fu : Nat) (sz : Nat) (h_v : Nat) (h_v_written : Nat) (h_v_a : Nat) (h_v_b : Nat) (h_v_five : Nat) (h_v_left : Nat) (h_v_right : Nat) (h_v_text : Nat) (h_v_part : Nat) (n_v_written : Nat) (n_v_a : Nat) (n_v_b : Nat) (n_v_five : Nat) (n_v_left : Nat) (n_v_right : Nat) (x1 : Int64) (x3 : Int32) (v_length : Int32) (v_laid : Int32) (v_gone : Int32) (v_thrown : Int32) (v_were : Int32) (v_none : Int32) (v_beyond : Int32) (v_aMany : Int32) (v_bMany : Int32) (v_fiveMany : Int32) (v_leftMany : Int32) (v_rightMany : Int32) (v_partMany : Int32) (v_twos : Int32) (v_at : Int32) (v_digits : Int32) (v_power : Int32) (v_good : Int32) (v_written_a : Nat → Int32) (v_a_a : Nat → Int32) (v_b_a : Nat → Int32) (v_five_a : Nat → Int32) (v_left_a : Nat → Int32) (v_right_a : Nat → Int32) (u : Int32 × Int32 × Int32 × Int32 × Int32 × Int32 × Int32 × Int32 × (Nat → Int32) × (Nat → Int32) × (Nat → Int32) × (Nat → Int32) × (Nat → Int32) × (Nat → Int32)) (hf : f_Mod_layDecimal fu n_v_written n_v_a n_v_b n_v_five n_v_left n_v_right x1 x3 v_laid v_aMany v_bMany v_fiveMany v_leftMany v_rightMany v_twos v_power v_written_a v_a_a v_b_a v_five_a v_left_a v_right_a = some u) : Met l y_Mod_layDecimal ws_Mod_layDecimal rm_Mod_layDecimal (zz_P zz_T (dC, dI) vwCl (zz_tys cI cC cB cJ) [.ref h_v, .long x1, .int x3] [(h_v, .inr (7, [.ref h_v_text, .ref h_v_written, .int v_length, .int v_laid, .int v_gone, .int v_thrown, .int v_were, .int v_none, .int v_beyond, .ref h_v_a, .ref h_v_b, .ref h_v_five, .ref h_v_left, .ref h_v_right, .ref h_v_part, .int v_aMany, .int v_bMany, .int v_fiveMany, .int v_leftMany, .int v_rightMany, .int v_partMany, .int v_twos, .int v_at, .int v_digits, .int v_power, .int v_good])), (h_v_written, .inl (cI, n_v_written, .inl v_written_a)), (h_v_a, .inl (cI, n_v_a, .inl v_a_a)), (h_v_b, .inl (cI, n_v_b, .inl v_b_a)), (h_v_five, .inl (cI, n_v_five, .inl v_five_a)), (h_v_left, .inl (cI, n_v_left, .inl v_left_a)), (h_v_right, .inl (cI, n_v_right, .inl v_right_a))] sz) (zz_Qv (dC, dI) vwCl [(h_v, .inr (7, [.ref h_v_text, .ref h_v_written, .int v_length, .int u.1, .int v_gone, .int v_thrown, .int v_were, .int v_none, .int v_beyond, .ref h_v_a, .ref h_v_b, .ref h_v_five, .ref h_v_left, .ref h_v_right, .ref h_v_part, .int u.2.1, .int u.2.2.1, .int u.2.2.2.1, .int u.2.2.2.2.1, .int u.2.2.2.2.2.1, .int v_partMany, .int u.2.2.2.2.2.2.1, .int v_at, .int v_digits, .int u.2.2.2.2.2.2.2.1, .int v_good])), (h_v_written, .inl (cI, n_v_written, .inl u.2.2.2.2.2.2.2.2.1)), (h_v_a, .inl (cI, n_v_a, .inl u.2.2.2.2.2.2.2.2.2.1)), (h_v_b, .inl (cI, n_v_b, .inl u.2.2.2.2.2.2.2.2.2.2.1)), (h_v_five, .inl (cI, n_v_five, .inl u.2.2.2.2.2.2.2.2.2.2.2.1)), (h_v_left, .inl (cI, n_v_left, .inl u.2.2.2.2.2.2.2.2.2.2.2.2.1)), (h_v_right, .inl (cI, n_v_right, .inl u.2.2.2.2.2.2.2.2.2.2.2.2.2))] (va_A [(h_v, .inr (7, [.ref h_v_text, .ref h_v_written, .int v_length, .int v_laid, .int v_gone, .int v_thrown, .int v_were, .int v_none, .int v_beyond, .ref h_v_a, .ref h_v_b, .ref h_v_five, .ref h_v_left, .ref h_v_right, .ref h_v_part, .int v_aMany, .int v_bMany, .int v_fiveMany, .int v_leftMany, .int v_rightMany, .int v_partMany, .int v_twos, .int v_at, .int v_digits, .int v_power, .int v_good])), (h_v_written, .inl (cI, n_v_written, .inl v_written_a)), (h_v_a, .inl (cI, n_v_a, .inl v_a_a)), (h_v_b, .inl (cI, n_v_b, .inl v_b_a)), (h_v_five, .inl (cI, n_v_five, .inl v_five_a)), (h_v_left, .inl (cI, n_v_left, .inl v_left_a)), (h_v_right, .inl (cI, n_v_right, .inl v_right_a))] sz)) 0 0 (va_A [(h_v, .inr (7, [.ref h_v_text, .ref h_v_written, .int v_length, .int v_laid, .int v_gone, .int v_thrown, .int v_were, .int v_none, .int v_beyond, .ref h_v_a, .ref h_v_b, .ref h_v_five, .ref h_v_left, .ref h_v_right, .ref h_v_part, .int v_aMany, .int v_bMany, .int v_fiveMany, .int v_leftMany, .int v_rightMany, .int v_partMany, .int v_twos, .int v_at, .int v_digits, .int v_power, .int v_good])), (h_v_written, .inl (cI, n_v_written, .inl v_written_a)), (h_v_a, .inl (cI, n_v_a, .inl v_a_a)), (h_v_b, .inl (cI, n_v_b, .inl v_b_a)), (h_v_five, .inl (cI, n_v_five, .inl v_five_a)), (h_v_left, .inl (cI, n_v_left, .inl v_left_a)), (h_v_right, .inl (cI, n_v_right, .inl v_right_a))] sz) := by
  refine Met.ofW (cc := prog_10_method_35_code) (maxL := 10) (ret := none) (by decide +kernel) rfl ?_
  intro p e s m args below meth c s₁ B hml hv
  obtain ⟨rfl, hsz, hP, hK, hD0, hX⟩ := hv
  have hx := B.exec
  have hb := B.bytes
  have hr := B.returns
  have hts := atoms_spec (ws := ws_Mod_layDecimal) B.pre
  have hw : ∀ w ∈ zw, w.before [.ref h_v, .long x1, .int x3].toArray s = true := fun w h => hts w (List.mem_cons_of_mem _ h)
  have hown : s.vm.findClass R_Mod = some m.cls := findClass_of_methodNamed B.named
  have hlocks := B.notSynchronized
  subst hsz
  have hD := hD0.self (sz := s.heap.size)
  generalize hAe : va_A [(h_v, .inr (7, [.ref h_v_text, .ref h_v_written, .int v_length, .int v_laid, .int v_gone, .int v_thrown, .int v_were, .int v_none, .int v_beyond, .ref h_v_a, .ref h_v_b, .ref h_v_five, .ref h_v_left, .ref h_v_right, .ref h_v_part, .int v_aMany, .int v_bMany, .int v_fiveMany, .int v_leftMany, .int v_rightMany, .int v_partMany, .int v_twos, .int v_at, .int v_digits, .int v_power, .int v_good])), (h_v_written, .inl (cI, n_v_written, .inl v_written_a)), (h_v_a, .inl (cI, n_v_a, .inl v_a_a)), (h_v_b, .inl (cI, n_v_b, .inl v_b_a)), (h_v_five, .inl (cI, n_v_five, .inl v_five_a)), (h_v_left, .inl (cI, n_v_left, .inl v_left_a)), (h_v_right, .inl (cI, n_v_right, .inl v_right_a))] s.heap.size = A at hD hX ⊢
  have hA : ∀ q : Nat, s.heap.size ≤ q → A q := fun q h => by rw [← hAe]; exact Or.inr h
  have hS : va_S A s.heap s.heap [] := va_S.rf
  have hl := lv_entry [.ref h_v, .long x1, .int x3] (n := 10) (Nat.le_of_ble_eq_true rfl)
  rw [lg_entry_eq]
  generalize (lg_sl [.ref h_v, .long x1, .int x3] ++ List.replicate (10 - (lg_sl [.ref h_v, .long x1, .int x3]).length) Slot.unset).toArray = ls at hl ⊢
  have hl : lv_has ls 10 [(0, .ref h_v), (1, .long x1), (3, .int x3)] := hl
  refine zz_endv hx hb hr hlocks (fun Qq hend => ?_)
  have hL_268 : ∀ (k1 : Int32) (v_laid : Int32) (v_aMany : Int32) (v_bMany : Int32) (v_fiveMany : Int32) (v_leftMany : Int32) (v_rightMany : Int32) (v_twos : Int32) (v_power : Int32) (v_written_a : Nat → Int32) (v_a_a : Nat → Int32) (v_b_a : Nat → Int32) (v_five_a : Nat → Int32) (v_left_a : Nat → Int32) (v_right_a : Nat → Int32) (ls : Array Slot) (H : Heap) (locs : List Loc), lv_has ls 10 [] → va_P (dC, dI) vwCl [(h_v, .inr (7, [.ref h_v_text, .ref h_v_written, .int v_length, .int v_laid, .int v_gone, .int v_thrown, .int v_were, .int v_none, .int v_beyond, .ref h_v_a, .ref h_v_b, .ref h_v_five, .ref h_v_left, .ref h_v_right, .ref h_v_part, .int v_aMany, .int v_bMany, .int v_fiveMany, .int v_leftMany, .int v_rightMany, .int v_partMany, .int v_twos, .int v_at, .int v_digits, .int v_power, .int v_good])), (h_v_written, .inl (cI, n_v_written, .inl v_written_a)), (h_v_a, .inl (cI, n_v_a, .inl v_a_a)), (h_v_b, .inl (cI, n_v_b, .inl v_b_a)), (h_v_five, .inl (cI, n_v_five, .inl v_five_a)), (h_v_left, .inl (cI, n_v_left, .inl v_left_a)), (h_v_right, .inl (cI, n_v_right, .inl v_right_a))] H → va_D A [(h_v, .inr (7, [.ref h_v_text, .ref h_v_written, .int v_length, .int v_laid, .int v_gone, .int v_thrown, .int v_were, .int v_none, .int v_beyond, .ref h_v_a, .ref h_v_b, .ref h_v_five, .ref h_v_left, .ref h_v_right, .ref h_v_part, .int v_aMany, .int v_bMany, .int v_fiveMany, .int v_leftMany, .int v_rightMany, .int v_partMany, .int v_twos, .int v_at, .int v_digits, .int v_power, .int v_good])), (h_v_written, .inl (cI, n_v_written, .inl v_written_a)), (h_v_a, .inl (cI, n_v_a, .inl v_a_a)), (h_v_b, .inl (cI, n_v_b, .inl v_b_a)), (h_v_five, .inl (cI, n_v_five, .inl v_five_a)), (h_v_left, .inl (cI, n_v_left, .inl v_left_a)), (h_v_right, .inl (cI, n_v_right, .inl v_right_a))] → va_S A s.heap H locs → f_Mod_layDecimal_268 fu n_v_written n_v_a n_v_b n_v_five n_v_left n_v_right x1 x3 k1 v_laid v_aMany v_bMany v_fiveMany v_leftMany v_rightMany v_twos v_power v_written_a v_a_a v_b_a v_five_a v_left_a v_right_a = some u → W p l e (headSpec ws_Mod_layDecimal rm_Mod_layDecimal).room s m [.ref h_v, .long x1, .int x3].toArray below meth c H locs 0 0 Qq (F0 m 268 ls [.int k1, .ref h_v]) := by
    intro k1 v_laid v_aMany v_bMany v_fiveMany v_leftMany v_rightMany v_twos v_power v_written_a v_a_a v_b_a v_five_a v_left_a v_right_a ls H locs hl hP hD hS hf
    unfold f_Mod_layDecimal_268 at hf
    obtain ⟨u_9, hu_9, hf⟩ := zz_bd hf
    refine zz_cv (ws' := [(h_v, .inr (7, [.ref h_v_text, .ref h_v_written, .int v_length, .int u_9.1, .int v_gone, .int v_thrown, .int v_were, .int v_none, .int v_beyond, .ref h_v_a, .ref h_v_b, .ref h_v_five, .ref h_v_left, .ref h_v_right, .ref h_v_part, .int v_aMany, .int v_bMany, .int v_fiveMany, .int v_leftMany, .int v_rightMany, .int v_partMany, .int v_twos, .int v_at, .int v_digits, .int v_power, .int v_good])), (h_v_written, .inl (cI, n_v_written, .inl u_9.2)), (h_v_a, .inl (cI, n_v_a, .inl v_a_a)), (h_v_b, .inl (cI, n_v_b, .inl v_b_a)), (h_v_five, .inl (cI, n_v_five, .inl v_five_a)), (h_v_left, .inl (cI, n_v_left, .inl v_left_a)), (h_v_right, .inl (cI, n_v_right, .inl v_right_a))]) (wc := [(h_v, .inr (7, [.ref h_v_text, .ref h_v_written, .int v_length, .int v_laid, .int v_gone, .int v_thrown, .int v_were, .int v_none, .int v_beyond, .ref h_v_a, .ref h_v_b, .ref h_v_five, .ref h_v_left, .ref h_v_right, .ref h_v_part, .int v_aMany, .int v_bMany, .int v_fiveMany, .int v_leftMany, .int v_rightMany, .int v_partMany, .int v_twos, .int v_at, .int v_digits, .int v_power, .int v_good])), (h_v_written, .inl (cI, n_v_written, .inl v_written_a))]) (w' := [(h_v, .inr (7, [.ref h_v_text, .ref h_v_written, .int v_length, .int u_9.1, .int v_gone, .int v_thrown, .int v_were, .int v_none, .int v_beyond, .ref h_v_a, .ref h_v_b, .ref h_v_five, .ref h_v_left, .ref h_v_right, .ref h_v_part, .int v_aMany, .int v_bMany, .int v_fiveMany, .int v_leftMany, .int v_rightMany, .int v_partMany, .int v_twos, .int v_at, .int v_digits, .int v_power, .int v_good])), (h_v_written, .inl (cI, n_v_written, .inl u_9.2))]) hP hD hS hA [0, 1] [2, 3, 4, 5, 6] [5, 6, 0, 1, 2, 3, 4] rfl rfl (by decide) (by decide) rfl (by decide) (va_runV (As := [.int k1]) (rest := []) ⟨hx, hb, hml, hown, hw⟩ (c_Mod_layNumber l dC dI cI cC cB cJ fu _ h_v h_v_written h_v_text h_v_a h_v_b h_v_five h_v_left h_v_right h_v_part n_v_written k1 v_length v_laid v_gone v_thrown v_were v_none v_beyond v_aMany v_bMany v_fiveMany v_leftMany v_rightMany v_partMany v_twos v_at v_digits v_power v_good v_written_a u_9 hu_9) (cwV 1 hw (zg_V wd_897 wd_899 we_2_14 wd_8 wd_900) rfl rfl rfl hd_Mod_layNumber ⟨Nat.le_of_ble_eq_true rfl, Nat.le_of_ble_eq_true rfl⟩) (zz_preV zz_TE (va_recv (q0 := 0) (ci := 7) hK hP rfl rfl) hP hD hK hS hA trivial [0, 1] rfl (by decide)) rfl rfl hl.1 rfl (lv_room (Nat.le_of_ble_eq_true rfl)) d_Mod_layDecimal_268 ⟨Nat.zero_le _, Nat.zero_le _⟩) (fun H locs hP hD hS => ?_)
    cases hf
    exact hend 271 ls _ _ d_Mod_layDecimal_271 hP hD hS
  have hL_254 : ∀ (y8 : Int32) (v_laid : Int32) (v_aMany : Int32) (v_bMany : Int32) (v_fiveMany : Int32) (v_leftMany : Int32) (v_rightMany : Int32) (v_twos : Int32) (v_power : Int32) (v_written_a : Nat → Int32) (v_a_a : Nat → Int32) (v_b_a : Nat → Int32) (v_five_a : Nat → Int32) (v_left_a : Nat → Int32) (v_right_a : Nat → Int32) (ls : Array Slot) (H : Heap) (locs : List Loc), lv_has ls 10 [(0, .ref h_v), (8, .int y8)] → va_P (dC, dI) vwCl [(h_v, .inr (7, [.ref h_v_text, .ref h_v_written, .int v_length, .int v_laid, .int v_gone, .int v_thrown, .int v_were, .int v_none, .int v_beyond, .ref h_v_a, .ref h_v_b, .ref h_v_five, .ref h_v_left, .ref h_v_right, .ref h_v_part, .int v_aMany, .int v_bMany, .int v_fiveMany, .int v_leftMany, .int v_rightMany, .int v_partMany, .int v_twos, .int v_at, .int v_digits, .int v_power, .int v_good])), (h_v_written, .inl (cI, n_v_written, .inl v_written_a)), (h_v_a, .inl (cI, n_v_a, .inl v_a_a)), (h_v_b, .inl (cI, n_v_b, .inl v_b_a)), (h_v_five, .inl (cI, n_v_five, .inl v_five_a)), (h_v_left, .inl (cI, n_v_left, .inl v_left_a)), (h_v_right, .inl (cI, n_v_right, .inl v_right_a))] H → va_D A [(h_v, .inr (7, [.ref h_v_text, .ref h_v_written, .int v_length, .int v_laid, .int v_gone, .int v_thrown, .int v_were, .int v_none, .int v_beyond, .ref h_v_a, .ref h_v_b, .ref h_v_five, .ref h_v_left, .ref h_v_right, .ref h_v_part, .int v_aMany, .int v_bMany, .int v_fiveMany, .int v_leftMany, .int v_rightMany, .int v_partMany, .int v_twos, .int v_at, .int v_digits, .int v_power, .int v_good])), (h_v_written, .inl (cI, n_v_written, .inl v_written_a)), (h_v_a, .inl (cI, n_v_a, .inl v_a_a)), (h_v_b, .inl (cI, n_v_b, .inl v_b_a)), (h_v_five, .inl (cI, n_v_five, .inl v_five_a)), (h_v_left, .inl (cI, n_v_left, .inl v_left_a)), (h_v_right, .inl (cI, n_v_right, .inl v_right_a))] → va_S A s.heap H locs → f_Mod_layDecimal_254 fu n_v_written n_v_a n_v_b n_v_five n_v_left n_v_right x1 x3 y8 v_laid v_aMany v_bMany v_fiveMany v_leftMany v_rightMany v_twos v_power v_written_a v_a_a v_b_a v_five_a v_left_a v_right_a = some u → W p l e (headSpec ws_Mod_layDecimal rm_Mod_layDecimal).room s m [.ref h_v, .long x1, .int x3].toArray below meth c H locs 0 0 Qq (F0 m 254 ls []) := by
    intro y8 v_laid v_aMany v_bMany v_fiveMany v_leftMany v_rightMany v_twos v_power v_written_a v_a_a v_b_a v_five_a v_left_a v_right_a ls H locs hl hP hD hS hf
    unfold f_Mod_layDecimal_254 at hf
    refine lv_aload_n hx hb d_Mod_layDecimal_254 rfl (lv_at hl 0 rfl) ?_
    refine lv_iload hx hb d_Mod_layDecimal_255 (lv_at hl 1 rfl) ?_
    refine lv_if_ge (tgt := 266) hx hb d_Mod_layDecimal_257 (by decide) (fun hc => ?_) (fun hc => ?_)
    · have hf := zz_ifp hc hf
      refine lv_iload hx hb d_Mod_layDecimal_266 (lv_at hl 1 rfl) ?_
      exact hL_268 y8 v_laid v_aMany v_bMany v_fiveMany v_leftMany v_rightMany v_twos v_power v_written_a v_a_a v_b_a v_five_a v_left_a v_right_a ls _ _ (lv_sub hl [] rfl) hP hD hS hf
    · have hf := zz_ifn hc hf
      refine lv_iload hx hb d_Mod_layDecimal_260 (lv_at hl 1 rfl) ?_
      refine lv_ineg hx hb d_Mod_layDecimal_262 ?_
      refine lv_goto (tgt := 268) hx hb d_Mod_layDecimal_263 (by decide) ?_
      exact hL_268 (-y8) v_laid v_aMany v_bMany v_fiveMany v_leftMany v_rightMany v_twos v_power v_written_a v_a_a v_b_a v_five_a v_left_a v_right_a ls _ _ (lv_sub hl [] rfl) hP hD hS hf
  have hL_232 : ∀ (y7 : Int32) (y8 : Int32) (k1 : Int64) (k2 : Int32) (k3 : Int32) (v_laid : Int32) (v_aMany : Int32) (v_bMany : Int32) (v_fiveMany : Int32) (v_leftMany : Int32) (v_rightMany : Int32) (v_twos : Int32) (v_power : Int32) (v_written_a : Nat → Int32) (v_a_a : Nat → Int32) (v_b_a : Nat → Int32) (v_five_a : Nat → Int32) (v_left_a : Nat → Int32) (v_right_a : Nat → Int32) (ls : Array Slot) (H : Heap) (locs : List Loc), lv_has ls 10 [(0, .ref h_v), (7, .int y7), (8, .int y8)] → va_P (dC, dI) vwCl [(h_v, .inr (7, [.ref h_v_text, .ref h_v_written, .int v_length, .int v_laid, .int v_gone, .int v_thrown, .int v_were, .int v_none, .int v_beyond, .ref h_v_a, .ref h_v_b, .ref h_v_five, .ref h_v_left, .ref h_v_right, .ref h_v_part, .int v_aMany, .int v_bMany, .int v_fiveMany, .int v_leftMany, .int v_rightMany, .int v_partMany, .int v_twos, .int v_at, .int v_digits, .int v_power, .int v_good])), (h_v_written, .inl (cI, n_v_written, .inl v_written_a)), (h_v_a, .inl (cI, n_v_a, .inl v_a_a)), (h_v_b, .inl (cI, n_v_b, .inl v_b_a)), (h_v_five, .inl (cI, n_v_five, .inl v_five_a)), (h_v_left, .inl (cI, n_v_left, .inl v_left_a)), (h_v_right, .inl (cI, n_v_right, .inl v_right_a))] H → va_D A [(h_v, .inr (7, [.ref h_v_text, .ref h_v_written, .int v_length, .int v_laid, .int v_gone, .int v_thrown, .int v_were, .int v_none, .int v_beyond, .ref h_v_a, .ref h_v_b, .ref h_v_five, .ref h_v_left, .ref h_v_right, .ref h_v_part, .int v_aMany, .int v_bMany, .int v_fiveMany, .int v_leftMany, .int v_rightMany, .int v_partMany, .int v_twos, .int v_at, .int v_digits, .int v_power, .int v_good])), (h_v_written, .inl (cI, n_v_written, .inl v_written_a)), (h_v_a, .inl (cI, n_v_a, .inl v_a_a)), (h_v_b, .inl (cI, n_v_b, .inl v_b_a)), (h_v_five, .inl (cI, n_v_five, .inl v_five_a)), (h_v_left, .inl (cI, n_v_left, .inl v_left_a)), (h_v_right, .inl (cI, n_v_right, .inl v_right_a))] → va_S A s.heap H locs → f_Mod_layDecimal_232 fu n_v_written n_v_a n_v_b n_v_five n_v_left n_v_right x1 x3 y7 y8 k1 k2 k3 v_laid v_aMany v_bMany v_fiveMany v_leftMany v_rightMany v_twos v_power v_written_a v_a_a v_b_a v_five_a v_left_a v_right_a = some u → W p l e (headSpec ws_Mod_layDecimal rm_Mod_layDecimal).room s m [.ref h_v, .long x1, .int x3].toArray below meth c H locs 0 0 Qq (F0 m 232 ls [.int k3, .int k2, .long k1, .ref h_v]) := by
    intro y7 y8 k1 k2 k3 v_laid v_aMany v_bMany v_fiveMany v_leftMany v_rightMany v_twos v_power v_written_a v_a_a v_b_a v_five_a v_left_a v_right_a ls H locs hl hP hD hS hf
    unfold f_Mod_layDecimal_232 at hf
    refine lv_iload hx hb d_Mod_layDecimal_232 (lv_at hl 1 rfl) ?_
    obtain ⟨u_7, hu_7, hf⟩ := zz_bd hf
    refine zz_cv (ws' := [(h_v, .inr (7, [.ref h_v_text, .ref h_v_written, .int v_length, .int u_7.1, .int v_gone, .int v_thrown, .int v_were, .int v_none, .int v_beyond, .ref h_v_a, .ref h_v_b, .ref h_v_five, .ref h_v_left, .ref h_v_right, .ref h_v_part, .int v_aMany, .int v_bMany, .int v_fiveMany, .int v_leftMany, .int v_rightMany, .int v_partMany, .int v_twos, .int v_at, .int v_digits, .int v_power, .int v_good])), (h_v_written, .inl (cI, n_v_written, .inl u_7.2)), (h_v_a, .inl (cI, n_v_a, .inl v_a_a)), (h_v_b, .inl (cI, n_v_b, .inl v_b_a)), (h_v_five, .inl (cI, n_v_five, .inl v_five_a)), (h_v_left, .inl (cI, n_v_left, .inl v_left_a)), (h_v_right, .inl (cI, n_v_right, .inl v_right_a))]) (wc := [(h_v, .inr (7, [.ref h_v_text, .ref h_v_written, .int v_length, .int v_laid, .int v_gone, .int v_thrown, .int v_were, .int v_none, .int v_beyond, .ref h_v_a, .ref h_v_b, .ref h_v_five, .ref h_v_left, .ref h_v_right, .ref h_v_part, .int v_aMany, .int v_bMany, .int v_fiveMany, .int v_leftMany, .int v_rightMany, .int v_partMany, .int v_twos, .int v_at, .int v_digits, .int v_power, .int v_good])), (h_v_written, .inl (cI, n_v_written, .inl v_written_a))]) (w' := [(h_v, .inr (7, [.ref h_v_text, .ref h_v_written, .int v_length, .int u_7.1, .int v_gone, .int v_thrown, .int v_were, .int v_none, .int v_beyond, .ref h_v_a, .ref h_v_b, .ref h_v_five, .ref h_v_left, .ref h_v_right, .ref h_v_part, .int v_aMany, .int v_bMany, .int v_fiveMany, .int v_leftMany, .int v_rightMany, .int v_partMany, .int v_twos, .int v_at, .int v_digits, .int v_power, .int v_good])), (h_v_written, .inl (cI, n_v_written, .inl u_7.2))]) hP hD hS hA [0, 1] [2, 3, 4, 5, 6] [5, 6, 0, 1, 2, 3, 4] rfl rfl (by decide) (by decide) rfl (by decide) (va_runV (As := [.long k1, .int k2, .int k3, .int y7]) (rest := []) ⟨hx, hb, hml, hown, hw⟩ (c_Mod_layDigits l dC dI cI cC cB cJ fu _ h_v h_v_written h_v_text h_v_a h_v_b h_v_five h_v_left h_v_right h_v_part n_v_written k1 k2 k3 y7 v_length v_laid v_gone v_thrown v_were v_none v_beyond v_aMany v_bMany v_fiveMany v_leftMany v_rightMany v_partMany v_twos v_at v_digits v_power v_good v_written_a u_7 hu_7) (cwV 4 hw (zg_V wd_892 wd_894 we_2_13 wd_8 wd_895) rfl rfl rfl hd_Mod_layDigits ⟨Nat.le_of_ble_eq_true rfl, Nat.le_of_ble_eq_true rfl⟩) (zz_preV zz_TE (va_recv (q0 := 0) (ci := 7) hK hP rfl rfl) hP hD hK hS hA trivial [0, 1] rfl (by decide)) rfl rfl hl.1 rfl (lv_room (Nat.le_of_ble_eq_true rfl)) d_Mod_layDecimal_234 ⟨Nat.zero_le _, Nat.zero_le _⟩) (fun H locs hP hD hS => ?_)
    refine lv_aload_n hx hb d_Mod_layDecimal_237 rfl (lv_at hl 0 rfl) ?_
    refine lv_bipush (v := 69) hx hb d_Mod_layDecimal_238 (by decide) ?_
    obtain ⟨u_8, hu_8, hf⟩ := zz_bd hf
    refine zz_cv (ws' := [(h_v, .inr (7, [.ref h_v_text, .ref h_v_written, .int v_length, .int u_8.1, .int v_gone, .int v_thrown, .int v_were, .int v_none, .int v_beyond, .ref h_v_a, .ref h_v_b, .ref h_v_five, .ref h_v_left, .ref h_v_right, .ref h_v_part, .int v_aMany, .int v_bMany, .int v_fiveMany, .int v_leftMany, .int v_rightMany, .int v_partMany, .int v_twos, .int v_at, .int v_digits, .int v_power, .int v_good])), (h_v_written, .inl (cI, n_v_written, .inl u_8.2)), (h_v_a, .inl (cI, n_v_a, .inl v_a_a)), (h_v_b, .inl (cI, n_v_b, .inl v_b_a)), (h_v_five, .inl (cI, n_v_five, .inl v_five_a)), (h_v_left, .inl (cI, n_v_left, .inl v_left_a)), (h_v_right, .inl (cI, n_v_right, .inl v_right_a))]) (wc := [(h_v, .inr (7, [.ref h_v_text, .ref h_v_written, .int v_length, .int u_7.1, .int v_gone, .int v_thrown, .int v_were, .int v_none, .int v_beyond, .ref h_v_a, .ref h_v_b, .ref h_v_five, .ref h_v_left, .ref h_v_right, .ref h_v_part, .int v_aMany, .int v_bMany, .int v_fiveMany, .int v_leftMany, .int v_rightMany, .int v_partMany, .int v_twos, .int v_at, .int v_digits, .int v_power, .int v_good])), (h_v_written, .inl (cI, n_v_written, .inl u_7.2))]) (w' := [(h_v, .inr (7, [.ref h_v_text, .ref h_v_written, .int v_length, .int u_8.1, .int v_gone, .int v_thrown, .int v_were, .int v_none, .int v_beyond, .ref h_v_a, .ref h_v_b, .ref h_v_five, .ref h_v_left, .ref h_v_right, .ref h_v_part, .int v_aMany, .int v_bMany, .int v_fiveMany, .int v_leftMany, .int v_rightMany, .int v_partMany, .int v_twos, .int v_at, .int v_digits, .int v_power, .int v_good])), (h_v_written, .inl (cI, n_v_written, .inl u_8.2))]) hP hD hS hA [0, 1] [2, 3, 4, 5, 6] [5, 6, 0, 1, 2, 3, 4] rfl rfl (by decide) (by decide) rfl (by decide) (va_runV (As := [.int 69]) (rest := []) ⟨hx, hb, hml, hown, hw⟩ (c_Mod_lay l dC dI cI cC cB cJ _ h_v h_v_written h_v_text h_v_a h_v_b h_v_five h_v_left h_v_right h_v_part n_v_written 69 v_length u_7.1 v_gone v_thrown v_were v_none v_beyond v_aMany v_bMany v_fiveMany v_leftMany v_rightMany v_partMany v_twos v_at v_digits v_power v_good u_7.2 u_8 hu_8) (cwV 1 hw (zg_V wd_856 wd_858 we_2_5 wd_8 wd_859) rfl rfl rfl hd_Mod_lay ⟨Nat.le_of_ble_eq_true rfl, Nat.le_of_ble_eq_true rfl⟩) (zz_preV zz_TE (va_recv (q0 := 0) (ci := 7) hK hP rfl rfl) hP hD hK hS hA trivial [0, 1] rfl (by decide)) rfl rfl hl.1 rfl (lv_room (Nat.le_of_ble_eq_true rfl)) d_Mod_layDecimal_240 ⟨Nat.zero_le _, Nat.zero_le _⟩) (fun H locs hP hD hS => ?_)
    refine lv_iload hx hb d_Mod_layDecimal_243 (lv_at hl 2 rfl) ?_
    refine lv_if_ge (tgt := 254) hx hb d_Mod_layDecimal_245 (by decide) (fun hc => ?_) (fun hc => ?_)
    · have hf := zz_ifp hc hf
      exact hL_254 y8 u_8.1 v_aMany v_bMany v_fiveMany v_leftMany v_rightMany v_twos v_power u_8.2 v_a_a v_b_a v_five_a v_left_a v_right_a ls _ _ (lv_sub hl [0, 2] rfl) hP hD hS hf
    · have hf := zz_ifn hc hf
      refine lv_aload_n hx hb d_Mod_layDecimal_248 rfl (lv_at hl 0 rfl) ?_
      refine lv_bipush (v := 45) hx hb d_Mod_layDecimal_249 (by decide) ?_
      obtain ⟨u_10, hu_10, hf⟩ := zz_bd hf
      refine zz_cv (ws' := [(h_v, .inr (7, [.ref h_v_text, .ref h_v_written, .int v_length, .int u_10.1, .int v_gone, .int v_thrown, .int v_were, .int v_none, .int v_beyond, .ref h_v_a, .ref h_v_b, .ref h_v_five, .ref h_v_left, .ref h_v_right, .ref h_v_part, .int v_aMany, .int v_bMany, .int v_fiveMany, .int v_leftMany, .int v_rightMany, .int v_partMany, .int v_twos, .int v_at, .int v_digits, .int v_power, .int v_good])), (h_v_written, .inl (cI, n_v_written, .inl u_10.2)), (h_v_a, .inl (cI, n_v_a, .inl v_a_a)), (h_v_b, .inl (cI, n_v_b, .inl v_b_a)), (h_v_five, .inl (cI, n_v_five, .inl v_five_a)), (h_v_left, .inl (cI, n_v_left, .inl v_left_a)), (h_v_right, .inl (cI, n_v_right, .inl v_right_a))]) (wc := [(h_v, .inr (7, [.ref h_v_text, .ref h_v_written, .int v_length, .int u_8.1, .int v_gone, .int v_thrown, .int v_were, .int v_none, .int v_beyond, .ref h_v_a, .ref h_v_b, .ref h_v_five, .ref h_v_left, .ref h_v_right, .ref h_v_part, .int v_aMany, .int v_bMany, .int v_fiveMany, .int v_leftMany, .int v_rightMany, .int v_partMany, .int v_twos, .int v_at, .int v_digits, .int v_power, .int v_good])), (h_v_written, .inl (cI, n_v_written, .inl u_8.2))]) (w' := [(h_v, .inr (7, [.ref h_v_text, .ref h_v_written, .int v_length, .int u_10.1, .int v_gone, .int v_thrown, .int v_were, .int v_none, .int v_beyond, .ref h_v_a, .ref h_v_b, .ref h_v_five, .ref h_v_left, .ref h_v_right, .ref h_v_part, .int v_aMany, .int v_bMany, .int v_fiveMany, .int v_leftMany, .int v_rightMany, .int v_partMany, .int v_twos, .int v_at, .int v_digits, .int v_power, .int v_good])), (h_v_written, .inl (cI, n_v_written, .inl u_10.2))]) hP hD hS hA [0, 1] [2, 3, 4, 5, 6] [5, 6, 0, 1, 2, 3, 4] rfl rfl (by decide) (by decide) rfl (by decide) (va_runV (As := [.int 45]) (rest := []) ⟨hx, hb, hml, hown, hw⟩ (c_Mod_lay l dC dI cI cC cB cJ _ h_v h_v_written h_v_text h_v_a h_v_b h_v_five h_v_left h_v_right h_v_part n_v_written 45 v_length u_8.1 v_gone v_thrown v_were v_none v_beyond v_aMany v_bMany v_fiveMany v_leftMany v_rightMany v_partMany v_twos v_at v_digits v_power v_good u_8.2 u_10 hu_10) (cwV 1 hw (zg_V wd_856 wd_858 we_2_5 wd_8 wd_859) rfl rfl rfl hd_Mod_lay ⟨Nat.le_of_ble_eq_true rfl, Nat.le_of_ble_eq_true rfl⟩) (zz_preV zz_TE (va_recv (q0 := 0) (ci := 7) hK hP rfl rfl) hP hD hK hS hA trivial [0, 1] rfl (by decide)) rfl rfl hl.1 rfl (lv_room (Nat.le_of_ble_eq_true rfl)) d_Mod_layDecimal_251 ⟨Nat.zero_le _, Nat.zero_le _⟩) (fun H locs hP hD hS => ?_)
      exact hL_254 y8 u_10.1 v_aMany v_bMany v_fiveMany v_leftMany v_rightMany v_twos v_power u_10.2 v_a_a v_b_a v_five_a v_left_a v_right_a ls _ _ (lv_sub hl [0, 2] rfl) hP hD hS hf
  have hL_168 : ∀ (n : Nat), ∀ (y4 : Int64) (y7 : Int32) (y9 : Int32) (v_laid : Int32) (v_aMany : Int32) (v_bMany : Int32) (v_fiveMany : Int32) (v_leftMany : Int32) (v_rightMany : Int32) (v_twos : Int32) (v_power : Int32) (v_written_a : Nat → Int32) (v_a_a : Nat → Int32) (v_b_a : Nat → Int32) (v_five_a : Nat → Int32) (v_left_a : Nat → Int32) (v_right_a : Nat → Int32) (ls : Array Slot) (H : Heap) (locs : List Loc), lv_has ls 10 [(0, .ref h_v), (4, .long y4), (7, .int y7), (9, .int y9)] → va_P (dC, dI) vwCl [(h_v, .inr (7, [.ref h_v_text, .ref h_v_written, .int v_length, .int v_laid, .int v_gone, .int v_thrown, .int v_were, .int v_none, .int v_beyond, .ref h_v_a, .ref h_v_b, .ref h_v_five, .ref h_v_left, .ref h_v_right, .ref h_v_part, .int v_aMany, .int v_bMany, .int v_fiveMany, .int v_leftMany, .int v_rightMany, .int v_partMany, .int v_twos, .int v_at, .int v_digits, .int v_power, .int v_good])), (h_v_written, .inl (cI, n_v_written, .inl v_written_a)), (h_v_a, .inl (cI, n_v_a, .inl v_a_a)), (h_v_b, .inl (cI, n_v_b, .inl v_b_a)), (h_v_five, .inl (cI, n_v_five, .inl v_five_a)), (h_v_left, .inl (cI, n_v_left, .inl v_left_a)), (h_v_right, .inl (cI, n_v_right, .inl v_right_a))] H → va_D A [(h_v, .inr (7, [.ref h_v_text, .ref h_v_written, .int v_length, .int v_laid, .int v_gone, .int v_thrown, .int v_were, .int v_none, .int v_beyond, .ref h_v_a, .ref h_v_b, .ref h_v_five, .ref h_v_left, .ref h_v_right, .ref h_v_part, .int v_aMany, .int v_bMany, .int v_fiveMany, .int v_leftMany, .int v_rightMany, .int v_partMany, .int v_twos, .int v_at, .int v_digits, .int v_power, .int v_good])), (h_v_written, .inl (cI, n_v_written, .inl v_written_a)), (h_v_a, .inl (cI, n_v_a, .inl v_a_a)), (h_v_b, .inl (cI, n_v_b, .inl v_b_a)), (h_v_five, .inl (cI, n_v_five, .inl v_five_a)), (h_v_left, .inl (cI, n_v_left, .inl v_left_a)), (h_v_right, .inl (cI, n_v_right, .inl v_right_a))] → va_S A s.heap H locs → f_Mod_layDecimal_168 fu n_v_written n_v_a n_v_b n_v_five n_v_left n_v_right x1 x3 n y4 y7 y9 v_laid v_aMany v_bMany v_fiveMany v_leftMany v_rightMany v_twos v_power v_written_a v_a_a v_b_a v_five_a v_left_a v_right_a = some u → W p l e (headSpec ws_Mod_layDecimal rm_Mod_layDecimal).room s m [.ref h_v, .long x1, .int x3].toArray below meth c H locs 0 0 Qq (F0 m 168 ls []) := by
    intro n
    induction n with
    | zero =>
      intro y4 y7 y9 v_laid v_aMany v_bMany v_fiveMany v_leftMany v_rightMany v_twos v_power v_written_a v_a_a v_b_a v_five_a v_left_a v_right_a ls H locs hl hP hD hS hf
      exact zz_no hf
    | succ n ih =>
      intro y4 y7 y9 v_laid v_aMany v_bMany v_fiveMany v_leftMany v_rightMany v_twos v_power v_written_a v_a_a v_b_a v_five_a v_left_a v_right_a ls H locs hl hP hD hS hf
      rw [f_Mod_layDecimal_168_s] at hf
      refine lv_iload hx hb d_Mod_layDecimal_168 (lv_at hl 3 rfl) ?_
      refine lv_iconst (v := (-1)) hx hb d_Mod_layDecimal_170 (by decide) ?_
      refine lv_icmp_ge (tgt := 186) hx hb d_Mod_layDecimal_171 (by decide) (fun hc => ?_) (fun hc => ?_)
      · have hf := zz_ifp hc hf
        refine lv_aload_n hx hb d_Mod_layDecimal_186 rfl (lv_at hl 0 rfl) ?_
        refine lv_lload hx hb d_Mod_layDecimal_187 (lv_at hl 1 rfl) ?_
        refine lv_iconst (v := 0) hx hb d_Mod_layDecimal_189 (by decide) ?_
        refine lv_iload hx hb d_Mod_layDecimal_190 (lv_at hl 2 rfl) ?_
        refine lv_iload hx hb d_Mod_layDecimal_192 (lv_at hl 2 rfl) ?_
        obtain ⟨u_13, hu_13, hf⟩ := zz_bd hf
        refine zz_cv (ws' := [(h_v, .inr (7, [.ref h_v_text, .ref h_v_written, .int v_length, .int u_13.1, .int v_gone, .int v_thrown, .int v_were, .int v_none, .int v_beyond, .ref h_v_a, .ref h_v_b, .ref h_v_five, .ref h_v_left, .ref h_v_right, .ref h_v_part, .int v_aMany, .int v_bMany, .int v_fiveMany, .int v_leftMany, .int v_rightMany, .int v_partMany, .int v_twos, .int v_at, .int v_digits, .int v_power, .int v_good])), (h_v_written, .inl (cI, n_v_written, .inl u_13.2)), (h_v_a, .inl (cI, n_v_a, .inl v_a_a)), (h_v_b, .inl (cI, n_v_b, .inl v_b_a)), (h_v_five, .inl (cI, n_v_five, .inl v_five_a)), (h_v_left, .inl (cI, n_v_left, .inl v_left_a)), (h_v_right, .inl (cI, n_v_right, .inl v_right_a))]) (wc := [(h_v, .inr (7, [.ref h_v_text, .ref h_v_written, .int v_length, .int v_laid, .int v_gone, .int v_thrown, .int v_were, .int v_none, .int v_beyond, .ref h_v_a, .ref h_v_b, .ref h_v_five, .ref h_v_left, .ref h_v_right, .ref h_v_part, .int v_aMany, .int v_bMany, .int v_fiveMany, .int v_leftMany, .int v_rightMany, .int v_partMany, .int v_twos, .int v_at, .int v_digits, .int v_power, .int v_good])), (h_v_written, .inl (cI, n_v_written, .inl v_written_a))]) (w' := [(h_v, .inr (7, [.ref h_v_text, .ref h_v_written, .int v_length, .int u_13.1, .int v_gone, .int v_thrown, .int v_were, .int v_none, .int v_beyond, .ref h_v_a, .ref h_v_b, .ref h_v_five, .ref h_v_left, .ref h_v_right, .ref h_v_part, .int v_aMany, .int v_bMany, .int v_fiveMany, .int v_leftMany, .int v_rightMany, .int v_partMany, .int v_twos, .int v_at, .int v_digits, .int v_power, .int v_good])), (h_v_written, .inl (cI, n_v_written, .inl u_13.2))]) hP hD hS hA [0, 1] [2, 3, 4, 5, 6] [5, 6, 0, 1, 2, 3, 4] rfl rfl (by decide) (by decide) rfl (by decide) (va_runV (As := [.long y4, .int 0, .int y7, .int y7]) (rest := []) ⟨hx, hb, hml, hown, hw⟩ (c_Mod_layDigits l dC dI cI cC cB cJ fu _ h_v h_v_written h_v_text h_v_a h_v_b h_v_five h_v_left h_v_right h_v_part n_v_written y4 0 y7 y7 v_length v_laid v_gone v_thrown v_were v_none v_beyond v_aMany v_bMany v_fiveMany v_leftMany v_rightMany v_partMany v_twos v_at v_digits v_power v_good v_written_a u_13 hu_13) (cwV 4 hw (zg_V wd_892 wd_894 we_2_13 wd_8 wd_895) rfl rfl rfl hd_Mod_layDigits ⟨Nat.le_of_ble_eq_true rfl, Nat.le_of_ble_eq_true rfl⟩) (zz_preV zz_TE (va_recv (q0 := 0) (ci := 7) hK hP rfl rfl) hP hD hK hS hA trivial [0, 1] rfl (by decide)) rfl rfl hl.1 rfl (lv_room (Nat.le_of_ble_eq_true rfl)) d_Mod_layDecimal_194 ⟨Nat.zero_le _, Nat.zero_le _⟩) (fun H locs hP hD hS => ?_)
        refine lv_goto (tgt := 271) hx hb d_Mod_layDecimal_197 (by decide) ?_
        cases hf
        exact hend 271 ls _ _ d_Mod_layDecimal_271 hP hD hS
      · have hf := zz_ifn hc hf
        refine lv_aload_n hx hb d_Mod_layDecimal_174 rfl (lv_at hl 0 rfl) ?_
        refine lv_bipush (v := 48) hx hb d_Mod_layDecimal_175 (by decide) ?_
        obtain ⟨u_14, hu_14, hf⟩ := zz_bd hf
        refine zz_cv (ws' := [(h_v, .inr (7, [.ref h_v_text, .ref h_v_written, .int v_length, .int u_14.1, .int v_gone, .int v_thrown, .int v_were, .int v_none, .int v_beyond, .ref h_v_a, .ref h_v_b, .ref h_v_five, .ref h_v_left, .ref h_v_right, .ref h_v_part, .int v_aMany, .int v_bMany, .int v_fiveMany, .int v_leftMany, .int v_rightMany, .int v_partMany, .int v_twos, .int v_at, .int v_digits, .int v_power, .int v_good])), (h_v_written, .inl (cI, n_v_written, .inl u_14.2)), (h_v_a, .inl (cI, n_v_a, .inl v_a_a)), (h_v_b, .inl (cI, n_v_b, .inl v_b_a)), (h_v_five, .inl (cI, n_v_five, .inl v_five_a)), (h_v_left, .inl (cI, n_v_left, .inl v_left_a)), (h_v_right, .inl (cI, n_v_right, .inl v_right_a))]) (wc := [(h_v, .inr (7, [.ref h_v_text, .ref h_v_written, .int v_length, .int v_laid, .int v_gone, .int v_thrown, .int v_were, .int v_none, .int v_beyond, .ref h_v_a, .ref h_v_b, .ref h_v_five, .ref h_v_left, .ref h_v_right, .ref h_v_part, .int v_aMany, .int v_bMany, .int v_fiveMany, .int v_leftMany, .int v_rightMany, .int v_partMany, .int v_twos, .int v_at, .int v_digits, .int v_power, .int v_good])), (h_v_written, .inl (cI, n_v_written, .inl v_written_a))]) (w' := [(h_v, .inr (7, [.ref h_v_text, .ref h_v_written, .int v_length, .int u_14.1, .int v_gone, .int v_thrown, .int v_were, .int v_none, .int v_beyond, .ref h_v_a, .ref h_v_b, .ref h_v_five, .ref h_v_left, .ref h_v_right, .ref h_v_part, .int v_aMany, .int v_bMany, .int v_fiveMany, .int v_leftMany, .int v_rightMany, .int v_partMany, .int v_twos, .int v_at, .int v_digits, .int v_power, .int v_good])), (h_v_written, .inl (cI, n_v_written, .inl u_14.2))]) hP hD hS hA [0, 1] [2, 3, 4, 5, 6] [5, 6, 0, 1, 2, 3, 4] rfl rfl (by decide) (by decide) rfl (by decide) (va_runV (As := [.int 48]) (rest := []) ⟨hx, hb, hml, hown, hw⟩ (c_Mod_lay l dC dI cI cC cB cJ _ h_v h_v_written h_v_text h_v_a h_v_b h_v_five h_v_left h_v_right h_v_part n_v_written 48 v_length v_laid v_gone v_thrown v_were v_none v_beyond v_aMany v_bMany v_fiveMany v_leftMany v_rightMany v_partMany v_twos v_at v_digits v_power v_good v_written_a u_14 hu_14) (cwV 1 hw (zg_V wd_856 wd_858 we_2_5 wd_8 wd_859) rfl rfl rfl hd_Mod_lay ⟨Nat.le_of_ble_eq_true rfl, Nat.le_of_ble_eq_true rfl⟩) (zz_preV zz_TE (va_recv (q0 := 0) (ci := 7) hK hP rfl rfl) hP hD hK hS hA trivial [0, 1] rfl (by decide)) rfl rfl hl.1 rfl (lv_room (Nat.le_of_ble_eq_true rfl)) d_Mod_layDecimal_177 ⟨Nat.zero_le _, Nat.zero_le _⟩) (fun H locs hP hD hS => ?_)
        refine lv_iinc (k := 3) (v := y9 + 1) hx hb d_Mod_layDecimal_180 hl rfl rfl (by decide) rfl (fun ls hl => ?_)
        have hl : lv_has ls 10 [(9, .int (y9 + 1)), (0, .ref h_v), (4, .long y4), (7, .int y7)] := hl
        refine lv_goto (tgt := 168) hx hb d_Mod_layDecimal_183 (by decide) ?_
        exact ih y4 y7 (y9 + 1) u_14.1 v_aMany v_bMany v_fiveMany v_leftMany v_rightMany v_twos v_power u_14.2 v_a_a v_b_a v_five_a v_left_a v_right_a ls _ _ (lv_sub hl [1, 2, 3, 0] rfl) hP hD hS hf
  have hL_133 : ∀ (y7 : Int32) (k1 : Int64) (k2 : Int32) (k3 : Int32) (v_laid : Int32) (v_aMany : Int32) (v_bMany : Int32) (v_fiveMany : Int32) (v_leftMany : Int32) (v_rightMany : Int32) (v_twos : Int32) (v_power : Int32) (v_written_a : Nat → Int32) (v_a_a : Nat → Int32) (v_b_a : Nat → Int32) (v_five_a : Nat → Int32) (v_left_a : Nat → Int32) (v_right_a : Nat → Int32) (ls : Array Slot) (H : Heap) (locs : List Loc), lv_has ls 10 [(7, .int y7)] → va_P (dC, dI) vwCl [(h_v, .inr (7, [.ref h_v_text, .ref h_v_written, .int v_length, .int v_laid, .int v_gone, .int v_thrown, .int v_were, .int v_none, .int v_beyond, .ref h_v_a, .ref h_v_b, .ref h_v_five, .ref h_v_left, .ref h_v_right, .ref h_v_part, .int v_aMany, .int v_bMany, .int v_fiveMany, .int v_leftMany, .int v_rightMany, .int v_partMany, .int v_twos, .int v_at, .int v_digits, .int v_power, .int v_good])), (h_v_written, .inl (cI, n_v_written, .inl v_written_a)), (h_v_a, .inl (cI, n_v_a, .inl v_a_a)), (h_v_b, .inl (cI, n_v_b, .inl v_b_a)), (h_v_five, .inl (cI, n_v_five, .inl v_five_a)), (h_v_left, .inl (cI, n_v_left, .inl v_left_a)), (h_v_right, .inl (cI, n_v_right, .inl v_right_a))] H → va_D A [(h_v, .inr (7, [.ref h_v_text, .ref h_v_written, .int v_length, .int v_laid, .int v_gone, .int v_thrown, .int v_were, .int v_none, .int v_beyond, .ref h_v_a, .ref h_v_b, .ref h_v_five, .ref h_v_left, .ref h_v_right, .ref h_v_part, .int v_aMany, .int v_bMany, .int v_fiveMany, .int v_leftMany, .int v_rightMany, .int v_partMany, .int v_twos, .int v_at, .int v_digits, .int v_power, .int v_good])), (h_v_written, .inl (cI, n_v_written, .inl v_written_a)), (h_v_a, .inl (cI, n_v_a, .inl v_a_a)), (h_v_b, .inl (cI, n_v_b, .inl v_b_a)), (h_v_five, .inl (cI, n_v_five, .inl v_five_a)), (h_v_left, .inl (cI, n_v_left, .inl v_left_a)), (h_v_right, .inl (cI, n_v_right, .inl v_right_a))] → va_S A s.heap H locs → f_Mod_layDecimal_133 fu n_v_written n_v_a n_v_b n_v_five n_v_left n_v_right x1 x3 y7 k1 k2 k3 v_laid v_aMany v_bMany v_fiveMany v_leftMany v_rightMany v_twos v_power v_written_a v_a_a v_b_a v_five_a v_left_a v_right_a = some u → W p l e (headSpec ws_Mod_layDecimal rm_Mod_layDecimal).room s m [.ref h_v, .long x1, .int x3].toArray below meth c H locs 0 0 Qq (F0 m 133 ls [.int k3, .int k2, .long k1, .ref h_v]) := by
    intro y7 k1 k2 k3 v_laid v_aMany v_bMany v_fiveMany v_leftMany v_rightMany v_twos v_power v_written_a v_a_a v_b_a v_five_a v_left_a v_right_a ls H locs hl hP hD hS hf
    unfold f_Mod_layDecimal_133 at hf
    refine lv_iload hx hb d_Mod_layDecimal_133 (lv_at hl 0 rfl) ?_
    obtain ⟨u_17, hu_17, hf⟩ := zz_bd hf
    refine zz_cv (ws' := [(h_v, .inr (7, [.ref h_v_text, .ref h_v_written, .int v_length, .int u_17.1, .int v_gone, .int v_thrown, .int v_were, .int v_none, .int v_beyond, .ref h_v_a, .ref h_v_b, .ref h_v_five, .ref h_v_left, .ref h_v_right, .ref h_v_part, .int v_aMany, .int v_bMany, .int v_fiveMany, .int v_leftMany, .int v_rightMany, .int v_partMany, .int v_twos, .int v_at, .int v_digits, .int v_power, .int v_good])), (h_v_written, .inl (cI, n_v_written, .inl u_17.2)), (h_v_a, .inl (cI, n_v_a, .inl v_a_a)), (h_v_b, .inl (cI, n_v_b, .inl v_b_a)), (h_v_five, .inl (cI, n_v_five, .inl v_five_a)), (h_v_left, .inl (cI, n_v_left, .inl v_left_a)), (h_v_right, .inl (cI, n_v_right, .inl v_right_a))]) (wc := [(h_v, .inr (7, [.ref h_v_text, .ref h_v_written, .int v_length, .int v_laid, .int v_gone, .int v_thrown, .int v_were, .int v_none, .int v_beyond, .ref h_v_a, .ref h_v_b, .ref h_v_five, .ref h_v_left, .ref h_v_right, .ref h_v_part, .int v_aMany, .int v_bMany, .int v_fiveMany, .int v_leftMany, .int v_rightMany, .int v_partMany, .int v_twos, .int v_at, .int v_digits, .int v_power, .int v_good])), (h_v_written, .inl (cI, n_v_written, .inl v_written_a))]) (w' := [(h_v, .inr (7, [.ref h_v_text, .ref h_v_written, .int v_length, .int u_17.1, .int v_gone, .int v_thrown, .int v_were, .int v_none, .int v_beyond, .ref h_v_a, .ref h_v_b, .ref h_v_five, .ref h_v_left, .ref h_v_right, .ref h_v_part, .int v_aMany, .int v_bMany, .int v_fiveMany, .int v_leftMany, .int v_rightMany, .int v_partMany, .int v_twos, .int v_at, .int v_digits, .int v_power, .int v_good])), (h_v_written, .inl (cI, n_v_written, .inl u_17.2))]) hP hD hS hA [0, 1] [2, 3, 4, 5, 6] [5, 6, 0, 1, 2, 3, 4] rfl rfl (by decide) (by decide) rfl (by decide) (va_runV (As := [.long k1, .int k2, .int k3, .int y7]) (rest := []) ⟨hx, hb, hml, hown, hw⟩ (c_Mod_layDigits l dC dI cI cC cB cJ fu _ h_v h_v_written h_v_text h_v_a h_v_b h_v_five h_v_left h_v_right h_v_part n_v_written k1 k2 k3 y7 v_length v_laid v_gone v_thrown v_were v_none v_beyond v_aMany v_bMany v_fiveMany v_leftMany v_rightMany v_partMany v_twos v_at v_digits v_power v_good v_written_a u_17 hu_17) (cwV 4 hw (zg_V wd_892 wd_894 we_2_13 wd_8 wd_895) rfl rfl rfl hd_Mod_layDigits ⟨Nat.le_of_ble_eq_true rfl, Nat.le_of_ble_eq_true rfl⟩) (zz_preV zz_TE (va_recv (q0 := 0) (ci := 7) hK hP rfl rfl) hP hD hK hS hA trivial [0, 1] rfl (by decide)) rfl rfl hl.1 rfl (lv_room (Nat.le_of_ble_eq_true rfl)) d_Mod_layDecimal_135 ⟨Nat.zero_le _, Nat.zero_le _⟩) (fun H locs hP hD hS => ?_)
    refine lv_goto (tgt := 271) hx hb d_Mod_layDecimal_138 (by decide) ?_
    cases hf
    exact hend 271 ls _ _ d_Mod_layDecimal_271 hP hD hS
  have hL_46 : ∀ (n : Nat), ∀ (y4 : Int64) (y6 : Int32) (y7 : Int32) (y8 : Int64) (v_laid : Int32) (v_aMany : Int32) (v_bMany : Int32) (v_fiveMany : Int32) (v_leftMany : Int32) (v_rightMany : Int32) (v_twos : Int32) (v_power : Int32) (v_written_a : Nat → Int32) (v_a_a : Nat → Int32) (v_b_a : Nat → Int32) (v_five_a : Nat → Int32) (v_left_a : Nat → Int32) (v_right_a : Nat → Int32) (ls : Array Slot) (H : Heap) (locs : List Loc), lv_has ls 10 [(0, .ref h_v), (4, .long y4), (6, .int y6), (7, .int y7), (8, .long y8)] → va_P (dC, dI) vwCl [(h_v, .inr (7, [.ref h_v_text, .ref h_v_written, .int v_length, .int v_laid, .int v_gone, .int v_thrown, .int v_were, .int v_none, .int v_beyond, .ref h_v_a, .ref h_v_b, .ref h_v_five, .ref h_v_left, .ref h_v_right, .ref h_v_part, .int v_aMany, .int v_bMany, .int v_fiveMany, .int v_leftMany, .int v_rightMany, .int v_partMany, .int v_twos, .int v_at, .int v_digits, .int v_power, .int v_good])), (h_v_written, .inl (cI, n_v_written, .inl v_written_a)), (h_v_a, .inl (cI, n_v_a, .inl v_a_a)), (h_v_b, .inl (cI, n_v_b, .inl v_b_a)), (h_v_five, .inl (cI, n_v_five, .inl v_five_a)), (h_v_left, .inl (cI, n_v_left, .inl v_left_a)), (h_v_right, .inl (cI, n_v_right, .inl v_right_a))] H → va_D A [(h_v, .inr (7, [.ref h_v_text, .ref h_v_written, .int v_length, .int v_laid, .int v_gone, .int v_thrown, .int v_were, .int v_none, .int v_beyond, .ref h_v_a, .ref h_v_b, .ref h_v_five, .ref h_v_left, .ref h_v_right, .ref h_v_part, .int v_aMany, .int v_bMany, .int v_fiveMany, .int v_leftMany, .int v_rightMany, .int v_partMany, .int v_twos, .int v_at, .int v_digits, .int v_power, .int v_good])), (h_v_written, .inl (cI, n_v_written, .inl v_written_a)), (h_v_a, .inl (cI, n_v_a, .inl v_a_a)), (h_v_b, .inl (cI, n_v_b, .inl v_b_a)), (h_v_five, .inl (cI, n_v_five, .inl v_five_a)), (h_v_left, .inl (cI, n_v_left, .inl v_left_a)), (h_v_right, .inl (cI, n_v_right, .inl v_right_a))] → va_S A s.heap H locs → f_Mod_layDecimal_46 fu n_v_written n_v_a n_v_b n_v_five n_v_left n_v_right x1 x3 n y4 y6 y7 y8 v_laid v_aMany v_bMany v_fiveMany v_leftMany v_rightMany v_twos v_power v_written_a v_a_a v_b_a v_five_a v_left_a v_right_a = some u → W p l e (headSpec ws_Mod_layDecimal rm_Mod_layDecimal).room s m [.ref h_v, .long x1, .int x3].toArray below meth c H locs 0 0 Qq (F0 m 46 ls []) := by
    intro n
    induction n with
    | zero =>
      intro y4 y6 y7 y8 v_laid v_aMany v_bMany v_fiveMany v_leftMany v_rightMany v_twos v_power v_written_a v_a_a v_b_a v_five_a v_left_a v_right_a ls H locs hl hP hD hS hf
      exact zz_no hf
    | succ n ih =>
      intro y4 y6 y7 y8 v_laid v_aMany v_bMany v_fiveMany v_leftMany v_rightMany v_twos v_power v_written_a v_a_a v_b_a v_five_a v_left_a v_right_a ls H locs hl hP hD hS hf
      rw [f_Mod_layDecimal_46_s] at hf
      refine lv_lload hx hb d_Mod_layDecimal_46 (lv_at hl 4 rfl) ?_
      refine lv_ldc2 (v := 9) hx hb hown (hw _ wd_891) d_Mod_layDecimal_48 ?_
      refine W.lcmp hx hb d_Mod_layDecimal_51 ?_
      refine lv_if_le (tgt := 69) hx hb d_Mod_layDecimal_52 (by decide) (fun hc => ?_) (fun hc => ?_)
      · have hf := zz_ifp hc hf
        refine lv_iload hx hb d_Mod_layDecimal_69 (lv_at hl 2 rfl) ?_
        refine lv_iload hx hb d_Mod_layDecimal_71 (lv_at hl 3 rfl) ?_
        refine lv_iadd hx hb d_Mod_layDecimal_73 ?_
        refine lv_iconst (v := 1) hx hb d_Mod_layDecimal_74 (by decide) ?_
        refine lv_isub hx hb d_Mod_layDecimal_75 ?_
        refine lv_topi (fun x8_2 e_x8_2 => ?_)
        have hf := zz_ltp hf x8_2 e_x8_2
        refine lv_istore hx hb d_Mod_layDecimal_76 hl (by decide) rfl (fun ls hl => ?_)
        have hl : lv_has ls 10 [(8, .int x8_2), (0, .ref h_v), (4, .long y4), (6, .int y6), (7, .int y7)] := hl
        refine lv_iload hx hb d_Mod_layDecimal_78 (lv_at hl 0 rfl) ?_
        refine lv_iconst (v := 0) hx hb d_Mod_layDecimal_80 (by decide) ?_
        refine lv_bipush (v := 6) hx hb d_Mod_layDecimal_81 (by decide) ?_
        obtain ⟨u_3, hu_3, hf⟩ := zz_bd hf
        refine zz_ci (ws' := [(h_v, .inr (7, [.ref h_v_text, .ref h_v_written, .int v_length, .int v_laid, .int v_gone, .int v_thrown, .int v_were, .int v_none, .int v_beyond, .ref h_v_a, .ref h_v_b, .ref h_v_five, .ref h_v_left, .ref h_v_right, .ref h_v_part, .int v_aMany, .int v_bMany, .int v_fiveMany, .int v_leftMany, .int v_rightMany, .int v_partMany, .int v_twos, .int v_at, .int v_digits, .int v_power, .int v_good])), (h_v_written, .inl (cI, n_v_written, .inl v_written_a)), (h_v_a, .inl (cI, n_v_a, .inl v_a_a)), (h_v_b, .inl (cI, n_v_b, .inl v_b_a)), (h_v_five, .inl (cI, n_v_five, .inl v_five_a)), (h_v_left, .inl (cI, n_v_left, .inl v_left_a)), (h_v_right, .inl (cI, n_v_right, .inl v_right_a))]) (wc := []) (w' := []) hP hD hS hA [] [0, 1, 2, 3, 4, 5, 6] [0, 1, 2, 3, 4, 5, 6] rfl rfl (by decide) (by decide) rfl (by decide) (va_runS (As := [.int x8_2, .int 0, .int 6]) (rest := []) ⟨hx, hb, hml, hown, hw⟩ (c_Mod_in l dC dI cI cC cB cJ _ x8_2 0 6 u_3 hu_3) (va_cwS 3 hw (zg_S wd_760 wd_761 wd_8 wd_762) rfl rfl rfl hd_Mod_in ⟨Nat.le_of_ble_eq_true rfl, Nat.le_of_ble_eq_true rfl⟩) (zz_preS zz_TE hP hD hK hS hA trivial [] rfl (by decide)) rfl rfl hl.1 rfl (lv_room (Nat.le_of_ble_eq_true rfl)) d_Mod_layDecimal_83 ⟨Nat.zero_le _, Nat.zero_le _⟩) (fun H locs hP hD hS => ?_)
        refine lv_if_eq (tgt := 141) hx hb d_Mod_layDecimal_86 (by decide) (fun hc => ?_) (fun hc => ?_)
        · have hf := zz_ifp hc hf
          refine lv_iload hx hb d_Mod_layDecimal_141 (lv_at hl 0 rfl) ?_
          refine lv_bipush (v := (-3)) hx hb d_Mod_layDecimal_143 (by decide) ?_
          refine lv_iconst (v := (-1)) hx hb d_Mod_layDecimal_145 (by decide) ?_
          obtain ⟨u_4, hu_4, hf⟩ := zz_bd hf
          refine zz_ci (ws' := [(h_v, .inr (7, [.ref h_v_text, .ref h_v_written, .int v_length, .int v_laid, .int v_gone, .int v_thrown, .int v_were, .int v_none, .int v_beyond, .ref h_v_a, .ref h_v_b, .ref h_v_five, .ref h_v_left, .ref h_v_right, .ref h_v_part, .int v_aMany, .int v_bMany, .int v_fiveMany, .int v_leftMany, .int v_rightMany, .int v_partMany, .int v_twos, .int v_at, .int v_digits, .int v_power, .int v_good])), (h_v_written, .inl (cI, n_v_written, .inl v_written_a)), (h_v_a, .inl (cI, n_v_a, .inl v_a_a)), (h_v_b, .inl (cI, n_v_b, .inl v_b_a)), (h_v_five, .inl (cI, n_v_five, .inl v_five_a)), (h_v_left, .inl (cI, n_v_left, .inl v_left_a)), (h_v_right, .inl (cI, n_v_right, .inl v_right_a))]) (wc := []) (w' := []) hP hD hS hA [] [0, 1, 2, 3, 4, 5, 6] [0, 1, 2, 3, 4, 5, 6] rfl rfl (by decide) (by decide) rfl (by decide) (va_runS (As := [.int x8_2, .int (-3), .int (-1)]) (rest := []) ⟨hx, hb, hml, hown, hw⟩ (c_Mod_in l dC dI cI cC cB cJ _ x8_2 (-3) (-1) u_4 hu_4) (va_cwS 3 hw (zg_S wd_760 wd_761 wd_8 wd_762) rfl rfl rfl hd_Mod_in ⟨Nat.le_of_ble_eq_true rfl, Nat.le_of_ble_eq_true rfl⟩) (zz_preS zz_TE hP hD hK hS hA trivial [] rfl (by decide)) rfl rfl hl.1 rfl (lv_room (Nat.le_of_ble_eq_true rfl)) d_Mod_layDecimal_146 ⟨Nat.zero_le _, Nat.zero_le _⟩) (fun H locs hP hD hS => ?_)
          refine lv_if_eq (tgt := 200) hx hb d_Mod_layDecimal_149 (by decide) (fun hc => ?_) (fun hc => ?_)
          · have hf := zz_ifp hc hf
            refine lv_aload_n hx hb d_Mod_layDecimal_200 rfl (lv_at hl 1 rfl) ?_
            refine lv_lload hx hb d_Mod_layDecimal_201 (lv_at hl 2 rfl) ?_
            refine lv_iconst (v := 0) hx hb d_Mod_layDecimal_203 (by decide) ?_
            refine lv_iconst (v := 1) hx hb d_Mod_layDecimal_204 (by decide) ?_
            refine lv_iload hx hb d_Mod_layDecimal_205 (lv_at hl 4 rfl) ?_
            obtain ⟨u_5, hu_5, hf⟩ := zz_bd hf
            refine zz_cv (ws' := [(h_v, .inr (7, [.ref h_v_text, .ref h_v_written, .int v_length, .int u_5.1, .int v_gone, .int v_thrown, .int v_were, .int v_none, .int v_beyond, .ref h_v_a, .ref h_v_b, .ref h_v_five, .ref h_v_left, .ref h_v_right, .ref h_v_part, .int v_aMany, .int v_bMany, .int v_fiveMany, .int v_leftMany, .int v_rightMany, .int v_partMany, .int v_twos, .int v_at, .int v_digits, .int v_power, .int v_good])), (h_v_written, .inl (cI, n_v_written, .inl u_5.2)), (h_v_a, .inl (cI, n_v_a, .inl v_a_a)), (h_v_b, .inl (cI, n_v_b, .inl v_b_a)), (h_v_five, .inl (cI, n_v_five, .inl v_five_a)), (h_v_left, .inl (cI, n_v_left, .inl v_left_a)), (h_v_right, .inl (cI, n_v_right, .inl v_right_a))]) (wc := [(h_v, .inr (7, [.ref h_v_text, .ref h_v_written, .int v_length, .int v_laid, .int v_gone, .int v_thrown, .int v_were, .int v_none, .int v_beyond, .ref h_v_a, .ref h_v_b, .ref h_v_five, .ref h_v_left, .ref h_v_right, .ref h_v_part, .int v_aMany, .int v_bMany, .int v_fiveMany, .int v_leftMany, .int v_rightMany, .int v_partMany, .int v_twos, .int v_at, .int v_digits, .int v_power, .int v_good])), (h_v_written, .inl (cI, n_v_written, .inl v_written_a))]) (w' := [(h_v, .inr (7, [.ref h_v_text, .ref h_v_written, .int v_length, .int u_5.1, .int v_gone, .int v_thrown, .int v_were, .int v_none, .int v_beyond, .ref h_v_a, .ref h_v_b, .ref h_v_five, .ref h_v_left, .ref h_v_right, .ref h_v_part, .int v_aMany, .int v_bMany, .int v_fiveMany, .int v_leftMany, .int v_rightMany, .int v_partMany, .int v_twos, .int v_at, .int v_digits, .int v_power, .int v_good])), (h_v_written, .inl (cI, n_v_written, .inl u_5.2))]) hP hD hS hA [0, 1] [2, 3, 4, 5, 6] [5, 6, 0, 1, 2, 3, 4] rfl rfl (by decide) (by decide) rfl (by decide) (va_runV (As := [.long y4, .int 0, .int 1, .int y7]) (rest := []) ⟨hx, hb, hml, hown, hw⟩ (c_Mod_layDigits l dC dI cI cC cB cJ fu _ h_v h_v_written h_v_text h_v_a h_v_b h_v_five h_v_left h_v_right h_v_part n_v_written y4 0 1 y7 v_length v_laid v_gone v_thrown v_were v_none v_beyond v_aMany v_bMany v_fiveMany v_leftMany v_rightMany v_partMany v_twos v_at v_digits v_power v_good v_written_a u_5 hu_5) (cwV 4 hw (zg_V wd_892 wd_894 we_2_13 wd_8 wd_895) rfl rfl rfl hd_Mod_layDigits ⟨Nat.le_of_ble_eq_true rfl, Nat.le_of_ble_eq_true rfl⟩) (zz_preV zz_TE (va_recv (q0 := 0) (ci := 7) hK hP rfl rfl) hP hD hK hS hA trivial [0, 1] rfl (by decide)) rfl rfl hl.1 rfl (lv_room (Nat.le_of_ble_eq_true rfl)) d_Mod_layDecimal_207 ⟨Nat.zero_le _, Nat.zero_le _⟩) (fun H locs hP hD hS => ?_)
            refine lv_aload_n hx hb d_Mod_layDecimal_210 rfl (lv_at hl 1 rfl) ?_
            refine lv_bipush (v := 46) hx hb d_Mod_layDecimal_211 (by decide) ?_
            obtain ⟨u_6, hu_6, hf⟩ := zz_bd hf
            refine zz_cv (ws' := [(h_v, .inr (7, [.ref h_v_text, .ref h_v_written, .int v_length, .int u_6.1, .int v_gone, .int v_thrown, .int v_were, .int v_none, .int v_beyond, .ref h_v_a, .ref h_v_b, .ref h_v_five, .ref h_v_left, .ref h_v_right, .ref h_v_part, .int v_aMany, .int v_bMany, .int v_fiveMany, .int v_leftMany, .int v_rightMany, .int v_partMany, .int v_twos, .int v_at, .int v_digits, .int v_power, .int v_good])), (h_v_written, .inl (cI, n_v_written, .inl u_6.2)), (h_v_a, .inl (cI, n_v_a, .inl v_a_a)), (h_v_b, .inl (cI, n_v_b, .inl v_b_a)), (h_v_five, .inl (cI, n_v_five, .inl v_five_a)), (h_v_left, .inl (cI, n_v_left, .inl v_left_a)), (h_v_right, .inl (cI, n_v_right, .inl v_right_a))]) (wc := [(h_v, .inr (7, [.ref h_v_text, .ref h_v_written, .int v_length, .int u_5.1, .int v_gone, .int v_thrown, .int v_were, .int v_none, .int v_beyond, .ref h_v_a, .ref h_v_b, .ref h_v_five, .ref h_v_left, .ref h_v_right, .ref h_v_part, .int v_aMany, .int v_bMany, .int v_fiveMany, .int v_leftMany, .int v_rightMany, .int v_partMany, .int v_twos, .int v_at, .int v_digits, .int v_power, .int v_good])), (h_v_written, .inl (cI, n_v_written, .inl u_5.2))]) (w' := [(h_v, .inr (7, [.ref h_v_text, .ref h_v_written, .int v_length, .int u_6.1, .int v_gone, .int v_thrown, .int v_were, .int v_none, .int v_beyond, .ref h_v_a, .ref h_v_b, .ref h_v_five, .ref h_v_left, .ref h_v_right, .ref h_v_part, .int v_aMany, .int v_bMany, .int v_fiveMany, .int v_leftMany, .int v_rightMany, .int v_partMany, .int v_twos, .int v_at, .int v_digits, .int v_power, .int v_good])), (h_v_written, .inl (cI, n_v_written, .inl u_6.2))]) hP hD hS hA [0, 1] [2, 3, 4, 5, 6] [5, 6, 0, 1, 2, 3, 4] rfl rfl (by decide) (by decide) rfl (by decide) (va_runV (As := [.int 46]) (rest := []) ⟨hx, hb, hml, hown, hw⟩ (c_Mod_lay l dC dI cI cC cB cJ _ h_v h_v_written h_v_text h_v_a h_v_b h_v_five h_v_left h_v_right h_v_part n_v_written 46 v_length u_5.1 v_gone v_thrown v_were v_none v_beyond v_aMany v_bMany v_fiveMany v_leftMany v_rightMany v_partMany v_twos v_at v_digits v_power v_good u_5.2 u_6 hu_6) (cwV 1 hw (zg_V wd_856 wd_858 we_2_5 wd_8 wd_859) rfl rfl rfl hd_Mod_lay ⟨Nat.le_of_ble_eq_true rfl, Nat.le_of_ble_eq_true rfl⟩) (zz_preV zz_TE (va_recv (q0 := 0) (ci := 7) hK hP rfl rfl) hP hD hK hS hA trivial [0, 1] rfl (by decide)) rfl rfl hl.1 rfl (lv_room (Nat.le_of_ble_eq_true rfl)) d_Mod_layDecimal_213 ⟨Nat.zero_le _, Nat.zero_le _⟩) (fun H locs hP hD hS => ?_)
            refine lv_aload_n hx hb d_Mod_layDecimal_216 rfl (lv_at hl 1 rfl) ?_
            refine lv_lload hx hb d_Mod_layDecimal_217 (lv_at hl 2 rfl) ?_
            refine lv_iconst (v := 1) hx hb d_Mod_layDecimal_219 (by decide) ?_
            refine lv_iload hx hb d_Mod_layDecimal_220 (lv_at hl 4 rfl) ?_
            refine lv_iconst (v := 1) hx hb d_Mod_layDecimal_222 (by decide) ?_
            refine lv_icmp_le (tgt := 231) hx hb d_Mod_layDecimal_223 (by decide) (fun hc => ?_) (fun hc => ?_)
            · have hf := zz_ifp hc hf
              refine lv_iconst (v := 2) hx hb d_Mod_layDecimal_231 (by decide) ?_
              exact hL_232 y7 x8_2 y4 1 2 u_6.1 v_aMany v_bMany v_fiveMany v_leftMany v_rightMany v_twos v_power u_6.2 v_a_a v_b_a v_five_a v_left_a v_right_a ls _ _ (lv_sub hl [1, 4, 0] rfl) hP hD hS hf
            · have hf := zz_ifn hc hf
              refine lv_iload hx hb d_Mod_layDecimal_226 (lv_at hl 4 rfl) ?_
              refine lv_goto (tgt := 232) hx hb d_Mod_layDecimal_228 (by decide) ?_
              exact hL_232 y7 x8_2 y4 1 y7 u_6.1 v_aMany v_bMany v_fiveMany v_leftMany v_rightMany v_twos v_power u_6.2 v_a_a v_b_a v_five_a v_left_a v_right_a ls _ _ (lv_sub hl [1, 4, 0] rfl) hP hD hS hf
          · have hf := zz_ifn hc hf
            refine lv_aload_n hx hb d_Mod_layDecimal_152 rfl (lv_at hl 1 rfl) ?_
            refine lv_bipush (v := 48) hx hb d_Mod_layDecimal_153 (by decide) ?_
            obtain ⟨u_11, hu_11, hf⟩ := zz_bd hf
            refine zz_cv (ws' := [(h_v, .inr (7, [.ref h_v_text, .ref h_v_written, .int v_length, .int u_11.1, .int v_gone, .int v_thrown, .int v_were, .int v_none, .int v_beyond, .ref h_v_a, .ref h_v_b, .ref h_v_five, .ref h_v_left, .ref h_v_right, .ref h_v_part, .int v_aMany, .int v_bMany, .int v_fiveMany, .int v_leftMany, .int v_rightMany, .int v_partMany, .int v_twos, .int v_at, .int v_digits, .int v_power, .int v_good])), (h_v_written, .inl (cI, n_v_written, .inl u_11.2)), (h_v_a, .inl (cI, n_v_a, .inl v_a_a)), (h_v_b, .inl (cI, n_v_b, .inl v_b_a)), (h_v_five, .inl (cI, n_v_five, .inl v_five_a)), (h_v_left, .inl (cI, n_v_left, .inl v_left_a)), (h_v_right, .inl (cI, n_v_right, .inl v_right_a))]) (wc := [(h_v, .inr (7, [.ref h_v_text, .ref h_v_written, .int v_length, .int v_laid, .int v_gone, .int v_thrown, .int v_were, .int v_none, .int v_beyond, .ref h_v_a, .ref h_v_b, .ref h_v_five, .ref h_v_left, .ref h_v_right, .ref h_v_part, .int v_aMany, .int v_bMany, .int v_fiveMany, .int v_leftMany, .int v_rightMany, .int v_partMany, .int v_twos, .int v_at, .int v_digits, .int v_power, .int v_good])), (h_v_written, .inl (cI, n_v_written, .inl v_written_a))]) (w' := [(h_v, .inr (7, [.ref h_v_text, .ref h_v_written, .int v_length, .int u_11.1, .int v_gone, .int v_thrown, .int v_were, .int v_none, .int v_beyond, .ref h_v_a, .ref h_v_b, .ref h_v_five, .ref h_v_left, .ref h_v_right, .ref h_v_part, .int v_aMany, .int v_bMany, .int v_fiveMany, .int v_leftMany, .int v_rightMany, .int v_partMany, .int v_twos, .int v_at, .int v_digits, .int v_power, .int v_good])), (h_v_written, .inl (cI, n_v_written, .inl u_11.2))]) hP hD hS hA [0, 1] [2, 3, 4, 5, 6] [5, 6, 0, 1, 2, 3, 4] rfl rfl (by decide) (by decide) rfl (by decide) (va_runV (As := [.int 48]) (rest := []) ⟨hx, hb, hml, hown, hw⟩ (c_Mod_lay l dC dI cI cC cB cJ _ h_v h_v_written h_v_text h_v_a h_v_b h_v_five h_v_left h_v_right h_v_part n_v_written 48 v_length v_laid v_gone v_thrown v_were v_none v_beyond v_aMany v_bMany v_fiveMany v_leftMany v_rightMany v_partMany v_twos v_at v_digits v_power v_good v_written_a u_11 hu_11) (cwV 1 hw (zg_V wd_856 wd_858 we_2_5 wd_8 wd_859) rfl rfl rfl hd_Mod_lay ⟨Nat.le_of_ble_eq_true rfl, Nat.le_of_ble_eq_true rfl⟩) (zz_preV zz_TE (va_recv (q0 := 0) (ci := 7) hK hP rfl rfl) hP hD hK hS hA trivial [0, 1] rfl (by decide)) rfl rfl hl.1 rfl (lv_room (Nat.le_of_ble_eq_true rfl)) d_Mod_layDecimal_155 ⟨Nat.zero_le _, Nat.zero_le _⟩) (fun H locs hP hD hS => ?_)
            refine lv_aload_n hx hb d_Mod_layDecimal_158 rfl (lv_at hl 1 rfl) ?_
            refine lv_bipush (v := 46) hx hb d_Mod_layDecimal_159 (by decide) ?_
            obtain ⟨u_12, hu_12, hf⟩ := zz_bd hf
            refine zz_cv (ws' := [(h_v, .inr (7, [.ref h_v_text, .ref h_v_written, .int v_length, .int u_12.1, .int v_gone, .int v_thrown, .int v_were, .int v_none, .int v_beyond, .ref h_v_a, .ref h_v_b, .ref h_v_five, .ref h_v_left, .ref h_v_right, .ref h_v_part, .int v_aMany, .int v_bMany, .int v_fiveMany, .int v_leftMany, .int v_rightMany, .int v_partMany, .int v_twos, .int v_at, .int v_digits, .int v_power, .int v_good])), (h_v_written, .inl (cI, n_v_written, .inl u_12.2)), (h_v_a, .inl (cI, n_v_a, .inl v_a_a)), (h_v_b, .inl (cI, n_v_b, .inl v_b_a)), (h_v_five, .inl (cI, n_v_five, .inl v_five_a)), (h_v_left, .inl (cI, n_v_left, .inl v_left_a)), (h_v_right, .inl (cI, n_v_right, .inl v_right_a))]) (wc := [(h_v, .inr (7, [.ref h_v_text, .ref h_v_written, .int v_length, .int u_11.1, .int v_gone, .int v_thrown, .int v_were, .int v_none, .int v_beyond, .ref h_v_a, .ref h_v_b, .ref h_v_five, .ref h_v_left, .ref h_v_right, .ref h_v_part, .int v_aMany, .int v_bMany, .int v_fiveMany, .int v_leftMany, .int v_rightMany, .int v_partMany, .int v_twos, .int v_at, .int v_digits, .int v_power, .int v_good])), (h_v_written, .inl (cI, n_v_written, .inl u_11.2))]) (w' := [(h_v, .inr (7, [.ref h_v_text, .ref h_v_written, .int v_length, .int u_12.1, .int v_gone, .int v_thrown, .int v_were, .int v_none, .int v_beyond, .ref h_v_a, .ref h_v_b, .ref h_v_five, .ref h_v_left, .ref h_v_right, .ref h_v_part, .int v_aMany, .int v_bMany, .int v_fiveMany, .int v_leftMany, .int v_rightMany, .int v_partMany, .int v_twos, .int v_at, .int v_digits, .int v_power, .int v_good])), (h_v_written, .inl (cI, n_v_written, .inl u_12.2))]) hP hD hS hA [0, 1] [2, 3, 4, 5, 6] [5, 6, 0, 1, 2, 3, 4] rfl rfl (by decide) (by decide) rfl (by decide) (va_runV (As := [.int 46]) (rest := []) ⟨hx, hb, hml, hown, hw⟩ (c_Mod_lay l dC dI cI cC cB cJ _ h_v h_v_written h_v_text h_v_a h_v_b h_v_five h_v_left h_v_right h_v_part n_v_written 46 v_length u_11.1 v_gone v_thrown v_were v_none v_beyond v_aMany v_bMany v_fiveMany v_leftMany v_rightMany v_partMany v_twos v_at v_digits v_power v_good u_11.2 u_12 hu_12) (cwV 1 hw (zg_V wd_856 wd_858 we_2_5 wd_8 wd_859) rfl rfl rfl hd_Mod_lay ⟨Nat.le_of_ble_eq_true rfl, Nat.le_of_ble_eq_true rfl⟩) (zz_preV zz_TE (va_recv (q0 := 0) (ci := 7) hK hP rfl rfl) hP hD hK hS hA trivial [0, 1] rfl (by decide)) rfl rfl hl.1 rfl (lv_room (Nat.le_of_ble_eq_true rfl)) d_Mod_layDecimal_161 ⟨Nat.zero_le _, Nat.zero_le _⟩) (fun H locs hP hD hS => ?_)
            refine lv_iload hx hb d_Mod_layDecimal_164 (lv_at hl 0 rfl) ?_
            refine lv_istore hx hb d_Mod_layDecimal_166 hl (by decide) rfl (fun ls hl => ?_)
            have hl : lv_has ls 10 [(9, .int x8_2), (8, .int x8_2), (0, .ref h_v), (4, .long y4), (6, .int y6), (7, .int y7)] := hl
            exact hL_168 fu y4 y7 x8_2 u_12.1 v_aMany v_bMany v_fiveMany v_leftMany v_rightMany v_twos v_power u_12.2 v_a_a v_b_a v_five_a v_left_a v_right_a ls _ _ (lv_sub hl [2, 3, 5, 0] rfl) hP hD hS hf
        · have hf := zz_ifn hc hf
          refine lv_aload_n hx hb d_Mod_layDecimal_89 rfl (lv_at hl 1 rfl) ?_
          refine lv_lload hx hb d_Mod_layDecimal_90 (lv_at hl 2 rfl) ?_
          refine lv_iconst (v := 0) hx hb d_Mod_layDecimal_92 (by decide) ?_
          refine lv_iload hx hb d_Mod_layDecimal_93 (lv_at hl 0 rfl) ?_
          refine lv_iconst (v := 1) hx hb d_Mod_layDecimal_95 (by decide) ?_
          refine lv_iadd hx hb d_Mod_layDecimal_96 ?_
          refine lv_iload hx hb d_Mod_layDecimal_97 (lv_at hl 4 rfl) ?_
          obtain ⟨u_15, hu_15, hf⟩ := zz_bd hf
          refine zz_cv (ws' := [(h_v, .inr (7, [.ref h_v_text, .ref h_v_written, .int v_length, .int u_15.1, .int v_gone, .int v_thrown, .int v_were, .int v_none, .int v_beyond, .ref h_v_a, .ref h_v_b, .ref h_v_five, .ref h_v_left, .ref h_v_right, .ref h_v_part, .int v_aMany, .int v_bMany, .int v_fiveMany, .int v_leftMany, .int v_rightMany, .int v_partMany, .int v_twos, .int v_at, .int v_digits, .int v_power, .int v_good])), (h_v_written, .inl (cI, n_v_written, .inl u_15.2)), (h_v_a, .inl (cI, n_v_a, .inl v_a_a)), (h_v_b, .inl (cI, n_v_b, .inl v_b_a)), (h_v_five, .inl (cI, n_v_five, .inl v_five_a)), (h_v_left, .inl (cI, n_v_left, .inl v_left_a)), (h_v_right, .inl (cI, n_v_right, .inl v_right_a))]) (wc := [(h_v, .inr (7, [.ref h_v_text, .ref h_v_written, .int v_length, .int v_laid, .int v_gone, .int v_thrown, .int v_were, .int v_none, .int v_beyond, .ref h_v_a, .ref h_v_b, .ref h_v_five, .ref h_v_left, .ref h_v_right, .ref h_v_part, .int v_aMany, .int v_bMany, .int v_fiveMany, .int v_leftMany, .int v_rightMany, .int v_partMany, .int v_twos, .int v_at, .int v_digits, .int v_power, .int v_good])), (h_v_written, .inl (cI, n_v_written, .inl v_written_a))]) (w' := [(h_v, .inr (7, [.ref h_v_text, .ref h_v_written, .int v_length, .int u_15.1, .int v_gone, .int v_thrown, .int v_were, .int v_none, .int v_beyond, .ref h_v_a, .ref h_v_b, .ref h_v_five, .ref h_v_left, .ref h_v_right, .ref h_v_part, .int v_aMany, .int v_bMany, .int v_fiveMany, .int v_leftMany, .int v_rightMany, .int v_partMany, .int v_twos, .int v_at, .int v_digits, .int v_power, .int v_good])), (h_v_written, .inl (cI, n_v_written, .inl u_15.2))]) hP hD hS hA [0, 1] [2, 3, 4, 5, 6] [5, 6, 0, 1, 2, 3, 4] rfl rfl (by decide) (by decide) rfl (by decide) (va_runV (As := [.long y4, .int 0, .int (x8_2 + 1), .int y7]) (rest := []) ⟨hx, hb, hml, hown, hw⟩ (c_Mod_layDigits l dC dI cI cC cB cJ fu _ h_v h_v_written h_v_text h_v_a h_v_b h_v_five h_v_left h_v_right h_v_part n_v_written y4 0 (x8_2 + 1) y7 v_length v_laid v_gone v_thrown v_were v_none v_beyond v_aMany v_bMany v_fiveMany v_leftMany v_rightMany v_partMany v_twos v_at v_digits v_power v_good v_written_a u_15 hu_15) (cwV 4 hw (zg_V wd_892 wd_894 we_2_13 wd_8 wd_895) rfl rfl rfl hd_Mod_layDigits ⟨Nat.le_of_ble_eq_true rfl, Nat.le_of_ble_eq_true rfl⟩) (zz_preV zz_TE (va_recv (q0 := 0) (ci := 7) hK hP rfl rfl) hP hD hK hS hA trivial [0, 1] rfl (by decide)) rfl rfl hl.1 rfl (lv_room (Nat.le_of_ble_eq_true rfl)) d_Mod_layDecimal_99 ⟨Nat.zero_le _, Nat.zero_le _⟩) (fun H locs hP hD hS => ?_)
          refine lv_aload_n hx hb d_Mod_layDecimal_102 rfl (lv_at hl 1 rfl) ?_
          refine lv_bipush (v := 46) hx hb d_Mod_layDecimal_103 (by decide) ?_
          obtain ⟨u_16, hu_16, hf⟩ := zz_bd hf
          refine zz_cv (ws' := [(h_v, .inr (7, [.ref h_v_text, .ref h_v_written, .int v_length, .int u_16.1, .int v_gone, .int v_thrown, .int v_were, .int v_none, .int v_beyond, .ref h_v_a, .ref h_v_b, .ref h_v_five, .ref h_v_left, .ref h_v_right, .ref h_v_part, .int v_aMany, .int v_bMany, .int v_fiveMany, .int v_leftMany, .int v_rightMany, .int v_partMany, .int v_twos, .int v_at, .int v_digits, .int v_power, .int v_good])), (h_v_written, .inl (cI, n_v_written, .inl u_16.2)), (h_v_a, .inl (cI, n_v_a, .inl v_a_a)), (h_v_b, .inl (cI, n_v_b, .inl v_b_a)), (h_v_five, .inl (cI, n_v_five, .inl v_five_a)), (h_v_left, .inl (cI, n_v_left, .inl v_left_a)), (h_v_right, .inl (cI, n_v_right, .inl v_right_a))]) (wc := [(h_v, .inr (7, [.ref h_v_text, .ref h_v_written, .int v_length, .int u_15.1, .int v_gone, .int v_thrown, .int v_were, .int v_none, .int v_beyond, .ref h_v_a, .ref h_v_b, .ref h_v_five, .ref h_v_left, .ref h_v_right, .ref h_v_part, .int v_aMany, .int v_bMany, .int v_fiveMany, .int v_leftMany, .int v_rightMany, .int v_partMany, .int v_twos, .int v_at, .int v_digits, .int v_power, .int v_good])), (h_v_written, .inl (cI, n_v_written, .inl u_15.2))]) (w' := [(h_v, .inr (7, [.ref h_v_text, .ref h_v_written, .int v_length, .int u_16.1, .int v_gone, .int v_thrown, .int v_were, .int v_none, .int v_beyond, .ref h_v_a, .ref h_v_b, .ref h_v_five, .ref h_v_left, .ref h_v_right, .ref h_v_part, .int v_aMany, .int v_bMany, .int v_fiveMany, .int v_leftMany, .int v_rightMany, .int v_partMany, .int v_twos, .int v_at, .int v_digits, .int v_power, .int v_good])), (h_v_written, .inl (cI, n_v_written, .inl u_16.2))]) hP hD hS hA [0, 1] [2, 3, 4, 5, 6] [5, 6, 0, 1, 2, 3, 4] rfl rfl (by decide) (by decide) rfl (by decide) (va_runV (As := [.int 46]) (rest := []) ⟨hx, hb, hml, hown, hw⟩ (c_Mod_lay l dC dI cI cC cB cJ _ h_v h_v_written h_v_text h_v_a h_v_b h_v_five h_v_left h_v_right h_v_part n_v_written 46 v_length u_15.1 v_gone v_thrown v_were v_none v_beyond v_aMany v_bMany v_fiveMany v_leftMany v_rightMany v_partMany v_twos v_at v_digits v_power v_good u_15.2 u_16 hu_16) (cwV 1 hw (zg_V wd_856 wd_858 we_2_5 wd_8 wd_859) rfl rfl rfl hd_Mod_lay ⟨Nat.le_of_ble_eq_true rfl, Nat.le_of_ble_eq_true rfl⟩) (zz_preV zz_TE (va_recv (q0 := 0) (ci := 7) hK hP rfl rfl) hP hD hK hS hA trivial [0, 1] rfl (by decide)) rfl rfl hl.1 rfl (lv_room (Nat.le_of_ble_eq_true rfl)) d_Mod_layDecimal_105 ⟨Nat.zero_le _, Nat.zero_le _⟩) (fun H locs hP hD hS => ?_)
          refine lv_aload_n hx hb d_Mod_layDecimal_108 rfl (lv_at hl 1 rfl) ?_
          refine lv_lload hx hb d_Mod_layDecimal_109 (lv_at hl 2 rfl) ?_
          refine lv_iload hx hb d_Mod_layDecimal_111 (lv_at hl 0 rfl) ?_
          refine lv_iconst (v := 1) hx hb d_Mod_layDecimal_113 (by decide) ?_
          refine lv_iadd hx hb d_Mod_layDecimal_114 ?_
          refine lv_iload hx hb d_Mod_layDecimal_115 (lv_at hl 4 rfl) ?_
          refine lv_iload hx hb d_Mod_layDecimal_117 (lv_at hl 0 rfl) ?_
          refine lv_iconst (v := 1) hx hb d_Mod_layDecimal_119 (by decide) ?_
          refine lv_iadd hx hb d_Mod_layDecimal_120 ?_
          refine lv_icmp_le (tgt := 129) hx hb d_Mod_layDecimal_121 (by decide) (fun hc => ?_) (fun hc => ?_)
          · have hf := zz_ifp hc hf
            refine lv_iload hx hb d_Mod_layDecimal_129 (lv_at hl 0 rfl) ?_
            refine lv_iconst (v := 2) hx hb d_Mod_layDecimal_131 (by decide) ?_
            refine lv_iadd hx hb d_Mod_layDecimal_132 ?_
            exact hL_133 y7 y4 (x8_2 + 1) (x8_2 + 2) u_16.1 v_aMany v_bMany v_fiveMany v_leftMany v_rightMany v_twos v_power u_16.2 v_a_a v_b_a v_five_a v_left_a v_right_a ls _ _ (lv_sub hl [4] rfl) hP hD hS hf
          · have hf := zz_ifn hc hf
            refine lv_iload hx hb d_Mod_layDecimal_124 (lv_at hl 4 rfl) ?_
            refine lv_goto (tgt := 133) hx hb d_Mod_layDecimal_126 (by decide) ?_
            exact hL_133 y7 y4 (x8_2 + 1) y7 u_16.1 v_aMany v_bMany v_fiveMany v_leftMany v_rightMany v_twos v_power u_16.2 v_a_a v_b_a v_five_a v_left_a v_right_a ls _ _ (lv_sub hl [4] rfl) hP hD hS hf
      · have hf := zz_ifn hc hf
        refine lv_iinc (k := 3) (v := y7 + 1) hx hb d_Mod_layDecimal_55 hl rfl rfl (by decide) rfl (fun ls hl => ?_)
        have hl : lv_has ls 10 [(7, .int (y7 + 1)), (0, .ref h_v), (4, .long y4), (6, .int y6), (8, .long y8)] := hl
        refine lv_lload hx hb d_Mod_layDecimal_58 (lv_at hl 4 rfl) ?_
        refine lv_ldc2 (v := 10) hx hb hown (hw _ wd_870) d_Mod_layDecimal_60 ?_
        refine lv_ldiv hx hb d_Mod_layDecimal_63 (by decide) ?_
        refine lv_topl (fun x8_18 e_x8_18 => ?_)
        have hf := zz_ltp hf x8_18 e_x8_18
        refine lv_lstore hx hb d_Mod_layDecimal_64 hl (by decide) rfl (fun ls hl => ?_)
        have hl : lv_has ls 10 [(8, .long x8_18), (7, .int (y7 + 1)), (0, .ref h_v), (4, .long y4), (6, .int y6)] := hl
        refine lv_goto (tgt := 46) hx hb d_Mod_layDecimal_66 (by decide) ?_
        exact ih y4 y6 (y7 + 1) x8_18 v_laid v_aMany v_bMany v_fiveMany v_leftMany v_rightMany v_twos v_power v_written_a v_a_a v_b_a v_five_a v_left_a v_right_a ls _ _ (lv_sub hl [2, 3, 4, 1, 0] rfl) hP hD hS hf
  have hL_14 : ∀ (n : Nat), ∀ (y4 : Int64) (y6 : Int32) (v_laid : Int32) (v_aMany : Int32) (v_bMany : Int32) (v_fiveMany : Int32) (v_leftMany : Int32) (v_rightMany : Int32) (v_twos : Int32) (v_power : Int32) (v_written_a : Nat → Int32) (v_a_a : Nat → Int32) (v_b_a : Nat → Int32) (v_five_a : Nat → Int32) (v_left_a : Nat → Int32) (v_right_a : Nat → Int32) (ls : Array Slot) (H : Heap) (locs : List Loc), lv_has ls 10 [(0, .ref h_v), (4, .long y4), (6, .int y6)] → va_P (dC, dI) vwCl [(h_v, .inr (7, [.ref h_v_text, .ref h_v_written, .int v_length, .int v_laid, .int v_gone, .int v_thrown, .int v_were, .int v_none, .int v_beyond, .ref h_v_a, .ref h_v_b, .ref h_v_five, .ref h_v_left, .ref h_v_right, .ref h_v_part, .int v_aMany, .int v_bMany, .int v_fiveMany, .int v_leftMany, .int v_rightMany, .int v_partMany, .int v_twos, .int v_at, .int v_digits, .int v_power, .int v_good])), (h_v_written, .inl (cI, n_v_written, .inl v_written_a)), (h_v_a, .inl (cI, n_v_a, .inl v_a_a)), (h_v_b, .inl (cI, n_v_b, .inl v_b_a)), (h_v_five, .inl (cI, n_v_five, .inl v_five_a)), (h_v_left, .inl (cI, n_v_left, .inl v_left_a)), (h_v_right, .inl (cI, n_v_right, .inl v_right_a))] H → va_D A [(h_v, .inr (7, [.ref h_v_text, .ref h_v_written, .int v_length, .int v_laid, .int v_gone, .int v_thrown, .int v_were, .int v_none, .int v_beyond, .ref h_v_a, .ref h_v_b, .ref h_v_five, .ref h_v_left, .ref h_v_right, .ref h_v_part, .int v_aMany, .int v_bMany, .int v_fiveMany, .int v_leftMany, .int v_rightMany, .int v_partMany, .int v_twos, .int v_at, .int v_digits, .int v_power, .int v_good])), (h_v_written, .inl (cI, n_v_written, .inl v_written_a)), (h_v_a, .inl (cI, n_v_a, .inl v_a_a)), (h_v_b, .inl (cI, n_v_b, .inl v_b_a)), (h_v_five, .inl (cI, n_v_five, .inl v_five_a)), (h_v_left, .inl (cI, n_v_left, .inl v_left_a)), (h_v_right, .inl (cI, n_v_right, .inl v_right_a))] → va_S A s.heap H locs → f_Mod_layDecimal_14 fu n_v_written n_v_a n_v_b n_v_five n_v_left n_v_right x1 x3 n y4 y6 v_laid v_aMany v_bMany v_fiveMany v_leftMany v_rightMany v_twos v_power v_written_a v_a_a v_b_a v_five_a v_left_a v_right_a = some u → W p l e (headSpec ws_Mod_layDecimal rm_Mod_layDecimal).room s m [.ref h_v, .long x1, .int x3].toArray below meth c H locs 0 0 Qq (F0 m 14 ls []) := by
    intro n
    induction n with
    | zero =>
      intro y4 y6 v_laid v_aMany v_bMany v_fiveMany v_leftMany v_rightMany v_twos v_power v_written_a v_a_a v_b_a v_five_a v_left_a v_right_a ls H locs hl hP hD hS hf
      exact zz_no hf
    | succ n ih =>
      intro y4 y6 v_laid v_aMany v_bMany v_fiveMany v_leftMany v_rightMany v_twos v_power v_written_a v_a_a v_b_a v_five_a v_left_a v_right_a ls H locs hl hP hD hS hf
      rw [f_Mod_layDecimal_14_s] at hf
      refine lv_lload hx hb d_Mod_layDecimal_14 (lv_at hl 1 rfl) ?_
      refine lv_ldc2 (v := 10) hx hb hown (hw _ wd_870) d_Mod_layDecimal_16 ?_
      refine lv_lrem hx hb d_Mod_layDecimal_19 (by decide) ?_
      refine lv_lconst (v := 0) hx hb d_Mod_layDecimal_20 (by decide) ?_
      refine W.lcmp hx hb d_Mod_layDecimal_21 ?_
      refine lv_if_ne (tgt := 39) hx hb d_Mod_layDecimal_22 (by decide) (fun hc => ?_) (fun hc => ?_)
      · have hf := zz_ifn hc hf
        refine lv_iconst (v := 1) hx hb d_Mod_layDecimal_39 (by decide) ?_
        refine lv_istore hx hb d_Mod_layDecimal_40 hl (by decide) rfl (fun ls hl => ?_)
        have hl : lv_has ls 10 [(7, .int 1), (0, .ref h_v), (4, .long y4), (6, .int y6)] := hl
        refine lv_lload hx hb d_Mod_layDecimal_42 (lv_at hl 2 rfl) ?_
        refine lv_lstore hx hb d_Mod_layDecimal_44 hl (by decide) rfl (fun ls hl => ?_)
        have hl : lv_has ls 10 [(8, .long y4), (7, .int 1), (0, .ref h_v), (4, .long y4), (6, .int y6)] := hl
        exact hL_46 fu y4 y6 1 y4 v_laid v_aMany v_bMany v_fiveMany v_leftMany v_rightMany v_twos v_power v_written_a v_a_a v_b_a v_five_a v_left_a v_right_a ls _ _ (lv_sub hl [2, 3, 4, 1, 0] rfl) hP hD hS hf
      · have hf := zz_ifp hc hf
        refine lv_lload hx hb d_Mod_layDecimal_25 (lv_at hl 1 rfl) ?_
        refine lv_ldc2 (v := 10) hx hb hown (hw _ wd_870) d_Mod_layDecimal_27 ?_
        refine lv_ldiv hx hb d_Mod_layDecimal_30 (by decide) ?_
        refine lv_topl (fun x4_19 e_x4_19 => ?_)
        have hf := zz_ltp hf x4_19 e_x4_19
        refine lv_lstore hx hb d_Mod_layDecimal_31 hl (by decide) rfl (fun ls hl => ?_)
        have hl : lv_has ls 10 [(4, .long x4_19), (0, .ref h_v), (6, .int y6)] := hl
        refine lv_iinc (k := 2) (v := y6 + 1) hx hb d_Mod_layDecimal_33 hl rfl rfl (by decide) rfl (fun ls hl => ?_)
        have hl : lv_has ls 10 [(6, .int (y6 + 1)), (4, .long x4_19), (0, .ref h_v)] := hl
        refine lv_goto (tgt := 14) hx hb d_Mod_layDecimal_36 (by decide) ?_
        exact ih x4_19 (y6 + 1) v_laid v_aMany v_bMany v_fiveMany v_leftMany v_rightMany v_twos v_power v_written_a v_a_a v_b_a v_five_a v_left_a v_right_a ls _ _ (lv_sub hl [2, 1, 0] rfl) hP hD hS hf
  unfold f_Mod_layDecimal at hf
  refine lv_aload_n hx hb d_Mod_layDecimal_0 rfl (lv_at hl 0 rfl) ?_
  refine lv_lload_n hx hb d_Mod_layDecimal_1 rfl (lv_at hl 1 rfl) ?_
  refine lv_iload_n hx hb d_Mod_layDecimal_2 rfl (lv_at hl 2 rfl) ?_
  obtain ⟨u_1, hu_1, hf⟩ := zz_bd hf
  refine zz_cl (ws' := [(h_v, .inr (7, [.ref h_v_text, .ref h_v_written, .int v_length, .int v_laid, .int v_gone, .int v_thrown, .int v_were, .int v_none, .int v_beyond, .ref h_v_a, .ref h_v_b, .ref h_v_five, .ref h_v_left, .ref h_v_right, .ref h_v_part, .int u_1.2.1, .int u_1.2.2.1, .int u_1.2.2.2.1, .int u_1.2.2.2.2.1, .int u_1.2.2.2.2.2.1, .int v_partMany, .int u_1.2.2.2.2.2.2.1, .int v_at, .int v_digits, .int u_1.2.2.2.2.2.2.2.1, .int v_good])), (h_v_written, .inl (cI, n_v_written, .inl v_written_a)), (h_v_a, .inl (cI, n_v_a, .inl u_1.2.2.2.2.2.2.2.2.1)), (h_v_b, .inl (cI, n_v_b, .inl u_1.2.2.2.2.2.2.2.2.2.1)), (h_v_five, .inl (cI, n_v_five, .inl u_1.2.2.2.2.2.2.2.2.2.2.1)), (h_v_left, .inl (cI, n_v_left, .inl u_1.2.2.2.2.2.2.2.2.2.2.2.1)), (h_v_right, .inl (cI, n_v_right, .inl u_1.2.2.2.2.2.2.2.2.2.2.2.2))]) (wc := [(h_v, .inr (7, [.ref h_v_text, .ref h_v_written, .int v_length, .int v_laid, .int v_gone, .int v_thrown, .int v_were, .int v_none, .int v_beyond, .ref h_v_a, .ref h_v_b, .ref h_v_five, .ref h_v_left, .ref h_v_right, .ref h_v_part, .int v_aMany, .int v_bMany, .int v_fiveMany, .int v_leftMany, .int v_rightMany, .int v_partMany, .int v_twos, .int v_at, .int v_digits, .int v_power, .int v_good])), (h_v_a, .inl (cI, n_v_a, .inl v_a_a)), (h_v_b, .inl (cI, n_v_b, .inl v_b_a)), (h_v_five, .inl (cI, n_v_five, .inl v_five_a)), (h_v_left, .inl (cI, n_v_left, .inl v_left_a)), (h_v_right, .inl (cI, n_v_right, .inl v_right_a))]) (w' := [(h_v, .inr (7, [.ref h_v_text, .ref h_v_written, .int v_length, .int v_laid, .int v_gone, .int v_thrown, .int v_were, .int v_none, .int v_beyond, .ref h_v_a, .ref h_v_b, .ref h_v_five, .ref h_v_left, .ref h_v_right, .ref h_v_part, .int u_1.2.1, .int u_1.2.2.1, .int u_1.2.2.2.1, .int u_1.2.2.2.2.1, .int u_1.2.2.2.2.2.1, .int v_partMany, .int u_1.2.2.2.2.2.2.1, .int v_at, .int v_digits, .int u_1.2.2.2.2.2.2.2.1, .int v_good])), (h_v_a, .inl (cI, n_v_a, .inl u_1.2.2.2.2.2.2.2.2.1)), (h_v_b, .inl (cI, n_v_b, .inl u_1.2.2.2.2.2.2.2.2.2.1)), (h_v_five, .inl (cI, n_v_five, .inl u_1.2.2.2.2.2.2.2.2.2.2.1)), (h_v_left, .inl (cI, n_v_left, .inl u_1.2.2.2.2.2.2.2.2.2.2.2.1)), (h_v_right, .inl (cI, n_v_right, .inl u_1.2.2.2.2.2.2.2.2.2.2.2.2))]) hP hD hS hA [0, 2, 3, 4, 5, 6] [1] [1, 0, 2, 3, 4, 5, 6] rfl rfl (by decide) (by decide) rfl (by decide) (va_runV (As := [.long x1, .int x3]) (rest := []) ⟨hx, hb, hml, hown, hw⟩ (c_Mod_shortest l dC dI cI cC cB cJ fu _ h_v h_v_a h_v_b h_v_five h_v_left h_v_right h_v_text h_v_written h_v_part n_v_a n_v_b n_v_five n_v_left n_v_right x1 x3 v_length v_laid v_gone v_thrown v_were v_none v_beyond v_aMany v_bMany v_fiveMany v_leftMany v_rightMany v_partMany v_twos v_at v_digits v_power v_good v_a_a v_b_a v_five_a v_left_a v_right_a u_1 hu_1) (cwV 2 hw (zg_V wd_866 wd_868 we_2_7 wd_8 wd_869) rfl rfl rfl hd_Mod_shortest ⟨Nat.le_of_ble_eq_true rfl, Nat.le_of_ble_eq_true rfl⟩) (zz_preV zz_TE (va_recv (q0 := 0) (ci := 7) hK hP rfl rfl) hP hD hK hS hA trivial [0, 2, 3, 4, 5, 6] rfl (by decide)) rfl rfl hl.1 rfl (lv_room (Nat.le_of_ble_eq_true rfl)) d_Mod_layDecimal_3 ⟨Nat.zero_le _, Nat.zero_le _⟩) (fun H locs hP hD hS => ?_)
  refine lv_lstore hx hb d_Mod_layDecimal_6 hl (by decide) rfl (fun ls hl => ?_)
  have hl : lv_has ls 10 [(4, .long u_1.1), (0, .ref h_v), (1, .long x1), (3, .int x3)] := hl
  refine lv_aload_n hx hb d_Mod_layDecimal_8 rfl (lv_at hl 1 rfl) ?_
  refine va_get (D := (dC, dI)) (ci := 7) (v := .int u_1.2.2.2.2.2.2.2.1) (C := R_Mod) (T := T_Mod) (N := 26) hx hb hw in_Mod hown hK hP 0 rfl rfl 24 (by decide) (hw _ wd_697) (fun _ h9 => h9) rfl d_Mod_layDecimal_9 ?_
  refine lv_istore hx hb d_Mod_layDecimal_12 hl (by decide) rfl (fun ls hl => ?_)
  have hl : lv_has ls 10 [(6, .int u_1.2.2.2.2.2.2.2.1), (4, .long u_1.1), (0, .ref h_v), (1, .long x1), (3, .int x3)] := hl
  exact hL_14 fu u_1.1 u_1.2.2.2.2.2.2.2.1 v_laid u_1.2.1 u_1.2.2.1 u_1.2.2.2.1 u_1.2.2.2.2.1 u_1.2.2.2.2.2.1 u_1.2.2.2.2.2.2.1 u_1.2.2.2.2.2.2.2.1 v_written_a u_1.2.2.2.2.2.2.2.2.1 u_1.2.2.2.2.2.2.2.2.2.1 u_1.2.2.2.2.2.2.2.2.2.2.1 u_1.2.2.2.2.2.2.2.2.2.2.2.1 u_1.2.2.2.2.2.2.2.2.2.2.2.2 ls _ _ (lv_sub hl [2, 1, 0] rfl) hP hD hS hf
abbrev ws_Mod_layWord : List Cond := .code y_Mod_layWord prog_10_method_36_code 5 none :: zw
abbrev rm_Mod_layWord : Room := { frames := 1, cells := 0, slots := 0, locals := 21 }
theorem hd_Mod_layWord : y_Mod_layWord.cls = "RealTextModel" ∧ y_Mod_layWord.cls ≠ "java/lang/invoke/MethodHandle" ∧ y_Mod_layWord.cls ≠ "java/lang/invoke/VarHandle" ∧ (parseMethodDescriptor y_Mod_layWord.desc).map (fun d => d.parameters.length) = some 2 := by decide +kernel
theorem d_Mod_layWord_0 : decode prog_10_method_36_code 0 = .ok (.bipush 8, 2) := by decide +kernel
theorem d_Mod_layWord_2 : decode prog_10_method_36_code 2 = .ok (.iload_n 3, 1) := by decide +kernel
theorem d_Mod_layWord_3 : decode prog_10_method_36_code 3 = .ok (.imul, 1) := by decide +kernel
theorem d_Mod_layWord_4 : decode prog_10_method_36_code 4 = .ok (.bipush 8, 2) := by decide +kernel
theorem d_Mod_layWord_6 : decode prog_10_method_36_code 6 = .ok (.isub, 1) := by decide +kernel
theorem d_Mod_layWord_7 : decode prog_10_method_36_code 7 = .ok (.istore 4, 2) := by decide +kernel
theorem d_Mod_layWord_9 : decode prog_10_method_36_code 9 = .ok (.iload 4, 2) := by decide +kernel
theorem d_Mod_layWord_11 : decode prog_10_method_36_code 11 = .ok (.ifCond .lt 22, 3) := by decide +kernel
theorem d_Mod_layWord_14 : decode prog_10_method_36_code 14 = .ok (.aload_n 0, 1) := by decide +kernel
theorem d_Mod_layWord_15 : decode prog_10_method_36_code 15 = .ok (.lload_n 1, 1) := by decide +kernel
theorem d_Mod_layWord_16 : decode prog_10_method_36_code 16 = .ok (.iload 4, 2) := by decide +kernel
theorem d_Mod_layWord_18 : decode prog_10_method_36_code 18 = .ok (.lshr, 1) := by decide +kernel
theorem d_Mod_layWord_19 : decode prog_10_method_36_code 19 = .ok (.ldc2_w 212, 3) := by decide +kernel
theorem d_Mod_layWord_22 : decode prog_10_method_36_code 22 = .ok (.land, 1) := by decide +kernel
theorem d_Mod_layWord_23 : decode prog_10_method_36_code 23 = .ok (.l2i, 1) := by decide +kernel
theorem d_Mod_layWord_24 : decode prog_10_method_36_code 24 = .ok (.invokevirtual 197, 3) := by decide +kernel
theorem d_Mod_layWord_27 : decode prog_10_method_36_code 27 = .ok (.iinc 4 (-8), 3) := by decide +kernel
theorem d_Mod_layWord_30 : decode prog_10_method_36_code 30 = .ok (.goto (-21), 3) := by decide +kernel
theorem d_Mod_layWord_33 : decode prog_10_method_36_code 33 = .ok (.return_, 1) := by decide +kernel
def f_Mod_layWord_9 (fu : Nat) (n_v_written : Nat) (x1 : Int64) (x3 : Int32)  : Nat → Int32 → Int32 → (Nat → Int32) → Option (Int32 × (Nat → Int32))
  | 0, _, _, _ => none
  | n + 1, y4, v_laid, v_written_a =>
  (if y4 < 0 then
  some (v_laid, v_written_a)
  else
  (f_Mod_lay n_v_written (((x1 >>> (y4.toInt64 &&& 63)) &&& 255).toInt32) v_laid v_written_a).bind fun u_2 =>
  f_Mod_layWord_9 fu n_v_written x1 x3 n (y4 + (-8)) u_2.1 u_2.2)
theorem f_Mod_layWord_9_s (fu : Nat) (n_v_written : Nat) (x1 : Int64) (x3 : Int32)  (n : Nat) (y4 : Int32) (v_laid : Int32) (v_written_a : Nat → Int32) : f_Mod_layWord_9 fu n_v_written x1 x3 (n + 1) y4 v_laid v_written_a =
  (if y4 < 0 then
  some (v_laid, v_written_a)
  else
  (f_Mod_lay n_v_written (((x1 >>> (y4.toInt64 &&& 63)) &&& 255).toInt32) v_laid v_written_a).bind fun u_2 =>
  f_Mod_layWord_9 fu n_v_written x1 x3 n (y4 + (-8)) u_2.1 u_2.2) := rfl
def f_Mod_layWord (fu : Nat) (n_v_written : Nat) (x1 : Int64) (x3 : Int32) (v_laid : Int32) (v_written_a : Nat → Int32) : Option (Int32 × (Nat → Int32)) :=
  zz_lt ((8 * x3) - 8) fun x4_1 =>
  f_Mod_layWord_9 fu n_v_written x1 x3 fu x4_1 v_laid v_written_a
set_option maxHeartbeats 4000000 in
set_option maxRecDepth 100000 in
theorem c_Mod_layWord (l : Launch) (dC : Nat → ClassId) (dI : Nat → Nat → Nat) (cI cC cB cJ : ClassId) (fu : Nat) (sz : Nat) (h_v : Nat) (h_v_written : Nat) (h_v_text : Nat) (h_v_a : Nat) (h_v_b : Nat) (h_v_five : Nat) (h_v_left : Nat) (h_v_right : Nat) (h_v_part : Nat) (n_v_written : Nat) (x1 : Int64) (x3 : Int32) (v_length : Int32) (v_laid : Int32) (v_gone : Int32) (v_thrown : Int32) (v_were : Int32) (v_none : Int32) (v_beyond : Int32) (v_aMany : Int32) (v_bMany : Int32) (v_fiveMany : Int32) (v_leftMany : Int32) (v_rightMany : Int32) (v_partMany : Int32) (v_twos : Int32) (v_at : Int32) (v_digits : Int32) (v_power : Int32) (v_good : Int32) (v_written_a : Nat → Int32) (u : Int32 × (Nat → Int32)) (hf : f_Mod_layWord fu n_v_written x1 x3 v_laid v_written_a = some u) : Met l y_Mod_layWord ws_Mod_layWord rm_Mod_layWord (zz_P zz_T (dC, dI) vwCl (zz_tys cI cC cB cJ) [.ref h_v, .long x1, .int x3] [(h_v, .inr (7, [.ref h_v_text, .ref h_v_written, .int v_length, .int v_laid, .int v_gone, .int v_thrown, .int v_were, .int v_none, .int v_beyond, .ref h_v_a, .ref h_v_b, .ref h_v_five, .ref h_v_left, .ref h_v_right, .ref h_v_part, .int v_aMany, .int v_bMany, .int v_fiveMany, .int v_leftMany, .int v_rightMany, .int v_partMany, .int v_twos, .int v_at, .int v_digits, .int v_power, .int v_good])), (h_v_written, .inl (cI, n_v_written, .inl v_written_a))] sz) (zz_Qv (dC, dI) vwCl [(h_v, .inr (7, [.ref h_v_text, .ref h_v_written, .int v_length, .int u.1, .int v_gone, .int v_thrown, .int v_were, .int v_none, .int v_beyond, .ref h_v_a, .ref h_v_b, .ref h_v_five, .ref h_v_left, .ref h_v_right, .ref h_v_part, .int v_aMany, .int v_bMany, .int v_fiveMany, .int v_leftMany, .int v_rightMany, .int v_partMany, .int v_twos, .int v_at, .int v_digits, .int v_power, .int v_good])), (h_v_written, .inl (cI, n_v_written, .inl u.2))] (va_A [(h_v, .inr (7, [.ref h_v_text, .ref h_v_written, .int v_length, .int v_laid, .int v_gone, .int v_thrown, .int v_were, .int v_none, .int v_beyond, .ref h_v_a, .ref h_v_b, .ref h_v_five, .ref h_v_left, .ref h_v_right, .ref h_v_part, .int v_aMany, .int v_bMany, .int v_fiveMany, .int v_leftMany, .int v_rightMany, .int v_partMany, .int v_twos, .int v_at, .int v_digits, .int v_power, .int v_good])), (h_v_written, .inl (cI, n_v_written, .inl v_written_a))] sz)) 0 0 (va_A [(h_v, .inr (7, [.ref h_v_text, .ref h_v_written, .int v_length, .int v_laid, .int v_gone, .int v_thrown, .int v_were, .int v_none, .int v_beyond, .ref h_v_a, .ref h_v_b, .ref h_v_five, .ref h_v_left, .ref h_v_right, .ref h_v_part, .int v_aMany, .int v_bMany, .int v_fiveMany, .int v_leftMany, .int v_rightMany, .int v_partMany, .int v_twos, .int v_at, .int v_digits, .int v_power, .int v_good])), (h_v_written, .inl (cI, n_v_written, .inl v_written_a))] sz) := by
  refine Met.ofW (cc := prog_10_method_36_code) (maxL := 5) (ret := none) (by decide +kernel) rfl ?_
  intro p e s m args below meth c s₁ B hml hv
  obtain ⟨rfl, hsz, hP, hK, hD0, hX⟩ := hv
  have hx := B.exec
  have hb := B.bytes
  have hr := B.returns
  have hts := atoms_spec (ws := ws_Mod_layWord) B.pre
  have hw : ∀ w ∈ zw, w.before [.ref h_v, .long x1, .int x3].toArray s = true := fun w h => hts w (List.mem_cons_of_mem _ h)
  have hown : s.vm.findClass R_Mod = some m.cls := findClass_of_methodNamed B.named
  have hlocks := B.notSynchronized
  subst hsz
  have hD := hD0.self (sz := s.heap.size)
  generalize hAe : va_A [(h_v, .inr (7, [.ref h_v_text, .ref h_v_written, .int v_length, .int v_laid, .int v_gone, .int v_thrown, .int v_were, .int v_none, .int v_beyond, .ref h_v_a, .ref h_v_b, .ref h_v_five, .ref h_v_left, .ref h_v_right, .ref h_v_part, .int v_aMany, .int v_bMany, .int v_fiveMany, .int v_leftMany, .int v_rightMany, .int v_partMany, .int v_twos, .int v_at, .int v_digits, .int v_power, .int v_good])), (h_v_written, .inl (cI, n_v_written, .inl v_written_a))] s.heap.size = A at hD hX ⊢
  have hA : ∀ q : Nat, s.heap.size ≤ q → A q := fun q h => by rw [← hAe]; exact Or.inr h
  have hS : va_S A s.heap s.heap [] := va_S.rf
  have hl := lv_entry [.ref h_v, .long x1, .int x3] (n := 5) (Nat.le_of_ble_eq_true rfl)
  rw [lg_entry_eq]
  generalize (lg_sl [.ref h_v, .long x1, .int x3] ++ List.replicate (5 - (lg_sl [.ref h_v, .long x1, .int x3]).length) Slot.unset).toArray = ls at hl ⊢
  have hl : lv_has ls 5 [(0, .ref h_v), (1, .long x1), (3, .int x3)] := hl
  refine zz_endv hx hb hr hlocks (fun Qq hend => ?_)
  have hL_9 : ∀ (n : Nat), ∀ (y4 : Int32) (v_laid : Int32) (v_written_a : Nat → Int32) (ls : Array Slot) (H : Heap) (locs : List Loc), lv_has ls 5 [(0, .ref h_v), (1, .long x1), (4, .int y4)] → va_P (dC, dI) vwCl [(h_v, .inr (7, [.ref h_v_text, .ref h_v_written, .int v_length, .int v_laid, .int v_gone, .int v_thrown, .int v_were, .int v_none, .int v_beyond, .ref h_v_a, .ref h_v_b, .ref h_v_five, .ref h_v_left, .ref h_v_right, .ref h_v_part, .int v_aMany, .int v_bMany, .int v_fiveMany, .int v_leftMany, .int v_rightMany, .int v_partMany, .int v_twos, .int v_at, .int v_digits, .int v_power, .int v_good])), (h_v_written, .inl (cI, n_v_written, .inl v_written_a))] H → va_D A [(h_v, .inr (7, [.ref h_v_text, .ref h_v_written, .int v_length, .int v_laid, .int v_gone, .int v_thrown, .int v_were, .int v_none, .int v_beyond, .ref h_v_a, .ref h_v_b, .ref h_v_five, .ref h_v_left, .ref h_v_right, .ref h_v_part, .int v_aMany, .int v_bMany, .int v_fiveMany, .int v_leftMany, .int v_rightMany, .int v_partMany, .int v_twos, .int v_at, .int v_digits, .int v_power, .int v_good])), (h_v_written, .inl (cI, n_v_written, .inl v_written_a))] → va_S A s.heap H locs → f_Mod_layWord_9 fu n_v_written x1 x3 n y4 v_laid v_written_a = some u → W p l e (headSpec ws_Mod_layWord rm_Mod_layWord).room s m [.ref h_v, .long x1, .int x3].toArray below meth c H locs 0 0 Qq (F0 m 9 ls []) := by
    intro n
    induction n with
    | zero =>
      intro y4 v_laid v_written_a ls H locs hl hP hD hS hf
      exact zz_no hf
    | succ n ih =>
      intro y4 v_laid v_written_a ls H locs hl hP hD hS hf
      rw [f_Mod_layWord_9_s] at hf
      refine lv_iload hx hb d_Mod_layWord_9 (lv_at hl 2 rfl) ?_
      refine lv_if_lt (tgt := 33) hx hb d_Mod_layWord_11 (by decide) (fun hc => ?_) (fun hc => ?_)
      · have hf := zz_ifp hc hf
        cases hf
        exact hend 33 ls _ _ d_Mod_layWord_33 hP hD hS
      · have hf := zz_ifn hc hf
        refine lv_aload_n hx hb d_Mod_layWord_14 rfl (lv_at hl 0 rfl) ?_
        refine lv_lload_n hx hb d_Mod_layWord_15 rfl (lv_at hl 1 rfl) ?_
        refine lv_iload hx hb d_Mod_layWord_16 (lv_at hl 2 rfl) ?_
        refine lv_lshr hx hb d_Mod_layWord_18 rfl ?_
        refine lv_ldc2 (v := 255) hx hb hown (hw _ wd_855) d_Mod_layWord_19 ?_
        refine lv_land hx hb d_Mod_layWord_22 ?_
        refine lv_l2i hx hb d_Mod_layWord_23 rfl ?_
        obtain ⟨u_2, hu_2, hf⟩ := zz_bd hf
        refine zz_cv (ws' := [(h_v, .inr (7, [.ref h_v_text, .ref h_v_written, .int v_length, .int u_2.1, .int v_gone, .int v_thrown, .int v_were, .int v_none, .int v_beyond, .ref h_v_a, .ref h_v_b, .ref h_v_five, .ref h_v_left, .ref h_v_right, .ref h_v_part, .int v_aMany, .int v_bMany, .int v_fiveMany, .int v_leftMany, .int v_rightMany, .int v_partMany, .int v_twos, .int v_at, .int v_digits, .int v_power, .int v_good])), (h_v_written, .inl (cI, n_v_written, .inl u_2.2))]) (wc := [(h_v, .inr (7, [.ref h_v_text, .ref h_v_written, .int v_length, .int v_laid, .int v_gone, .int v_thrown, .int v_were, .int v_none, .int v_beyond, .ref h_v_a, .ref h_v_b, .ref h_v_five, .ref h_v_left, .ref h_v_right, .ref h_v_part, .int v_aMany, .int v_bMany, .int v_fiveMany, .int v_leftMany, .int v_rightMany, .int v_partMany, .int v_twos, .int v_at, .int v_digits, .int v_power, .int v_good])), (h_v_written, .inl (cI, n_v_written, .inl v_written_a))]) (w' := [(h_v, .inr (7, [.ref h_v_text, .ref h_v_written, .int v_length, .int u_2.1, .int v_gone, .int v_thrown, .int v_were, .int v_none, .int v_beyond, .ref h_v_a, .ref h_v_b, .ref h_v_five, .ref h_v_left, .ref h_v_right, .ref h_v_part, .int v_aMany, .int v_bMany, .int v_fiveMany, .int v_leftMany, .int v_rightMany, .int v_partMany, .int v_twos, .int v_at, .int v_digits, .int v_power, .int v_good])), (h_v_written, .inl (cI, n_v_written, .inl u_2.2))]) hP hD hS hA [0, 1] [] [0, 1] rfl rfl (by decide) (by decide) rfl (by decide) (va_runV (As := [.int (((x1 >>> (y4.toInt64 &&& 63)) &&& 255).toInt32)]) (rest := []) ⟨hx, hb, hml, hown, hw⟩ (c_Mod_lay l dC dI cI cC cB cJ _ h_v h_v_written h_v_text h_v_a h_v_b h_v_five h_v_left h_v_right h_v_part n_v_written (((x1 >>> (y4.toInt64 &&& 63)) &&& 255).toInt32) v_length v_laid v_gone v_thrown v_were v_none v_beyond v_aMany v_bMany v_fiveMany v_leftMany v_rightMany v_partMany v_twos v_at v_digits v_power v_good v_written_a u_2 hu_2) (cwV 1 hw (zg_V wd_856 wd_858 we_2_5 wd_8 wd_859) rfl rfl rfl hd_Mod_lay ⟨Nat.le_of_ble_eq_true rfl, Nat.le_of_ble_eq_true rfl⟩) (zz_preV zz_TE (va_recv (q0 := 0) (ci := 7) hK hP rfl rfl) hP hD hK hS hA trivial [0, 1] rfl (by decide)) rfl rfl hl.1 rfl (lv_room (Nat.le_of_ble_eq_true rfl)) d_Mod_layWord_24 ⟨Nat.zero_le _, Nat.zero_le _⟩) (fun H locs hP hD hS => ?_)
        refine lv_iinc (k := 2) (v := y4 + (-8)) hx hb d_Mod_layWord_27 hl rfl rfl (by decide) rfl (fun ls hl => ?_)
        have hl : lv_has ls 5 [(4, .int (y4 + (-8))), (0, .ref h_v), (1, .long x1)] := hl
        refine lv_goto (tgt := 9) hx hb d_Mod_layWord_30 (by decide) ?_
        exact ih (y4 + (-8)) u_2.1 u_2.2 ls _ _ (lv_sub hl [1, 2, 0] rfl) hP hD hS hf
  unfold f_Mod_layWord at hf
  refine lv_bipush (v := 8) hx hb d_Mod_layWord_0 (by decide) ?_
  refine lv_iload_n hx hb d_Mod_layWord_2 rfl (lv_at hl 2 rfl) ?_
  refine lv_imul hx hb d_Mod_layWord_3 ?_
  refine lv_bipush (v := 8) hx hb d_Mod_layWord_4 (by decide) ?_
  refine lv_isub hx hb d_Mod_layWord_6 ?_
  refine lv_topi (fun x4_1 e_x4_1 => ?_)
  have hf := zz_ltp hf x4_1 e_x4_1
  refine lv_istore hx hb d_Mod_layWord_7 hl (by decide) rfl (fun ls hl => ?_)
  have hl : lv_has ls 5 [(4, .int x4_1), (0, .ref h_v), (1, .long x1), (3, .int x3)] := hl
  exact hL_9 fu x4_1 v_laid v_written_a ls _ _ (lv_sub hl [1, 2, 0] rfl) hP hD hS hf
abbrev ws_Mod_write : List Cond := .code y_Mod_write prog_10_method_37_code 7 (some .int) :: zw
abbrev rm_Mod_write : Room := { frames := 8, cells := 0, slots := 0, locals := 220 }
theorem hd_Mod_write : y_Mod_write.cls = "RealTextModel" ∧ y_Mod_write.cls ≠ "java/lang/invoke/MethodHandle" ∧ y_Mod_write.cls ≠ "java/lang/invoke/VarHandle" ∧ (parseMethodDescriptor y_Mod_write.desc).map (fun d => d.parameters.length) = some 2 := by decide +kernel
theorem d_Mod_write_0 : decode prog_10_method_37_code 0 = .ok (.aload_n 0, 1) := by decide +kernel
theorem d_Mod_write_1 : decode prog_10_method_37_code 1 = .ok (.iconst 0, 1) := by decide +kernel
theorem d_Mod_write_2 : decode prog_10_method_37_code 2 = .ok (.putfield 34, 3) := by decide +kernel
theorem d_Mod_write_5 : decode prog_10_method_37_code 5 = .ok (.aload_n 0, 1) := by decide +kernel
theorem d_Mod_write_6 : decode prog_10_method_37_code 6 = .ok (.iconst 0, 1) := by decide +kernel
theorem d_Mod_write_7 : decode prog_10_method_37_code 7 = .ok (.putfield 168, 3) := by decide +kernel
theorem d_Mod_write_10 : decode prog_10_method_37_code 10 = .ok (.aload_n 0, 1) := by decide +kernel
theorem d_Mod_write_11 : decode prog_10_method_37_code 11 = .ok (.iconst 0, 1) := by decide +kernel
theorem d_Mod_write_12 : decode prog_10_method_37_code 12 = .ok (.putfield 214, 3) := by decide +kernel
theorem d_Mod_write_15 : decode prog_10_method_37_code 15 = .ok (.iload_n 3, 1) := by decide +kernel
theorem d_Mod_write_16 : decode prog_10_method_37_code 16 = .ok (.ifCond .eq 11, 3) := by decide +kernel
theorem d_Mod_write_19 : decode prog_10_method_37_code 19 = .ok (.lload_n 1, 1) := by decide +kernel
theorem d_Mod_write_20 : decode prog_10_method_37_code 20 = .ok (.ldc2_w 217, 3) := by decide +kernel
theorem d_Mod_write_23 : decode prog_10_method_37_code 23 = .ok (.land, 1) := by decide +kernel
theorem d_Mod_write_24 : decode prog_10_method_37_code 24 = .ok (.goto 8, 3) := by decide +kernel
theorem d_Mod_write_27 : decode prog_10_method_37_code 27 = .ok (.lload_n 1, 1) := by decide +kernel
theorem d_Mod_write_28 : decode prog_10_method_37_code 28 = .ok (.ldc2_w 219, 3) := by decide +kernel
theorem d_Mod_write_31 : decode prog_10_method_37_code 31 = .ok (.land, 1) := by decide +kernel
theorem d_Mod_write_32 : decode prog_10_method_37_code 32 = .ok (.lstore 4, 2) := by decide +kernel
theorem d_Mod_write_34 : decode prog_10_method_37_code 34 = .ok (.iload_n 3, 1) := by decide +kernel
theorem d_Mod_write_35 : decode prog_10_method_37_code 35 = .ok (.ifCond .eq 22, 3) := by decide +kernel
theorem d_Mod_write_38 : decode prog_10_method_37_code 38 = .ok (.lload_n 1, 1) := by decide +kernel
theorem d_Mod_write_39 : decode prog_10_method_37_code 39 = .ok (.bipush 31, 2) := by decide +kernel
theorem d_Mod_write_41 : decode prog_10_method_37_code 41 = .ok (.lshr, 1) := by decide +kernel
theorem d_Mod_write_42 : decode prog_10_method_37_code 42 = .ok (.lconst 1, 1) := by decide +kernel
theorem d_Mod_write_43 : decode prog_10_method_37_code 43 = .ok (.land, 1) := by decide +kernel
theorem d_Mod_write_44 : decode prog_10_method_37_code 44 = .ok (.lconst 1, 1) := by decide +kernel
theorem d_Mod_write_45 : decode prog_10_method_37_code 45 = .ok (.lcmp, 1) := by decide +kernel
theorem d_Mod_write_46 : decode prog_10_method_37_code 46 = .ok (.ifCond .ne 7, 3) := by decide +kernel
theorem d_Mod_write_49 : decode prog_10_method_37_code 49 = .ok (.iconst 1, 1) := by decide +kernel
theorem d_Mod_write_50 : decode prog_10_method_37_code 50 = .ok (.goto 18, 3) := by decide +kernel
theorem d_Mod_write_53 : decode prog_10_method_37_code 53 = .ok (.iconst 0, 1) := by decide +kernel
theorem d_Mod_write_54 : decode prog_10_method_37_code 54 = .ok (.goto 14, 3) := by decide +kernel
theorem d_Mod_write_57 : decode prog_10_method_37_code 57 = .ok (.lload_n 1, 1) := by decide +kernel
theorem d_Mod_write_58 : decode prog_10_method_37_code 58 = .ok (.lconst 0, 1) := by decide +kernel
theorem d_Mod_write_59 : decode prog_10_method_37_code 59 = .ok (.lcmp, 1) := by decide +kernel
theorem d_Mod_write_60 : decode prog_10_method_37_code 60 = .ok (.ifCond .ge 7, 3) := by decide +kernel
theorem d_Mod_write_63 : decode prog_10_method_37_code 63 = .ok (.iconst 1, 1) := by decide +kernel
theorem d_Mod_write_64 : decode prog_10_method_37_code 64 = .ok (.goto 4, 3) := by decide +kernel
theorem d_Mod_write_67 : decode prog_10_method_37_code 67 = .ok (.iconst 0, 1) := by decide +kernel
theorem d_Mod_write_68 : decode prog_10_method_37_code 68 = .ok (.istore 6, 2) := by decide +kernel
theorem d_Mod_write_70 : decode prog_10_method_37_code 70 = .ok (.lload 4, 2) := by decide +kernel
theorem d_Mod_write_72 : decode prog_10_method_37_code 72 = .ok (.iload_n 3, 1) := by decide +kernel
theorem d_Mod_write_73 : decode prog_10_method_37_code 73 = .ok (.invokestatic 100, 3) := by decide +kernel
theorem d_Mod_write_76 : decode prog_10_method_37_code 76 = .ok (.lconst 1, 1) := by decide +kernel
theorem d_Mod_write_77 : decode prog_10_method_37_code 77 = .ok (.ladd, 1) := by decide +kernel
theorem d_Mod_write_78 : decode prog_10_method_37_code 78 = .ok (.lcmp, 1) := by decide +kernel
theorem d_Mod_write_79 : decode prog_10_method_37_code 79 = .ok (.ifCond .le 16, 3) := by decide +kernel
theorem d_Mod_write_82 : decode prog_10_method_37_code 82 = .ok (.aload_n 0, 1) := by decide +kernel
theorem d_Mod_write_83 : decode prog_10_method_37_code 83 = .ok (.ldc2_w 221, 3) := by decide +kernel
theorem d_Mod_write_86 : decode prog_10_method_37_code 86 = .ok (.iconst 3, 1) := by decide +kernel
theorem d_Mod_write_87 : decode prog_10_method_37_code 87 = .ok (.invokevirtual 223, 3) := by decide +kernel
theorem d_Mod_write_90 : decode prog_10_method_37_code 90 = .ok (.aload_n 0, 1) := by decide +kernel
theorem d_Mod_write_91 : decode prog_10_method_37_code 91 = .ok (.getfield 168, 3) := by decide +kernel
theorem d_Mod_write_94 : decode prog_10_method_37_code 94 = .ok (.ireturn, 1) := by decide +kernel
theorem d_Mod_write_95 : decode prog_10_method_37_code 95 = .ok (.iload 6, 2) := by decide +kernel
theorem d_Mod_write_97 : decode prog_10_method_37_code 97 = .ok (.ifCond .eq 9, 3) := by decide +kernel
theorem d_Mod_write_100 : decode prog_10_method_37_code 100 = .ok (.aload_n 0, 1) := by decide +kernel
theorem d_Mod_write_101 : decode prog_10_method_37_code 101 = .ok (.bipush 45, 2) := by decide +kernel
theorem d_Mod_write_103 : decode prog_10_method_37_code 103 = .ok (.invokevirtual 197, 3) := by decide +kernel
theorem d_Mod_write_106 : decode prog_10_method_37_code 106 = .ok (.lload 4, 2) := by decide +kernel
theorem d_Mod_write_108 : decode prog_10_method_37_code 108 = .ok (.iload_n 3, 1) := by decide +kernel
theorem d_Mod_write_109 : decode prog_10_method_37_code 109 = .ok (.invokestatic 100, 3) := by decide +kernel
theorem d_Mod_write_112 : decode prog_10_method_37_code 112 = .ok (.lcmp, 1) := by decide +kernel
theorem d_Mod_write_113 : decode prog_10_method_37_code 113 = .ok (.ifCond .le 15, 3) := by decide +kernel
theorem d_Mod_write_116 : decode prog_10_method_37_code 116 = .ok (.aload_n 0, 1) := by decide +kernel
theorem d_Mod_write_117 : decode prog_10_method_37_code 117 = .ok (.ldc2_w 227, 3) := by decide +kernel
theorem d_Mod_write_120 : decode prog_10_method_37_code 120 = .ok (.bipush 8, 2) := by decide +kernel
theorem d_Mod_write_122 : decode prog_10_method_37_code 122 = .ok (.invokevirtual 223, 3) := by decide +kernel
theorem d_Mod_write_125 : decode prog_10_method_37_code 125 = .ok (.goto 28, 3) := by decide +kernel
theorem d_Mod_write_128 : decode prog_10_method_37_code 128 = .ok (.lload 4, 2) := by decide +kernel
theorem d_Mod_write_130 : decode prog_10_method_37_code 130 = .ok (.lconst 0, 1) := by decide +kernel
theorem d_Mod_write_131 : decode prog_10_method_37_code 131 = .ok (.lcmp, 1) := by decide +kernel
theorem d_Mod_write_132 : decode prog_10_method_37_code 132 = .ok (.ifCond .ne 14, 3) := by decide +kernel
theorem d_Mod_write_135 : decode prog_10_method_37_code 135 = .ok (.aload_n 0, 1) := by decide +kernel
theorem d_Mod_write_136 : decode prog_10_method_37_code 136 = .ok (.ldc2_w 229, 3) := by decide +kernel
theorem d_Mod_write_139 : decode prog_10_method_37_code 139 = .ok (.iconst 3, 1) := by decide +kernel
theorem d_Mod_write_140 : decode prog_10_method_37_code 140 = .ok (.invokevirtual 223, 3) := by decide +kernel
theorem d_Mod_write_143 : decode prog_10_method_37_code 143 = .ok (.goto 10, 3) := by decide +kernel
theorem d_Mod_write_146 : decode prog_10_method_37_code 146 = .ok (.aload_n 0, 1) := by decide +kernel
theorem d_Mod_write_147 : decode prog_10_method_37_code 147 = .ok (.lload 4, 2) := by decide +kernel
theorem d_Mod_write_149 : decode prog_10_method_37_code 149 = .ok (.iload_n 3, 1) := by decide +kernel
theorem d_Mod_write_150 : decode prog_10_method_37_code 150 = .ok (.invokevirtual 231, 3) := by decide +kernel
theorem d_Mod_write_153 : decode prog_10_method_37_code 153 = .ok (.aload_n 0, 1) := by decide +kernel
theorem d_Mod_write_154 : decode prog_10_method_37_code 154 = .ok (.getfield 168, 3) := by decide +kernel
theorem d_Mod_write_157 : decode prog_10_method_37_code 157 = .ok (.ireturn, 1) := by decide +kernel
def f_Mod_write_106 (fu : Nat) (n_v_written : Nat) (n_v_a : Nat) (n_v_b : Nat) (n_v_five : Nat) (n_v_left : Nat) (n_v_right : Nat) (x1 : Int64) (x3 : Int32)  (y4 : Int64) (v_laid : Int32) (v_gone : Int32) (v_thrown : Int32) (v_aMany : Int32) (v_bMany : Int32) (v_fiveMany : Int32) (v_leftMany : Int32) (v_rightMany : Int32) (v_twos : Int32) (v_power : Int32) (v_written_a : Nat → Int32) (v_a_a : Nat → Int32) (v_b_a : Nat → Int32) (v_five_a : Nat → Int32) (v_left_a : Nat → Int32) (v_right_a : Nat → Int32) : Option (Int32 × Int32 × Int32 × Int32 × Int32 × Int32 × Int32 × Int32 × Int32 × Int32 × Int32 × (Nat → Int32) × (Nat → Int32) × (Nat → Int32) × (Nat → Int32) × (Nat → Int32) × (Nat → Int32)) :=
  (f_Mod_greatest x3).bind fun u_2 =>
  (if (lg_cmp y4 u_2) ≤ 0 then
  (if (lg_cmp y4 0) = 0 then
  (f_Mod_layWord fu n_v_written 3157552 3 v_laid v_written_a).bind fun u_4 =>
  some (u_4.1, u_4.1, v_gone, v_thrown, v_aMany, v_bMany, v_fiveMany, v_leftMany, v_rightMany, v_twos, v_power, u_4.2, v_a_a, v_b_a, v_five_a, v_left_a, v_right_a)
  else
  (f_Mod_layDecimal fu n_v_written n_v_a n_v_b n_v_five n_v_left n_v_right y4 x3 v_laid v_aMany v_bMany v_fiveMany v_leftMany v_rightMany v_twos v_power v_written_a v_a_a v_b_a v_five_a v_left_a v_right_a).bind fun u_3 =>
  some (u_3.1, u_3.1, v_gone, v_thrown, u_3.2.1, u_3.2.2.1, u_3.2.2.2.1, u_3.2.2.2.2.1, u_3.2.2.2.2.2.1, u_3.2.2.2.2.2.2.1, u_3.2.2.2.2.2.2.2.1, u_3.2.2.2.2.2.2.2.2.1, u_3.2.2.2.2.2.2.2.2.2.1, u_3.2.2.2.2.2.2.2.2.2.2.1, u_3.2.2.2.2.2.2.2.2.2.2.2.1, u_3.2.2.2.2.2.2.2.2.2.2.2.2.1, u_3.2.2.2.2.2.2.2.2.2.2.2.2.2))
  else
  (f_Mod_layWord fu n_v_written 5291279215216915577 8 v_laid v_written_a).bind fun u_5 =>
  some (u_5.1, u_5.1, v_gone, v_thrown, v_aMany, v_bMany, v_fiveMany, v_leftMany, v_rightMany, v_twos, v_power, u_5.2, v_a_a, v_b_a, v_five_a, v_left_a, v_right_a))
def f_Mod_write_68 (fu : Nat) (n_v_written : Nat) (n_v_a : Nat) (n_v_b : Nat) (n_v_five : Nat) (n_v_left : Nat) (n_v_right : Nat) (x1 : Int64) (x3 : Int32)  (y4 : Int64) (k0 : Int32) (v_laid : Int32) (v_gone : Int32) (v_thrown : Int32) (v_aMany : Int32) (v_bMany : Int32) (v_fiveMany : Int32) (v_leftMany : Int32) (v_rightMany : Int32) (v_twos : Int32) (v_power : Int32) (v_written_a : Nat → Int32) (v_a_a : Nat → Int32) (v_b_a : Nat → Int32) (v_five_a : Nat → Int32) (v_left_a : Nat → Int32) (v_right_a : Nat → Int32) : Option (Int32 × Int32 × Int32 × Int32 × Int32 × Int32 × Int32 × Int32 × Int32 × Int32 × Int32 × (Nat → Int32) × (Nat → Int32) × (Nat → Int32) × (Nat → Int32) × (Nat → Int32) × (Nat → Int32)) :=
  (f_Mod_greatest x3).bind fun u_1 =>
  (if (lg_cmp y4 (u_1 + 1)) ≤ 0 then
  (if k0 = 0 then
  f_Mod_write_106 fu n_v_written n_v_a n_v_b n_v_five n_v_left n_v_right x1 x3 y4 v_laid v_gone v_thrown v_aMany v_bMany v_fiveMany v_leftMany v_rightMany v_twos v_power v_written_a v_a_a v_b_a v_five_a v_left_a v_right_a
  else
  (f_Mod_lay n_v_written 45 v_laid v_written_a).bind fun u_6 =>
  f_Mod_write_106 fu n_v_written n_v_a n_v_b n_v_five n_v_left n_v_right x1 x3 y4 u_6.1 v_gone v_thrown v_aMany v_bMany v_fiveMany v_leftMany v_rightMany v_twos v_power u_6.2 v_a_a v_b_a v_five_a v_left_a v_right_a)
  else
  (f_Mod_layWord fu n_v_written 5136718 3 v_laid v_written_a).bind fun u_7 =>
  some (u_7.1, u_7.1, v_gone, v_thrown, v_aMany, v_bMany, v_fiveMany, v_leftMany, v_rightMany, v_twos, v_power, u_7.2, v_a_a, v_b_a, v_five_a, v_left_a, v_right_a))
def f_Mod_write_32 (fu : Nat) (n_v_written : Nat) (n_v_a : Nat) (n_v_b : Nat) (n_v_five : Nat) (n_v_left : Nat) (n_v_right : Nat) (x1 : Int64) (x3 : Int32)  (k0 : Int64) (v_laid : Int32) (v_gone : Int32) (v_thrown : Int32) (v_aMany : Int32) (v_bMany : Int32) (v_fiveMany : Int32) (v_leftMany : Int32) (v_rightMany : Int32) (v_twos : Int32) (v_power : Int32) (v_written_a : Nat → Int32) (v_a_a : Nat → Int32) (v_b_a : Nat → Int32) (v_five_a : Nat → Int32) (v_left_a : Nat → Int32) (v_right_a : Nat → Int32) : Option (Int32 × Int32 × Int32 × Int32 × Int32 × Int32 × Int32 × Int32 × Int32 × Int32 × Int32 × (Nat → Int32) × (Nat → Int32) × (Nat → Int32) × (Nat → Int32) × (Nat → Int32) × (Nat → Int32)) :=
  (if x3 = 0 then
  (if 0 ≤ (lg_cmp x1 0) then
  f_Mod_write_68 fu n_v_written n_v_a n_v_b n_v_five n_v_left n_v_right x1 x3 k0 0 v_laid v_gone v_thrown v_aMany v_bMany v_fiveMany v_leftMany v_rightMany v_twos v_power v_written_a v_a_a v_b_a v_five_a v_left_a v_right_a
  else
  f_Mod_write_68 fu n_v_written n_v_a n_v_b n_v_five n_v_left n_v_right x1 x3 k0 1 v_laid v_gone v_thrown v_aMany v_bMany v_fiveMany v_leftMany v_rightMany v_twos v_power v_written_a v_a_a v_b_a v_five_a v_left_a v_right_a)
  else
  (if (lg_cmp ((x1 >>> ((31 : Int32).toInt64 &&& 63)) &&& 1) 1) = 0 then
  f_Mod_write_68 fu n_v_written n_v_a n_v_b n_v_five n_v_left n_v_right x1 x3 k0 1 v_laid v_gone v_thrown v_aMany v_bMany v_fiveMany v_leftMany v_rightMany v_twos v_power v_written_a v_a_a v_b_a v_five_a v_left_a v_right_a
  else
  f_Mod_write_68 fu n_v_written n_v_a n_v_b n_v_five n_v_left n_v_right x1 x3 k0 0 v_laid v_gone v_thrown v_aMany v_bMany v_fiveMany v_leftMany v_rightMany v_twos v_power v_written_a v_a_a v_b_a v_five_a v_left_a v_right_a))
def f_Mod_write (fu : Nat) (n_v_written : Nat) (n_v_a : Nat) (n_v_b : Nat) (n_v_five : Nat) (n_v_left : Nat) (n_v_right : Nat) (x1 : Int64) (x3 : Int32) (v_laid : Int32) (v_gone : Int32) (v_thrown : Int32) (v_aMany : Int32) (v_bMany : Int32) (v_fiveMany : Int32) (v_leftMany : Int32) (v_rightMany : Int32) (v_twos : Int32) (v_power : Int32) (v_written_a : Nat → Int32) (v_a_a : Nat → Int32) (v_b_a : Nat → Int32) (v_five_a : Nat → Int32) (v_left_a : Nat → Int32) (v_right_a : Nat → Int32) : Option (Int32 × Int32 × Int32 × Int32 × Int32 × Int32 × Int32 × Int32 × Int32 × Int32 × Int32 × (Nat → Int32) × (Nat → Int32) × (Nat → Int32) × (Nat → Int32) × (Nat → Int32) × (Nat → Int32)) :=
  (if x3 = 0 then
  f_Mod_write_32 fu n_v_written n_v_a n_v_b n_v_five n_v_left n_v_right x1 x3 (x1 &&& 9223372036854775807) 0 0 0 v_aMany v_bMany v_fiveMany v_leftMany v_rightMany v_twos v_power v_written_a v_a_a v_b_a v_five_a v_left_a v_right_a
  else
  f_Mod_write_32 fu n_v_written n_v_a n_v_b n_v_five n_v_left n_v_right x1 x3 (x1 &&& 2147483647) 0 0 0 v_aMany v_bMany v_fiveMany v_leftMany v_rightMany v_twos v_power v_written_a v_a_a v_b_a v_five_a v_left_a v_right_a)
set_option maxHeartbeats 4000000 in
set_option maxRecDepth 100000 in
theorem c_Mod_write (l : Launch) (dC : Nat → ClassId) (dI : Nat → Nat → Nat) (cI cC cB cJ : ClassId) (fu : Nat) (sz : Nat) (h_v : Nat) (h_v_written : Nat) (h_v_a : Nat) (h_v_b : Nat) (h_v_five : Nat) (h_v_left : Nat) (h_v_right : Nat) (h_v_text : Nat) (h_v_part : Nat) (n_v_written : Nat) (n_v_a : Nat) (n_v_b : Nat) (n_v_five : Nat) (n_v_left : Nat) (n_v_right : Nat) (x1 : Int64) (x3 : Int32) (v_length : Int32) (v_laid : Int32) (v_gone : Int32) (v_thrown : Int32) (v_were : Int32) (v_none : Int32) (v_beyond : Int32) (v_aMany : Int32) (v_bMany : Int32) (v_fiveMany : Int32) (v_leftMany : Int32) (v_rightMany : Int32) (v_partMany : Int32) (v_twos : Int32) (v_at : Int32) (v_digits : Int32) (v_power : Int32) (v_good : Int32) (v_written_a : Nat → Int32) (v_a_a : Nat → Int32) (v_b_a : Nat → Int32) (v_five_a : Nat → Int32) (v_left_a : Nat → Int32) (v_right_a : Nat → Int32) (u : Int32 × Int32 × Int32 × Int32 × Int32 × Int32 × Int32 × Int32 × Int32 × Int32 × Int32 × (Nat → Int32) × (Nat → Int32) × (Nat → Int32) × (Nat → Int32) × (Nat → Int32) × (Nat → Int32)) (hf : f_Mod_write fu n_v_written n_v_a n_v_b n_v_five n_v_left n_v_right x1 x3 v_laid v_gone v_thrown v_aMany v_bMany v_fiveMany v_leftMany v_rightMany v_twos v_power v_written_a v_a_a v_b_a v_five_a v_left_a v_right_a = some u) : Met l y_Mod_write ws_Mod_write rm_Mod_write (zz_P zz_T (dC, dI) vwCl (zz_tys cI cC cB cJ) [.ref h_v, .long x1, .int x3] [(h_v, .inr (7, [.ref h_v_text, .ref h_v_written, .int v_length, .int v_laid, .int v_gone, .int v_thrown, .int v_were, .int v_none, .int v_beyond, .ref h_v_a, .ref h_v_b, .ref h_v_five, .ref h_v_left, .ref h_v_right, .ref h_v_part, .int v_aMany, .int v_bMany, .int v_fiveMany, .int v_leftMany, .int v_rightMany, .int v_partMany, .int v_twos, .int v_at, .int v_digits, .int v_power, .int v_good])), (h_v_written, .inl (cI, n_v_written, .inl v_written_a)), (h_v_a, .inl (cI, n_v_a, .inl v_a_a)), (h_v_b, .inl (cI, n_v_b, .inl v_b_a)), (h_v_five, .inl (cI, n_v_five, .inl v_five_a)), (h_v_left, .inl (cI, n_v_left, .inl v_left_a)), (h_v_right, .inl (cI, n_v_right, .inl v_right_a))] sz) (zz_Qi (dC, dI) vwCl u.1 [(h_v, .inr (7, [.ref h_v_text, .ref h_v_written, .int v_length, .int u.2.1, .int u.2.2.1, .int u.2.2.2.1, .int v_were, .int v_none, .int v_beyond, .ref h_v_a, .ref h_v_b, .ref h_v_five, .ref h_v_left, .ref h_v_right, .ref h_v_part, .int u.2.2.2.2.1, .int u.2.2.2.2.2.1, .int u.2.2.2.2.2.2.1, .int u.2.2.2.2.2.2.2.1, .int u.2.2.2.2.2.2.2.2.1, .int v_partMany, .int u.2.2.2.2.2.2.2.2.2.1, .int v_at, .int v_digits, .int u.2.2.2.2.2.2.2.2.2.2.1, .int v_good])), (h_v_written, .inl (cI, n_v_written, .inl u.2.2.2.2.2.2.2.2.2.2.2.1)), (h_v_a, .inl (cI, n_v_a, .inl u.2.2.2.2.2.2.2.2.2.2.2.2.1)), (h_v_b, .inl (cI, n_v_b, .inl u.2.2.2.2.2.2.2.2.2.2.2.2.2.1)), (h_v_five, .inl (cI, n_v_five, .inl u.2.2.2.2.2.2.2.2.2.2.2.2.2.2.1)), (h_v_left, .inl (cI, n_v_left, .inl u.2.2.2.2.2.2.2.2.2.2.2.2.2.2.2.1)), (h_v_right, .inl (cI, n_v_right, .inl u.2.2.2.2.2.2.2.2.2.2.2.2.2.2.2.2))] (va_A [(h_v, .inr (7, [.ref h_v_text, .ref h_v_written, .int v_length, .int v_laid, .int v_gone, .int v_thrown, .int v_were, .int v_none, .int v_beyond, .ref h_v_a, .ref h_v_b, .ref h_v_five, .ref h_v_left, .ref h_v_right, .ref h_v_part, .int v_aMany, .int v_bMany, .int v_fiveMany, .int v_leftMany, .int v_rightMany, .int v_partMany, .int v_twos, .int v_at, .int v_digits, .int v_power, .int v_good])), (h_v_written, .inl (cI, n_v_written, .inl v_written_a)), (h_v_a, .inl (cI, n_v_a, .inl v_a_a)), (h_v_b, .inl (cI, n_v_b, .inl v_b_a)), (h_v_five, .inl (cI, n_v_five, .inl v_five_a)), (h_v_left, .inl (cI, n_v_left, .inl v_left_a)), (h_v_right, .inl (cI, n_v_right, .inl v_right_a))] sz)) 0 0 (va_A [(h_v, .inr (7, [.ref h_v_text, .ref h_v_written, .int v_length, .int v_laid, .int v_gone, .int v_thrown, .int v_were, .int v_none, .int v_beyond, .ref h_v_a, .ref h_v_b, .ref h_v_five, .ref h_v_left, .ref h_v_right, .ref h_v_part, .int v_aMany, .int v_bMany, .int v_fiveMany, .int v_leftMany, .int v_rightMany, .int v_partMany, .int v_twos, .int v_at, .int v_digits, .int v_power, .int v_good])), (h_v_written, .inl (cI, n_v_written, .inl v_written_a)), (h_v_a, .inl (cI, n_v_a, .inl v_a_a)), (h_v_b, .inl (cI, n_v_b, .inl v_b_a)), (h_v_five, .inl (cI, n_v_five, .inl v_five_a)), (h_v_left, .inl (cI, n_v_left, .inl v_left_a)), (h_v_right, .inl (cI, n_v_right, .inl v_right_a))] sz) := by
  refine Met.ofW (cc := prog_10_method_37_code) (maxL := 7) (ret := (some .int)) (by decide +kernel) rfl ?_
  intro p e s m args below meth c s₁ B hml hv
  obtain ⟨rfl, hsz, hP, hK, hD0, hX⟩ := hv
  have hx := B.exec
  have hb := B.bytes
  have hr := B.returns
  have hts := atoms_spec (ws := ws_Mod_write) B.pre
  have hw : ∀ w ∈ zw, w.before [.ref h_v, .long x1, .int x3].toArray s = true := fun w h => hts w (List.mem_cons_of_mem _ h)
  have hown : s.vm.findClass R_Mod = some m.cls := findClass_of_methodNamed B.named
  have hlocks := B.notSynchronized
  subst hsz
  have hD := hD0.self (sz := s.heap.size)
  generalize hAe : va_A [(h_v, .inr (7, [.ref h_v_text, .ref h_v_written, .int v_length, .int v_laid, .int v_gone, .int v_thrown, .int v_were, .int v_none, .int v_beyond, .ref h_v_a, .ref h_v_b, .ref h_v_five, .ref h_v_left, .ref h_v_right, .ref h_v_part, .int v_aMany, .int v_bMany, .int v_fiveMany, .int v_leftMany, .int v_rightMany, .int v_partMany, .int v_twos, .int v_at, .int v_digits, .int v_power, .int v_good])), (h_v_written, .inl (cI, n_v_written, .inl v_written_a)), (h_v_a, .inl (cI, n_v_a, .inl v_a_a)), (h_v_b, .inl (cI, n_v_b, .inl v_b_a)), (h_v_five, .inl (cI, n_v_five, .inl v_five_a)), (h_v_left, .inl (cI, n_v_left, .inl v_left_a)), (h_v_right, .inl (cI, n_v_right, .inl v_right_a))] s.heap.size = A at hD hX ⊢
  have hA : ∀ q : Nat, s.heap.size ≤ q → A q := fun q h => by rw [← hAe]; exact Or.inr h
  have hS : va_S A s.heap s.heap [] := va_S.rf
  have hl := lv_entry [.ref h_v, .long x1, .int x3] (n := 7) (Nat.le_of_ble_eq_true rfl)
  rw [lg_entry_eq]
  generalize (lg_sl [.ref h_v, .long x1, .int x3] ++ List.replicate (7 - (lg_sl [.ref h_v, .long x1, .int x3]).length) Slot.unset).toArray = ls at hl ⊢
  have hl : lv_has ls 7 [(0, .ref h_v), (1, .long x1), (3, .int x3)] := hl
  refine zz_endi hx hb hr hlocks (fun Qq hend => ?_)
  have hL_106 : ∀ (y4 : Int64) (v_laid : Int32) (v_gone : Int32) (v_thrown : Int32) (v_aMany : Int32) (v_bMany : Int32) (v_fiveMany : Int32) (v_leftMany : Int32) (v_rightMany : Int32) (v_twos : Int32) (v_power : Int32) (v_written_a : Nat → Int32) (v_a_a : Nat → Int32) (v_b_a : Nat → Int32) (v_five_a : Nat → Int32) (v_left_a : Nat → Int32) (v_right_a : Nat → Int32) (ls : Array Slot) (H : Heap) (locs : List Loc), lv_has ls 7 [(0, .ref h_v), (3, .int x3), (4, .long y4)] → va_P (dC, dI) vwCl [(h_v, .inr (7, [.ref h_v_text, .ref h_v_written, .int v_length, .int v_laid, .int v_gone, .int v_thrown, .int v_were, .int v_none, .int v_beyond, .ref h_v_a, .ref h_v_b, .ref h_v_five, .ref h_v_left, .ref h_v_right, .ref h_v_part, .int v_aMany, .int v_bMany, .int v_fiveMany, .int v_leftMany, .int v_rightMany, .int v_partMany, .int v_twos, .int v_at, .int v_digits, .int v_power, .int v_good])), (h_v_written, .inl (cI, n_v_written, .inl v_written_a)), (h_v_a, .inl (cI, n_v_a, .inl v_a_a)), (h_v_b, .inl (cI, n_v_b, .inl v_b_a)), (h_v_five, .inl (cI, n_v_five, .inl v_five_a)), (h_v_left, .inl (cI, n_v_left, .inl v_left_a)), (h_v_right, .inl (cI, n_v_right, .inl v_right_a))] H → va_D A [(h_v, .inr (7, [.ref h_v_text, .ref h_v_written, .int v_length, .int v_laid, .int v_gone, .int v_thrown, .int v_were, .int v_none, .int v_beyond, .ref h_v_a, .ref h_v_b, .ref h_v_five, .ref h_v_left, .ref h_v_right, .ref h_v_part, .int v_aMany, .int v_bMany, .int v_fiveMany, .int v_leftMany, .int v_rightMany, .int v_partMany, .int v_twos, .int v_at, .int v_digits, .int v_power, .int v_good])), (h_v_written, .inl (cI, n_v_written, .inl v_written_a)), (h_v_a, .inl (cI, n_v_a, .inl v_a_a)), (h_v_b, .inl (cI, n_v_b, .inl v_b_a)), (h_v_five, .inl (cI, n_v_five, .inl v_five_a)), (h_v_left, .inl (cI, n_v_left, .inl v_left_a)), (h_v_right, .inl (cI, n_v_right, .inl v_right_a))] → va_S A s.heap H locs → f_Mod_write_106 fu n_v_written n_v_a n_v_b n_v_five n_v_left n_v_right x1 x3 y4 v_laid v_gone v_thrown v_aMany v_bMany v_fiveMany v_leftMany v_rightMany v_twos v_power v_written_a v_a_a v_b_a v_five_a v_left_a v_right_a = some u → W p l e (headSpec ws_Mod_write rm_Mod_write).room s m [.ref h_v, .long x1, .int x3].toArray below meth c H locs 0 0 Qq (F0 m 106 ls []) := by
    intro y4 v_laid v_gone v_thrown v_aMany v_bMany v_fiveMany v_leftMany v_rightMany v_twos v_power v_written_a v_a_a v_b_a v_five_a v_left_a v_right_a ls H locs hl hP hD hS hf
    unfold f_Mod_write_106 at hf
    refine lv_lload hx hb d_Mod_write_106 (lv_at hl 2 rfl) ?_
    refine lv_iload_n hx hb d_Mod_write_108 rfl (lv_at hl 1 rfl) ?_
    obtain ⟨u_2, hu_2, hf⟩ := zz_bd hf
    refine zz_cl (ws' := [(h_v, .inr (7, [.ref h_v_text, .ref h_v_written, .int v_length, .int v_laid, .int v_gone, .int v_thrown, .int v_were, .int v_none, .int v_beyond, .ref h_v_a, .ref h_v_b, .ref h_v_five, .ref h_v_left, .ref h_v_right, .ref h_v_part, .int v_aMany, .int v_bMany, .int v_fiveMany, .int v_leftMany, .int v_rightMany, .int v_partMany, .int v_twos, .int v_at, .int v_digits, .int v_power, .int v_good])), (h_v_written, .inl (cI, n_v_written, .inl v_written_a)), (h_v_a, .inl (cI, n_v_a, .inl v_a_a)), (h_v_b, .inl (cI, n_v_b, .inl v_b_a)), (h_v_five, .inl (cI, n_v_five, .inl v_five_a)), (h_v_left, .inl (cI, n_v_left, .inl v_left_a)), (h_v_right, .inl (cI, n_v_right, .inl v_right_a))]) (wc := []) (w' := []) hP hD hS hA [] [0, 1, 2, 3, 4, 5, 6] [0, 1, 2, 3, 4, 5, 6] rfl rfl (by decide) (by decide) rfl (by decide) (va_runS (As := [.int x3]) (rest := [.long y4]) ⟨hx, hb, hml, hown, hw⟩ (c_Mod_greatest l dC dI cI cC cB cJ _ x3 u_2 hu_2) (va_cwS 1 hw (zg_S wd_803 wd_804 wd_8 wd_805) rfl rfl rfl hd_Mod_greatest ⟨Nat.le_of_ble_eq_true rfl, Nat.le_of_ble_eq_true rfl⟩) (zz_preS zz_TE hP hD hK hS hA trivial [] rfl (by decide)) rfl rfl hl.1 rfl (lv_room (Nat.le_of_ble_eq_true rfl)) d_Mod_write_109 ⟨Nat.zero_le _, Nat.zero_le _⟩) (fun H locs hP hD hS => ?_)
    refine W.lcmp hx hb d_Mod_write_112 ?_
    refine lv_if_le (tgt := 128) hx hb d_Mod_write_113 (by decide) (fun hc => ?_) (fun hc => ?_)
    · have hf := zz_ifp hc hf
      refine lv_lload hx hb d_Mod_write_128 (lv_at hl 2 rfl) ?_
      refine lv_lconst (v := 0) hx hb d_Mod_write_130 (by decide) ?_
      refine W.lcmp hx hb d_Mod_write_131 ?_
      refine lv_if_ne (tgt := 146) hx hb d_Mod_write_132 (by decide) (fun hc => ?_) (fun hc => ?_)
      · have hf := zz_ifn hc hf
        refine lv_aload_n hx hb d_Mod_write_146 rfl (lv_at hl 0 rfl) ?_
        refine lv_lload hx hb d_Mod_write_147 (lv_at hl 2 rfl) ?_
        refine lv_iload_n hx hb d_Mod_write_149 rfl (lv_at hl 1 rfl) ?_
        obtain ⟨u_3, hu_3, hf⟩ := zz_bd hf
        refine zz_cv (ws' := [(h_v, .inr (7, [.ref h_v_text, .ref h_v_written, .int v_length, .int u_3.1, .int v_gone, .int v_thrown, .int v_were, .int v_none, .int v_beyond, .ref h_v_a, .ref h_v_b, .ref h_v_five, .ref h_v_left, .ref h_v_right, .ref h_v_part, .int u_3.2.1, .int u_3.2.2.1, .int u_3.2.2.2.1, .int u_3.2.2.2.2.1, .int u_3.2.2.2.2.2.1, .int v_partMany, .int u_3.2.2.2.2.2.2.1, .int v_at, .int v_digits, .int u_3.2.2.2.2.2.2.2.1, .int v_good])), (h_v_written, .inl (cI, n_v_written, .inl u_3.2.2.2.2.2.2.2.2.1)), (h_v_a, .inl (cI, n_v_a, .inl u_3.2.2.2.2.2.2.2.2.2.1)), (h_v_b, .inl (cI, n_v_b, .inl u_3.2.2.2.2.2.2.2.2.2.2.1)), (h_v_five, .inl (cI, n_v_five, .inl u_3.2.2.2.2.2.2.2.2.2.2.2.1)), (h_v_left, .inl (cI, n_v_left, .inl u_3.2.2.2.2.2.2.2.2.2.2.2.2.1)), (h_v_right, .inl (cI, n_v_right, .inl u_3.2.2.2.2.2.2.2.2.2.2.2.2.2))]) (wc := [(h_v, .inr (7, [.ref h_v_text, .ref h_v_written, .int v_length, .int v_laid, .int v_gone, .int v_thrown, .int v_were, .int v_none, .int v_beyond, .ref h_v_a, .ref h_v_b, .ref h_v_five, .ref h_v_left, .ref h_v_right, .ref h_v_part, .int v_aMany, .int v_bMany, .int v_fiveMany, .int v_leftMany, .int v_rightMany, .int v_partMany, .int v_twos, .int v_at, .int v_digits, .int v_power, .int v_good])), (h_v_written, .inl (cI, n_v_written, .inl v_written_a)), (h_v_a, .inl (cI, n_v_a, .inl v_a_a)), (h_v_b, .inl (cI, n_v_b, .inl v_b_a)), (h_v_five, .inl (cI, n_v_five, .inl v_five_a)), (h_v_left, .inl (cI, n_v_left, .inl v_left_a)), (h_v_right, .inl (cI, n_v_right, .inl v_right_a))]) (w' := [(h_v, .inr (7, [.ref h_v_text, .ref h_v_written, .int v_length, .int u_3.1, .int v_gone, .int v_thrown, .int v_were, .int v_none, .int v_beyond, .ref h_v_a, .ref h_v_b, .ref h_v_five, .ref h_v_left, .ref h_v_right, .ref h_v_part, .int u_3.2.1, .int u_3.2.2.1, .int u_3.2.2.2.1, .int u_3.2.2.2.2.1, .int u_3.2.2.2.2.2.1, .int v_partMany, .int u_3.2.2.2.2.2.2.1, .int v_at, .int v_digits, .int u_3.2.2.2.2.2.2.2.1, .int v_good])), (h_v_written, .inl (cI, n_v_written, .inl u_3.2.2.2.2.2.2.2.2.1)), (h_v_a, .inl (cI, n_v_a, .inl u_3.2.2.2.2.2.2.2.2.2.1)), (h_v_b, .inl (cI, n_v_b, .inl u_3.2.2.2.2.2.2.2.2.2.2.1)), (h_v_five, .inl (cI, n_v_five, .inl u_3.2.2.2.2.2.2.2.2.2.2.2.1)), (h_v_left, .inl (cI, n_v_left, .inl u_3.2.2.2.2.2.2.2.2.2.2.2.2.1)), (h_v_right, .inl (cI, n_v_right, .inl u_3.2.2.2.2.2.2.2.2.2.2.2.2.2))]) hP hD hS hA [0, 1, 2, 3, 4, 5, 6] [] [0, 1, 2, 3, 4, 5, 6] rfl rfl (by decide) (by decide) rfl (by decide) (va_runV (As := [.long y4, .int x3]) (rest := []) ⟨hx, hb, hml, hown, hw⟩ (c_Mod_layDecimal l dC dI cI cC cB cJ fu _ h_v h_v_written h_v_a h_v_b h_v_five h_v_left h_v_right h_v_text h_v_part n_v_written n_v_a n_v_b n_v_five n_v_left n_v_right y4 x3 v_length v_laid v_gone v_thrown v_were v_none v_beyond v_aMany v_bMany v_fiveMany v_leftMany v_rightMany v_partMany v_twos v_at v_digits v_power v_good v_written_a v_a_a v_b_a v_five_a v_left_a v_right_a u_3 hu_3) (cwV 2 hw (zg_V wd_862 wd_864 we_2_6 wd_8 wd_865) rfl rfl rfl hd_Mod_layDecimal ⟨Nat.le_of_ble_eq_true rfl, Nat.le_of_ble_eq_true rfl⟩) (zz_preV zz_TE (va_recv (q0 := 0) (ci := 7) hK hP rfl rfl) hP hD hK hS hA trivial [0, 1, 2, 3, 4, 5, 6] rfl (by decide)) rfl rfl hl.1 rfl (lv_room (Nat.le_of_ble_eq_true rfl)) d_Mod_write_150 ⟨Nat.zero_le _, Nat.zero_le _⟩) (fun H locs hP hD hS => ?_)
        refine lv_aload_n hx hb d_Mod_write_153 rfl (lv_at hl 0 rfl) ?_
        refine va_get (D := (dC, dI)) (ci := 7) (v := .int u_3.1) (C := R_Mod) (T := T_Mod) (N := 26) hx hb hw in_Mod hown hK hP 0 rfl rfl 3 (by decide) (hw _ wd_677) (fun _ h9 => h9) rfl d_Mod_write_154 ?_
        cases hf
        exact hend 157 ls _ _ d_Mod_write_157 hP hD hS
      · have hf := zz_ifp hc hf
        refine lv_aload_n hx hb d_Mod_write_135 rfl (lv_at hl 0 rfl) ?_
        refine lv_ldc2 (v := 3157552) hx hb hown (hw _ wd_861) d_Mod_write_136 ?_
        refine lv_iconst (v := 3) hx hb d_Mod_write_139 (by decide) ?_
        obtain ⟨u_4, hu_4, hf⟩ := zz_bd hf
        refine zz_cv (ws' := [(h_v, .inr (7, [.ref h_v_text, .ref h_v_written, .int v_length, .int u_4.1, .int v_gone, .int v_thrown, .int v_were, .int v_none, .int v_beyond, .ref h_v_a, .ref h_v_b, .ref h_v_five, .ref h_v_left, .ref h_v_right, .ref h_v_part, .int v_aMany, .int v_bMany, .int v_fiveMany, .int v_leftMany, .int v_rightMany, .int v_partMany, .int v_twos, .int v_at, .int v_digits, .int v_power, .int v_good])), (h_v_written, .inl (cI, n_v_written, .inl u_4.2)), (h_v_a, .inl (cI, n_v_a, .inl v_a_a)), (h_v_b, .inl (cI, n_v_b, .inl v_b_a)), (h_v_five, .inl (cI, n_v_five, .inl v_five_a)), (h_v_left, .inl (cI, n_v_left, .inl v_left_a)), (h_v_right, .inl (cI, n_v_right, .inl v_right_a))]) (wc := [(h_v, .inr (7, [.ref h_v_text, .ref h_v_written, .int v_length, .int v_laid, .int v_gone, .int v_thrown, .int v_were, .int v_none, .int v_beyond, .ref h_v_a, .ref h_v_b, .ref h_v_five, .ref h_v_left, .ref h_v_right, .ref h_v_part, .int v_aMany, .int v_bMany, .int v_fiveMany, .int v_leftMany, .int v_rightMany, .int v_partMany, .int v_twos, .int v_at, .int v_digits, .int v_power, .int v_good])), (h_v_written, .inl (cI, n_v_written, .inl v_written_a))]) (w' := [(h_v, .inr (7, [.ref h_v_text, .ref h_v_written, .int v_length, .int u_4.1, .int v_gone, .int v_thrown, .int v_were, .int v_none, .int v_beyond, .ref h_v_a, .ref h_v_b, .ref h_v_five, .ref h_v_left, .ref h_v_right, .ref h_v_part, .int v_aMany, .int v_bMany, .int v_fiveMany, .int v_leftMany, .int v_rightMany, .int v_partMany, .int v_twos, .int v_at, .int v_digits, .int v_power, .int v_good])), (h_v_written, .inl (cI, n_v_written, .inl u_4.2))]) hP hD hS hA [0, 1] [2, 3, 4, 5, 6] [5, 6, 0, 1, 2, 3, 4] rfl rfl (by decide) (by decide) rfl (by decide) (va_runV (As := [.long 3157552, .int 3]) (rest := []) ⟨hx, hb, hml, hown, hw⟩ (c_Mod_layWord l dC dI cI cC cB cJ fu _ h_v h_v_written h_v_text h_v_a h_v_b h_v_five h_v_left h_v_right h_v_part n_v_written 3157552 3 v_length v_laid v_gone v_thrown v_were v_none v_beyond v_aMany v_bMany v_fiveMany v_leftMany v_rightMany v_partMany v_twos v_at v_digits v_power v_good v_written_a u_4 hu_4) (cwV 2 hw (zg_V wd_851 wd_853 we_2_4 wd_8 wd_854) rfl rfl rfl hd_Mod_layWord ⟨Nat.le_of_ble_eq_true rfl, Nat.le_of_ble_eq_true rfl⟩) (zz_preV zz_TE (va_recv (q0 := 0) (ci := 7) hK hP rfl rfl) hP hD hK hS hA trivial [0, 1] rfl (by decide)) rfl rfl hl.1 rfl (lv_room (Nat.le_of_ble_eq_true rfl)) d_Mod_write_140 ⟨Nat.zero_le _, Nat.zero_le _⟩) (fun H locs hP hD hS => ?_)
        refine lv_goto (tgt := 153) hx hb d_Mod_write_143 (by decide) ?_
        refine lv_aload_n hx hb d_Mod_write_153 rfl (lv_at hl 0 rfl) ?_
        refine va_get (D := (dC, dI)) (ci := 7) (v := .int u_4.1) (C := R_Mod) (T := T_Mod) (N := 26) hx hb hw in_Mod hown hK hP 0 rfl rfl 3 (by decide) (hw _ wd_677) (fun _ h9 => h9) rfl d_Mod_write_154 ?_
        cases hf
        exact hend 157 ls _ _ d_Mod_write_157 hP hD hS
    · have hf := zz_ifn hc hf
      refine lv_aload_n hx hb d_Mod_write_116 rfl (lv_at hl 0 rfl) ?_
      refine lv_ldc2 (v := 5291279215216915577) hx hb hown (hw _ wd_860) d_Mod_write_117 ?_
      refine lv_bipush (v := 8) hx hb d_Mod_write_120 (by decide) ?_
      obtain ⟨u_5, hu_5, hf⟩ := zz_bd hf
      refine zz_cv (ws' := [(h_v, .inr (7, [.ref h_v_text, .ref h_v_written, .int v_length, .int u_5.1, .int v_gone, .int v_thrown, .int v_were, .int v_none, .int v_beyond, .ref h_v_a, .ref h_v_b, .ref h_v_five, .ref h_v_left, .ref h_v_right, .ref h_v_part, .int v_aMany, .int v_bMany, .int v_fiveMany, .int v_leftMany, .int v_rightMany, .int v_partMany, .int v_twos, .int v_at, .int v_digits, .int v_power, .int v_good])), (h_v_written, .inl (cI, n_v_written, .inl u_5.2)), (h_v_a, .inl (cI, n_v_a, .inl v_a_a)), (h_v_b, .inl (cI, n_v_b, .inl v_b_a)), (h_v_five, .inl (cI, n_v_five, .inl v_five_a)), (h_v_left, .inl (cI, n_v_left, .inl v_left_a)), (h_v_right, .inl (cI, n_v_right, .inl v_right_a))]) (wc := [(h_v, .inr (7, [.ref h_v_text, .ref h_v_written, .int v_length, .int v_laid, .int v_gone, .int v_thrown, .int v_were, .int v_none, .int v_beyond, .ref h_v_a, .ref h_v_b, .ref h_v_five, .ref h_v_left, .ref h_v_right, .ref h_v_part, .int v_aMany, .int v_bMany, .int v_fiveMany, .int v_leftMany, .int v_rightMany, .int v_partMany, .int v_twos, .int v_at, .int v_digits, .int v_power, .int v_good])), (h_v_written, .inl (cI, n_v_written, .inl v_written_a))]) (w' := [(h_v, .inr (7, [.ref h_v_text, .ref h_v_written, .int v_length, .int u_5.1, .int v_gone, .int v_thrown, .int v_were, .int v_none, .int v_beyond, .ref h_v_a, .ref h_v_b, .ref h_v_five, .ref h_v_left, .ref h_v_right, .ref h_v_part, .int v_aMany, .int v_bMany, .int v_fiveMany, .int v_leftMany, .int v_rightMany, .int v_partMany, .int v_twos, .int v_at, .int v_digits, .int v_power, .int v_good])), (h_v_written, .inl (cI, n_v_written, .inl u_5.2))]) hP hD hS hA [0, 1] [2, 3, 4, 5, 6] [5, 6, 0, 1, 2, 3, 4] rfl rfl (by decide) (by decide) rfl (by decide) (va_runV (As := [.long 5291279215216915577, .int 8]) (rest := []) ⟨hx, hb, hml, hown, hw⟩ (c_Mod_layWord l dC dI cI cC cB cJ fu _ h_v h_v_written h_v_text h_v_a h_v_b h_v_five h_v_left h_v_right h_v_part n_v_written 5291279215216915577 8 v_length v_laid v_gone v_thrown v_were v_none v_beyond v_aMany v_bMany v_fiveMany v_leftMany v_rightMany v_partMany v_twos v_at v_digits v_power v_good v_written_a u_5 hu_5) (cwV 2 hw (zg_V wd_851 wd_853 we_2_4 wd_8 wd_854) rfl rfl rfl hd_Mod_layWord ⟨Nat.le_of_ble_eq_true rfl, Nat.le_of_ble_eq_true rfl⟩) (zz_preV zz_TE (va_recv (q0 := 0) (ci := 7) hK hP rfl rfl) hP hD hK hS hA trivial [0, 1] rfl (by decide)) rfl rfl hl.1 rfl (lv_room (Nat.le_of_ble_eq_true rfl)) d_Mod_write_122 ⟨Nat.zero_le _, Nat.zero_le _⟩) (fun H locs hP hD hS => ?_)
      refine lv_goto (tgt := 153) hx hb d_Mod_write_125 (by decide) ?_
      refine lv_aload_n hx hb d_Mod_write_153 rfl (lv_at hl 0 rfl) ?_
      refine va_get (D := (dC, dI)) (ci := 7) (v := .int u_5.1) (C := R_Mod) (T := T_Mod) (N := 26) hx hb hw in_Mod hown hK hP 0 rfl rfl 3 (by decide) (hw _ wd_677) (fun _ h9 => h9) rfl d_Mod_write_154 ?_
      cases hf
      exact hend 157 ls _ _ d_Mod_write_157 hP hD hS
  have hL_68 : ∀ (y4 : Int64) (k0 : Int32) (v_laid : Int32) (v_gone : Int32) (v_thrown : Int32) (v_aMany : Int32) (v_bMany : Int32) (v_fiveMany : Int32) (v_leftMany : Int32) (v_rightMany : Int32) (v_twos : Int32) (v_power : Int32) (v_written_a : Nat → Int32) (v_a_a : Nat → Int32) (v_b_a : Nat → Int32) (v_five_a : Nat → Int32) (v_left_a : Nat → Int32) (v_right_a : Nat → Int32) (ls : Array Slot) (H : Heap) (locs : List Loc), lv_has ls 7 [(0, .ref h_v), (3, .int x3), (4, .long y4)] → va_P (dC, dI) vwCl [(h_v, .inr (7, [.ref h_v_text, .ref h_v_written, .int v_length, .int v_laid, .int v_gone, .int v_thrown, .int v_were, .int v_none, .int v_beyond, .ref h_v_a, .ref h_v_b, .ref h_v_five, .ref h_v_left, .ref h_v_right, .ref h_v_part, .int v_aMany, .int v_bMany, .int v_fiveMany, .int v_leftMany, .int v_rightMany, .int v_partMany, .int v_twos, .int v_at, .int v_digits, .int v_power, .int v_good])), (h_v_written, .inl (cI, n_v_written, .inl v_written_a)), (h_v_a, .inl (cI, n_v_a, .inl v_a_a)), (h_v_b, .inl (cI, n_v_b, .inl v_b_a)), (h_v_five, .inl (cI, n_v_five, .inl v_five_a)), (h_v_left, .inl (cI, n_v_left, .inl v_left_a)), (h_v_right, .inl (cI, n_v_right, .inl v_right_a))] H → va_D A [(h_v, .inr (7, [.ref h_v_text, .ref h_v_written, .int v_length, .int v_laid, .int v_gone, .int v_thrown, .int v_were, .int v_none, .int v_beyond, .ref h_v_a, .ref h_v_b, .ref h_v_five, .ref h_v_left, .ref h_v_right, .ref h_v_part, .int v_aMany, .int v_bMany, .int v_fiveMany, .int v_leftMany, .int v_rightMany, .int v_partMany, .int v_twos, .int v_at, .int v_digits, .int v_power, .int v_good])), (h_v_written, .inl (cI, n_v_written, .inl v_written_a)), (h_v_a, .inl (cI, n_v_a, .inl v_a_a)), (h_v_b, .inl (cI, n_v_b, .inl v_b_a)), (h_v_five, .inl (cI, n_v_five, .inl v_five_a)), (h_v_left, .inl (cI, n_v_left, .inl v_left_a)), (h_v_right, .inl (cI, n_v_right, .inl v_right_a))] → va_S A s.heap H locs → f_Mod_write_68 fu n_v_written n_v_a n_v_b n_v_five n_v_left n_v_right x1 x3 y4 k0 v_laid v_gone v_thrown v_aMany v_bMany v_fiveMany v_leftMany v_rightMany v_twos v_power v_written_a v_a_a v_b_a v_five_a v_left_a v_right_a = some u → W p l e (headSpec ws_Mod_write rm_Mod_write).room s m [.ref h_v, .long x1, .int x3].toArray below meth c H locs 0 0 Qq (F0 m 68 ls [.int k0]) := by
    intro y4 k0 v_laid v_gone v_thrown v_aMany v_bMany v_fiveMany v_leftMany v_rightMany v_twos v_power v_written_a v_a_a v_b_a v_five_a v_left_a v_right_a ls H locs hl hP hD hS hf
    unfold f_Mod_write_68 at hf
    refine lv_istore hx hb d_Mod_write_68 hl (by decide) rfl (fun ls hl => ?_)
    have hl : lv_has ls 7 [(6, .int k0), (0, .ref h_v), (3, .int x3), (4, .long y4)] := hl
    refine lv_lload hx hb d_Mod_write_70 (lv_at hl 3 rfl) ?_
    refine lv_iload_n hx hb d_Mod_write_72 rfl (lv_at hl 2 rfl) ?_
    obtain ⟨u_1, hu_1, hf⟩ := zz_bd hf
    refine zz_cl (ws' := [(h_v, .inr (7, [.ref h_v_text, .ref h_v_written, .int v_length, .int v_laid, .int v_gone, .int v_thrown, .int v_were, .int v_none, .int v_beyond, .ref h_v_a, .ref h_v_b, .ref h_v_five, .ref h_v_left, .ref h_v_right, .ref h_v_part, .int v_aMany, .int v_bMany, .int v_fiveMany, .int v_leftMany, .int v_rightMany, .int v_partMany, .int v_twos, .int v_at, .int v_digits, .int v_power, .int v_good])), (h_v_written, .inl (cI, n_v_written, .inl v_written_a)), (h_v_a, .inl (cI, n_v_a, .inl v_a_a)), (h_v_b, .inl (cI, n_v_b, .inl v_b_a)), (h_v_five, .inl (cI, n_v_five, .inl v_five_a)), (h_v_left, .inl (cI, n_v_left, .inl v_left_a)), (h_v_right, .inl (cI, n_v_right, .inl v_right_a))]) (wc := []) (w' := []) hP hD hS hA [] [0, 1, 2, 3, 4, 5, 6] [0, 1, 2, 3, 4, 5, 6] rfl rfl (by decide) (by decide) rfl (by decide) (va_runS (As := [.int x3]) (rest := [.long y4]) ⟨hx, hb, hml, hown, hw⟩ (c_Mod_greatest l dC dI cI cC cB cJ _ x3 u_1 hu_1) (va_cwS 1 hw (zg_S wd_803 wd_804 wd_8 wd_805) rfl rfl rfl hd_Mod_greatest ⟨Nat.le_of_ble_eq_true rfl, Nat.le_of_ble_eq_true rfl⟩) (zz_preS zz_TE hP hD hK hS hA trivial [] rfl (by decide)) rfl rfl hl.1 rfl (lv_room (Nat.le_of_ble_eq_true rfl)) d_Mod_write_73 ⟨Nat.zero_le _, Nat.zero_le _⟩) (fun H locs hP hD hS => ?_)
    refine lv_lconst (v := 1) hx hb d_Mod_write_76 (by decide) ?_
    refine lv_ladd hx hb d_Mod_write_77 ?_
    refine W.lcmp hx hb d_Mod_write_78 ?_
    refine lv_if_le (tgt := 95) hx hb d_Mod_write_79 (by decide) (fun hc => ?_) (fun hc => ?_)
    · have hf := zz_ifp hc hf
      refine lv_iload hx hb d_Mod_write_95 (lv_at hl 0 rfl) ?_
      refine lv_if_eq (tgt := 106) hx hb d_Mod_write_97 (by decide) (fun hc => ?_) (fun hc => ?_)
      · have hf := zz_ifp hc hf
        exact hL_106 y4 v_laid v_gone v_thrown v_aMany v_bMany v_fiveMany v_leftMany v_rightMany v_twos v_power v_written_a v_a_a v_b_a v_five_a v_left_a v_right_a ls _ _ (lv_sub hl [1, 2, 3] rfl) hP hD hS hf
      · have hf := zz_ifn hc hf
        refine lv_aload_n hx hb d_Mod_write_100 rfl (lv_at hl 1 rfl) ?_
        refine lv_bipush (v := 45) hx hb d_Mod_write_101 (by decide) ?_
        obtain ⟨u_6, hu_6, hf⟩ := zz_bd hf
        refine zz_cv (ws' := [(h_v, .inr (7, [.ref h_v_text, .ref h_v_written, .int v_length, .int u_6.1, .int v_gone, .int v_thrown, .int v_were, .int v_none, .int v_beyond, .ref h_v_a, .ref h_v_b, .ref h_v_five, .ref h_v_left, .ref h_v_right, .ref h_v_part, .int v_aMany, .int v_bMany, .int v_fiveMany, .int v_leftMany, .int v_rightMany, .int v_partMany, .int v_twos, .int v_at, .int v_digits, .int v_power, .int v_good])), (h_v_written, .inl (cI, n_v_written, .inl u_6.2)), (h_v_a, .inl (cI, n_v_a, .inl v_a_a)), (h_v_b, .inl (cI, n_v_b, .inl v_b_a)), (h_v_five, .inl (cI, n_v_five, .inl v_five_a)), (h_v_left, .inl (cI, n_v_left, .inl v_left_a)), (h_v_right, .inl (cI, n_v_right, .inl v_right_a))]) (wc := [(h_v, .inr (7, [.ref h_v_text, .ref h_v_written, .int v_length, .int v_laid, .int v_gone, .int v_thrown, .int v_were, .int v_none, .int v_beyond, .ref h_v_a, .ref h_v_b, .ref h_v_five, .ref h_v_left, .ref h_v_right, .ref h_v_part, .int v_aMany, .int v_bMany, .int v_fiveMany, .int v_leftMany, .int v_rightMany, .int v_partMany, .int v_twos, .int v_at, .int v_digits, .int v_power, .int v_good])), (h_v_written, .inl (cI, n_v_written, .inl v_written_a))]) (w' := [(h_v, .inr (7, [.ref h_v_text, .ref h_v_written, .int v_length, .int u_6.1, .int v_gone, .int v_thrown, .int v_were, .int v_none, .int v_beyond, .ref h_v_a, .ref h_v_b, .ref h_v_five, .ref h_v_left, .ref h_v_right, .ref h_v_part, .int v_aMany, .int v_bMany, .int v_fiveMany, .int v_leftMany, .int v_rightMany, .int v_partMany, .int v_twos, .int v_at, .int v_digits, .int v_power, .int v_good])), (h_v_written, .inl (cI, n_v_written, .inl u_6.2))]) hP hD hS hA [0, 1] [2, 3, 4, 5, 6] [5, 6, 0, 1, 2, 3, 4] rfl rfl (by decide) (by decide) rfl (by decide) (va_runV (As := [.int 45]) (rest := []) ⟨hx, hb, hml, hown, hw⟩ (c_Mod_lay l dC dI cI cC cB cJ _ h_v h_v_written h_v_text h_v_a h_v_b h_v_five h_v_left h_v_right h_v_part n_v_written 45 v_length v_laid v_gone v_thrown v_were v_none v_beyond v_aMany v_bMany v_fiveMany v_leftMany v_rightMany v_partMany v_twos v_at v_digits v_power v_good v_written_a u_6 hu_6) (cwV 1 hw (zg_V wd_856 wd_858 we_2_5 wd_8 wd_859) rfl rfl rfl hd_Mod_lay ⟨Nat.le_of_ble_eq_true rfl, Nat.le_of_ble_eq_true rfl⟩) (zz_preV zz_TE (va_recv (q0 := 0) (ci := 7) hK hP rfl rfl) hP hD hK hS hA trivial [0, 1] rfl (by decide)) rfl rfl hl.1 rfl (lv_room (Nat.le_of_ble_eq_true rfl)) d_Mod_write_103 ⟨Nat.zero_le _, Nat.zero_le _⟩) (fun H locs hP hD hS => ?_)
        exact hL_106 y4 u_6.1 v_gone v_thrown v_aMany v_bMany v_fiveMany v_leftMany v_rightMany v_twos v_power u_6.2 v_a_a v_b_a v_five_a v_left_a v_right_a ls _ _ (lv_sub hl [1, 2, 3] rfl) hP hD hS hf
    · have hf := zz_ifn hc hf
      refine lv_aload_n hx hb d_Mod_write_82 rfl (lv_at hl 1 rfl) ?_
      refine lv_ldc2 (v := 5136718) hx hb hown (hw _ wd_850) d_Mod_write_83 ?_
      refine lv_iconst (v := 3) hx hb d_Mod_write_86 (by decide) ?_
      obtain ⟨u_7, hu_7, hf⟩ := zz_bd hf
      refine zz_cv (ws' := [(h_v, .inr (7, [.ref h_v_text, .ref h_v_written, .int v_length, .int u_7.1, .int v_gone, .int v_thrown, .int v_were, .int v_none, .int v_beyond, .ref h_v_a, .ref h_v_b, .ref h_v_five, .ref h_v_left, .ref h_v_right, .ref h_v_part, .int v_aMany, .int v_bMany, .int v_fiveMany, .int v_leftMany, .int v_rightMany, .int v_partMany, .int v_twos, .int v_at, .int v_digits, .int v_power, .int v_good])), (h_v_written, .inl (cI, n_v_written, .inl u_7.2)), (h_v_a, .inl (cI, n_v_a, .inl v_a_a)), (h_v_b, .inl (cI, n_v_b, .inl v_b_a)), (h_v_five, .inl (cI, n_v_five, .inl v_five_a)), (h_v_left, .inl (cI, n_v_left, .inl v_left_a)), (h_v_right, .inl (cI, n_v_right, .inl v_right_a))]) (wc := [(h_v, .inr (7, [.ref h_v_text, .ref h_v_written, .int v_length, .int v_laid, .int v_gone, .int v_thrown, .int v_were, .int v_none, .int v_beyond, .ref h_v_a, .ref h_v_b, .ref h_v_five, .ref h_v_left, .ref h_v_right, .ref h_v_part, .int v_aMany, .int v_bMany, .int v_fiveMany, .int v_leftMany, .int v_rightMany, .int v_partMany, .int v_twos, .int v_at, .int v_digits, .int v_power, .int v_good])), (h_v_written, .inl (cI, n_v_written, .inl v_written_a))]) (w' := [(h_v, .inr (7, [.ref h_v_text, .ref h_v_written, .int v_length, .int u_7.1, .int v_gone, .int v_thrown, .int v_were, .int v_none, .int v_beyond, .ref h_v_a, .ref h_v_b, .ref h_v_five, .ref h_v_left, .ref h_v_right, .ref h_v_part, .int v_aMany, .int v_bMany, .int v_fiveMany, .int v_leftMany, .int v_rightMany, .int v_partMany, .int v_twos, .int v_at, .int v_digits, .int v_power, .int v_good])), (h_v_written, .inl (cI, n_v_written, .inl u_7.2))]) hP hD hS hA [0, 1] [2, 3, 4, 5, 6] [5, 6, 0, 1, 2, 3, 4] rfl rfl (by decide) (by decide) rfl (by decide) (va_runV (As := [.long 5136718, .int 3]) (rest := []) ⟨hx, hb, hml, hown, hw⟩ (c_Mod_layWord l dC dI cI cC cB cJ fu _ h_v h_v_written h_v_text h_v_a h_v_b h_v_five h_v_left h_v_right h_v_part n_v_written 5136718 3 v_length v_laid v_gone v_thrown v_were v_none v_beyond v_aMany v_bMany v_fiveMany v_leftMany v_rightMany v_partMany v_twos v_at v_digits v_power v_good v_written_a u_7 hu_7) (cwV 2 hw (zg_V wd_851 wd_853 we_2_4 wd_8 wd_854) rfl rfl rfl hd_Mod_layWord ⟨Nat.le_of_ble_eq_true rfl, Nat.le_of_ble_eq_true rfl⟩) (zz_preV zz_TE (va_recv (q0 := 0) (ci := 7) hK hP rfl rfl) hP hD hK hS hA trivial [0, 1] rfl (by decide)) rfl rfl hl.1 rfl (lv_room (Nat.le_of_ble_eq_true rfl)) d_Mod_write_87 ⟨Nat.zero_le _, Nat.zero_le _⟩) (fun H locs hP hD hS => ?_)
      refine lv_aload_n hx hb d_Mod_write_90 rfl (lv_at hl 1 rfl) ?_
      refine va_get (D := (dC, dI)) (ci := 7) (v := .int u_7.1) (C := R_Mod) (T := T_Mod) (N := 26) hx hb hw in_Mod hown hK hP 0 rfl rfl 3 (by decide) (hw _ wd_677) (fun _ h9 => h9) rfl d_Mod_write_91 ?_
      cases hf
      exact hend 94 ls _ _ d_Mod_write_94 hP hD hS
  have hL_32 : ∀ (k0 : Int64) (v_laid : Int32) (v_gone : Int32) (v_thrown : Int32) (v_aMany : Int32) (v_bMany : Int32) (v_fiveMany : Int32) (v_leftMany : Int32) (v_rightMany : Int32) (v_twos : Int32) (v_power : Int32) (v_written_a : Nat → Int32) (v_a_a : Nat → Int32) (v_b_a : Nat → Int32) (v_five_a : Nat → Int32) (v_left_a : Nat → Int32) (v_right_a : Nat → Int32) (ls : Array Slot) (H : Heap) (locs : List Loc), lv_has ls 7 [(0, .ref h_v), (1, .long x1), (3, .int x3)] → va_P (dC, dI) vwCl [(h_v, .inr (7, [.ref h_v_text, .ref h_v_written, .int v_length, .int v_laid, .int v_gone, .int v_thrown, .int v_were, .int v_none, .int v_beyond, .ref h_v_a, .ref h_v_b, .ref h_v_five, .ref h_v_left, .ref h_v_right, .ref h_v_part, .int v_aMany, .int v_bMany, .int v_fiveMany, .int v_leftMany, .int v_rightMany, .int v_partMany, .int v_twos, .int v_at, .int v_digits, .int v_power, .int v_good])), (h_v_written, .inl (cI, n_v_written, .inl v_written_a)), (h_v_a, .inl (cI, n_v_a, .inl v_a_a)), (h_v_b, .inl (cI, n_v_b, .inl v_b_a)), (h_v_five, .inl (cI, n_v_five, .inl v_five_a)), (h_v_left, .inl (cI, n_v_left, .inl v_left_a)), (h_v_right, .inl (cI, n_v_right, .inl v_right_a))] H → va_D A [(h_v, .inr (7, [.ref h_v_text, .ref h_v_written, .int v_length, .int v_laid, .int v_gone, .int v_thrown, .int v_were, .int v_none, .int v_beyond, .ref h_v_a, .ref h_v_b, .ref h_v_five, .ref h_v_left, .ref h_v_right, .ref h_v_part, .int v_aMany, .int v_bMany, .int v_fiveMany, .int v_leftMany, .int v_rightMany, .int v_partMany, .int v_twos, .int v_at, .int v_digits, .int v_power, .int v_good])), (h_v_written, .inl (cI, n_v_written, .inl v_written_a)), (h_v_a, .inl (cI, n_v_a, .inl v_a_a)), (h_v_b, .inl (cI, n_v_b, .inl v_b_a)), (h_v_five, .inl (cI, n_v_five, .inl v_five_a)), (h_v_left, .inl (cI, n_v_left, .inl v_left_a)), (h_v_right, .inl (cI, n_v_right, .inl v_right_a))] → va_S A s.heap H locs → f_Mod_write_32 fu n_v_written n_v_a n_v_b n_v_five n_v_left n_v_right x1 x3 k0 v_laid v_gone v_thrown v_aMany v_bMany v_fiveMany v_leftMany v_rightMany v_twos v_power v_written_a v_a_a v_b_a v_five_a v_left_a v_right_a = some u → W p l e (headSpec ws_Mod_write rm_Mod_write).room s m [.ref h_v, .long x1, .int x3].toArray below meth c H locs 0 0 Qq (F0 m 32 ls [.long k0]) := by
    intro k0 v_laid v_gone v_thrown v_aMany v_bMany v_fiveMany v_leftMany v_rightMany v_twos v_power v_written_a v_a_a v_b_a v_five_a v_left_a v_right_a ls H locs hl hP hD hS hf
    unfold f_Mod_write_32 at hf
    refine lv_lstore hx hb d_Mod_write_32 hl (by decide) rfl (fun ls hl => ?_)
    have hl : lv_has ls 7 [(4, .long k0), (0, .ref h_v), (1, .long x1), (3, .int x3)] := hl
    refine lv_iload_n hx hb d_Mod_write_34 rfl (lv_at hl 3 rfl) ?_
    refine lv_if_eq (tgt := 57) hx hb d_Mod_write_35 (by decide) (fun hc => ?_) (fun hc => ?_)
    · have hf := zz_ifp hc hf
      refine lv_lload_n hx hb d_Mod_write_57 rfl (lv_at hl 2 rfl) ?_
      refine lv_lconst (v := 0) hx hb d_Mod_write_58 (by decide) ?_
      refine W.lcmp hx hb d_Mod_write_59 ?_
      refine lv_if_ge (tgt := 67) hx hb d_Mod_write_60 (by decide) (fun hc => ?_) (fun hc => ?_)
      · have hf := zz_ifp hc hf
        refine lv_iconst (v := 0) hx hb d_Mod_write_67 (by decide) ?_
        exact hL_68 k0 0 v_laid v_gone v_thrown v_aMany v_bMany v_fiveMany v_leftMany v_rightMany v_twos v_power v_written_a v_a_a v_b_a v_five_a v_left_a v_right_a ls _ _ (lv_sub hl [1, 3, 0] rfl) hP hD hS hf
      · have hf := zz_ifn hc hf
        refine lv_iconst (v := 1) hx hb d_Mod_write_63 (by decide) ?_
        refine lv_goto (tgt := 68) hx hb d_Mod_write_64 (by decide) ?_
        exact hL_68 k0 1 v_laid v_gone v_thrown v_aMany v_bMany v_fiveMany v_leftMany v_rightMany v_twos v_power v_written_a v_a_a v_b_a v_five_a v_left_a v_right_a ls _ _ (lv_sub hl [1, 3, 0] rfl) hP hD hS hf
    · have hf := zz_ifn hc hf
      refine lv_lload_n hx hb d_Mod_write_38 rfl (lv_at hl 2 rfl) ?_
      refine lv_bipush (v := 31) hx hb d_Mod_write_39 (by decide) ?_
      refine lv_lshr hx hb d_Mod_write_41 rfl ?_
      refine lv_lconst (v := 1) hx hb d_Mod_write_42 (by decide) ?_
      refine lv_land hx hb d_Mod_write_43 ?_
      refine lv_lconst (v := 1) hx hb d_Mod_write_44 (by decide) ?_
      refine W.lcmp hx hb d_Mod_write_45 ?_
      refine lv_if_ne (tgt := 53) hx hb d_Mod_write_46 (by decide) (fun hc => ?_) (fun hc => ?_)
      · have hf := zz_ifn hc hf
        refine lv_iconst (v := 0) hx hb d_Mod_write_53 (by decide) ?_
        refine lv_goto (tgt := 68) hx hb d_Mod_write_54 (by decide) ?_
        exact hL_68 k0 0 v_laid v_gone v_thrown v_aMany v_bMany v_fiveMany v_leftMany v_rightMany v_twos v_power v_written_a v_a_a v_b_a v_five_a v_left_a v_right_a ls _ _ (lv_sub hl [1, 3, 0] rfl) hP hD hS hf
      · have hf := zz_ifp hc hf
        refine lv_iconst (v := 1) hx hb d_Mod_write_49 (by decide) ?_
        refine lv_goto (tgt := 68) hx hb d_Mod_write_50 (by decide) ?_
        exact hL_68 k0 1 v_laid v_gone v_thrown v_aMany v_bMany v_fiveMany v_leftMany v_rightMany v_twos v_power v_written_a v_a_a v_b_a v_five_a v_left_a v_right_a ls _ _ (lv_sub hl [1, 3, 0] rfl) hP hD hS hf
  unfold f_Mod_write at hf
  refine lv_aload_n hx hb d_Mod_write_0 rfl (lv_at hl 0 rfl) ?_
  refine lv_iconst (v := 0) hx hb d_Mod_write_1 (by decide) ?_
  refine va_put (D := (dC, dI)) (ci := 7) (v := .int 0) (ty := .int) (C := R_Mod) (T := T_Mod) (N := 26) hx hb hw in_Mod ty_Mod tyok_Mod nm_Mod hown hK hP hD hS 0 rfl rfl 5 (by decide) (hw _ wd_679) (fun _ h9 => h9) rfl (tyok_Mod 5 (by decide)) rfl rfl (Nat.le_of_ble_eq_true rfl) d_Mod_write_2 (fun H locs hP hD hS => ?_)
  have hP : va_P (dC, dI) vwCl [(h_v, .inr (7, [.ref h_v_text, .ref h_v_written, .int v_length, .int v_laid, .int v_gone, .int 0, .int v_were, .int v_none, .int v_beyond, .ref h_v_a, .ref h_v_b, .ref h_v_five, .ref h_v_left, .ref h_v_right, .ref h_v_part, .int v_aMany, .int v_bMany, .int v_fiveMany, .int v_leftMany, .int v_rightMany, .int v_partMany, .int v_twos, .int v_at, .int v_digits, .int v_power, .int v_good])), (h_v_written, .inl (cI, n_v_written, .inl v_written_a)), (h_v_a, .inl (cI, n_v_a, .inl v_a_a)), (h_v_b, .inl (cI, n_v_b, .inl v_b_a)), (h_v_five, .inl (cI, n_v_five, .inl v_five_a)), (h_v_left, .inl (cI, n_v_left, .inl v_left_a)), (h_v_right, .inl (cI, n_v_right, .inl v_right_a))] H := hP
  have hD : va_D A [(h_v, .inr (7, [.ref h_v_text, .ref h_v_written, .int v_length, .int v_laid, .int v_gone, .int 0, .int v_were, .int v_none, .int v_beyond, .ref h_v_a, .ref h_v_b, .ref h_v_five, .ref h_v_left, .ref h_v_right, .ref h_v_part, .int v_aMany, .int v_bMany, .int v_fiveMany, .int v_leftMany, .int v_rightMany, .int v_partMany, .int v_twos, .int v_at, .int v_digits, .int v_power, .int v_good])), (h_v_written, .inl (cI, n_v_written, .inl v_written_a)), (h_v_a, .inl (cI, n_v_a, .inl v_a_a)), (h_v_b, .inl (cI, n_v_b, .inl v_b_a)), (h_v_five, .inl (cI, n_v_five, .inl v_five_a)), (h_v_left, .inl (cI, n_v_left, .inl v_left_a)), (h_v_right, .inl (cI, n_v_right, .inl v_right_a))] := hD
  refine lv_aload_n hx hb d_Mod_write_5 rfl (lv_at hl 0 rfl) ?_
  refine lv_iconst (v := 0) hx hb d_Mod_write_6 (by decide) ?_
  refine va_put (D := (dC, dI)) (ci := 7) (v := .int 0) (ty := .int) (C := R_Mod) (T := T_Mod) (N := 26) hx hb hw in_Mod ty_Mod tyok_Mod nm_Mod hown hK hP hD hS 0 rfl rfl 3 (by decide) (hw _ wd_677) (fun _ h9 => h9) rfl (tyok_Mod 3 (by decide)) rfl rfl (Nat.le_of_ble_eq_true rfl) d_Mod_write_7 (fun H locs hP hD hS => ?_)
  have hP : va_P (dC, dI) vwCl [(h_v, .inr (7, [.ref h_v_text, .ref h_v_written, .int v_length, .int 0, .int v_gone, .int 0, .int v_were, .int v_none, .int v_beyond, .ref h_v_a, .ref h_v_b, .ref h_v_five, .ref h_v_left, .ref h_v_right, .ref h_v_part, .int v_aMany, .int v_bMany, .int v_fiveMany, .int v_leftMany, .int v_rightMany, .int v_partMany, .int v_twos, .int v_at, .int v_digits, .int v_power, .int v_good])), (h_v_written, .inl (cI, n_v_written, .inl v_written_a)), (h_v_a, .inl (cI, n_v_a, .inl v_a_a)), (h_v_b, .inl (cI, n_v_b, .inl v_b_a)), (h_v_five, .inl (cI, n_v_five, .inl v_five_a)), (h_v_left, .inl (cI, n_v_left, .inl v_left_a)), (h_v_right, .inl (cI, n_v_right, .inl v_right_a))] H := hP
  have hD : va_D A [(h_v, .inr (7, [.ref h_v_text, .ref h_v_written, .int v_length, .int 0, .int v_gone, .int 0, .int v_were, .int v_none, .int v_beyond, .ref h_v_a, .ref h_v_b, .ref h_v_five, .ref h_v_left, .ref h_v_right, .ref h_v_part, .int v_aMany, .int v_bMany, .int v_fiveMany, .int v_leftMany, .int v_rightMany, .int v_partMany, .int v_twos, .int v_at, .int v_digits, .int v_power, .int v_good])), (h_v_written, .inl (cI, n_v_written, .inl v_written_a)), (h_v_a, .inl (cI, n_v_a, .inl v_a_a)), (h_v_b, .inl (cI, n_v_b, .inl v_b_a)), (h_v_five, .inl (cI, n_v_five, .inl v_five_a)), (h_v_left, .inl (cI, n_v_left, .inl v_left_a)), (h_v_right, .inl (cI, n_v_right, .inl v_right_a))] := hD
  refine lv_aload_n hx hb d_Mod_write_10 rfl (lv_at hl 0 rfl) ?_
  refine lv_iconst (v := 0) hx hb d_Mod_write_11 (by decide) ?_
  refine va_put (D := (dC, dI)) (ci := 7) (v := .int 0) (ty := .int) (C := R_Mod) (T := T_Mod) (N := 26) hx hb hw in_Mod ty_Mod tyok_Mod nm_Mod hown hK hP hD hS 0 rfl rfl 4 (by decide) (hw _ wd_678) (fun _ h9 => h9) rfl (tyok_Mod 4 (by decide)) rfl rfl (Nat.le_of_ble_eq_true rfl) d_Mod_write_12 (fun H locs hP hD hS => ?_)
  have hP : va_P (dC, dI) vwCl [(h_v, .inr (7, [.ref h_v_text, .ref h_v_written, .int v_length, .int 0, .int 0, .int 0, .int v_were, .int v_none, .int v_beyond, .ref h_v_a, .ref h_v_b, .ref h_v_five, .ref h_v_left, .ref h_v_right, .ref h_v_part, .int v_aMany, .int v_bMany, .int v_fiveMany, .int v_leftMany, .int v_rightMany, .int v_partMany, .int v_twos, .int v_at, .int v_digits, .int v_power, .int v_good])), (h_v_written, .inl (cI, n_v_written, .inl v_written_a)), (h_v_a, .inl (cI, n_v_a, .inl v_a_a)), (h_v_b, .inl (cI, n_v_b, .inl v_b_a)), (h_v_five, .inl (cI, n_v_five, .inl v_five_a)), (h_v_left, .inl (cI, n_v_left, .inl v_left_a)), (h_v_right, .inl (cI, n_v_right, .inl v_right_a))] H := hP
  have hD : va_D A [(h_v, .inr (7, [.ref h_v_text, .ref h_v_written, .int v_length, .int 0, .int 0, .int 0, .int v_were, .int v_none, .int v_beyond, .ref h_v_a, .ref h_v_b, .ref h_v_five, .ref h_v_left, .ref h_v_right, .ref h_v_part, .int v_aMany, .int v_bMany, .int v_fiveMany, .int v_leftMany, .int v_rightMany, .int v_partMany, .int v_twos, .int v_at, .int v_digits, .int v_power, .int v_good])), (h_v_written, .inl (cI, n_v_written, .inl v_written_a)), (h_v_a, .inl (cI, n_v_a, .inl v_a_a)), (h_v_b, .inl (cI, n_v_b, .inl v_b_a)), (h_v_five, .inl (cI, n_v_five, .inl v_five_a)), (h_v_left, .inl (cI, n_v_left, .inl v_left_a)), (h_v_right, .inl (cI, n_v_right, .inl v_right_a))] := hD
  refine lv_iload_n hx hb d_Mod_write_15 rfl (lv_at hl 2 rfl) ?_
  refine lv_if_eq (tgt := 27) hx hb d_Mod_write_16 (by decide) (fun hc => ?_) (fun hc => ?_)
  · have hf := zz_ifp hc hf
    refine lv_lload_n hx hb d_Mod_write_27 rfl (lv_at hl 1 rfl) ?_
    refine lv_ldc2 (v := 9223372036854775807) hx hb hown (hw _ wd_849) d_Mod_write_28 ?_
    refine lv_land hx hb d_Mod_write_31 ?_
    exact hL_32 (x1 &&& 9223372036854775807) 0 0 0 v_aMany v_bMany v_fiveMany v_leftMany v_rightMany v_twos v_power v_written_a v_a_a v_b_a v_five_a v_left_a v_right_a ls _ _ (lv_sub hl [0, 1, 2] rfl) hP hD hS hf
  · have hf := zz_ifn hc hf
    refine lv_lload_n hx hb d_Mod_write_19 rfl (lv_at hl 1 rfl) ?_
    refine lv_ldc2 (v := 2147483647) hx hb hown (hw _ wd_848) d_Mod_write_20 ?_
    refine lv_land hx hb d_Mod_write_23 ?_
    refine lv_goto (tgt := 32) hx hb d_Mod_write_24 (by decide) ?_
    exact hL_32 (x1 &&& 2147483647) 0 0 0 v_aMany v_bMany v_fiveMany v_leftMany v_rightMany v_twos v_power v_written_a v_a_a v_b_a v_five_a v_left_a v_right_a ls _ _ (lv_sub hl [0, 1, 2] rfl) hP hD hS hf
abbrev ws_Mod_take : List Cond := .code y_Mod_take prog_10_method_38_code 4 (some .long) :: zw
abbrev rm_Mod_take : Room := { frames := 0, cells := 0, slots := 0, locals := 0 }
theorem hd_Mod_take : y_Mod_take.cls = "RealTextModel" ∧ y_Mod_take.cls ≠ "java/lang/invoke/MethodHandle" ∧ y_Mod_take.cls ≠ "java/lang/invoke/VarHandle" ∧ (parseMethodDescriptor y_Mod_take.desc).map (fun d => d.parameters.length) = some 0 := by decide +kernel
theorem d_Mod_take_0 : decode prog_10_method_38_code 0 = .ok (.aload_n 0, 1) := by decide +kernel
theorem d_Mod_take_1 : decode prog_10_method_38_code 1 = .ok (.iconst 0, 1) := by decide +kernel
theorem d_Mod_take_2 : decode prog_10_method_38_code 2 = .ok (.putfield 34, 3) := by decide +kernel
theorem d_Mod_take_5 : decode prog_10_method_38_code 5 = .ok (.lconst 0, 1) := by decide +kernel
theorem d_Mod_take_6 : decode prog_10_method_38_code 6 = .ok (.lstore_n 1, 1) := by decide +kernel
theorem d_Mod_take_7 : decode prog_10_method_38_code 7 = .ok (.iconst 0, 1) := by decide +kernel
theorem d_Mod_take_8 : decode prog_10_method_38_code 8 = .ok (.istore_n 3, 1) := by decide +kernel
theorem d_Mod_take_9 : decode prog_10_method_38_code 9 = .ok (.iload_n 3, 1) := by decide +kernel
theorem d_Mod_take_10 : decode prog_10_method_38_code 10 = .ok (.bipush 8, 2) := by decide +kernel
theorem d_Mod_take_12 : decode prog_10_method_38_code 12 = .ok (.if_icmp .ge 46, 3) := by decide +kernel
theorem d_Mod_take_15 : decode prog_10_method_38_code 15 = .ok (.aload_n 0, 1) := by decide +kernel
theorem d_Mod_take_16 : decode prog_10_method_38_code 16 = .ok (.getfield 214, 3) := by decide +kernel
theorem d_Mod_take_19 : decode prog_10_method_38_code 19 = .ok (.aload_n 0, 1) := by decide +kernel
theorem d_Mod_take_20 : decode prog_10_method_38_code 20 = .ok (.getfield 168, 3) := by decide +kernel
theorem d_Mod_take_23 : decode prog_10_method_38_code 23 = .ok (.if_icmp .ge 35, 3) := by decide +kernel
theorem d_Mod_take_26 : decode prog_10_method_38_code 26 = .ok (.lload_n 1, 1) := by decide +kernel
theorem d_Mod_take_27 : decode prog_10_method_38_code 27 = .ok (.bipush 8, 2) := by decide +kernel
theorem d_Mod_take_29 : decode prog_10_method_38_code 29 = .ok (.lshl, 1) := by decide +kernel
theorem d_Mod_take_30 : decode prog_10_method_38_code 30 = .ok (.aload_n 0, 1) := by decide +kernel
theorem d_Mod_take_31 : decode prog_10_method_38_code 31 = .ok (.getfield 13, 3) := by decide +kernel
theorem d_Mod_take_34 : decode prog_10_method_38_code 34 = .ok (.aload_n 0, 1) := by decide +kernel
theorem d_Mod_take_35 : decode prog_10_method_38_code 35 = .ok (.getfield 214, 3) := by decide +kernel
theorem d_Mod_take_38 : decode prog_10_method_38_code 38 = .ok (.iaload, 1) := by decide +kernel
theorem d_Mod_take_39 : decode prog_10_method_38_code 39 = .ok (.i2l, 1) := by decide +kernel
theorem d_Mod_take_40 : decode prog_10_method_38_code 40 = .ok (.lor, 1) := by decide +kernel
theorem d_Mod_take_41 : decode prog_10_method_38_code 41 = .ok (.lstore_n 1, 1) := by decide +kernel
theorem d_Mod_take_42 : decode prog_10_method_38_code 42 = .ok (.aload_n 0, 1) := by decide +kernel
theorem d_Mod_take_43 : decode prog_10_method_38_code 43 = .ok (.dup, 1) := by decide +kernel
theorem d_Mod_take_44 : decode prog_10_method_38_code 44 = .ok (.getfield 214, 3) := by decide +kernel
theorem d_Mod_take_47 : decode prog_10_method_38_code 47 = .ok (.iconst 1, 1) := by decide +kernel
theorem d_Mod_take_48 : decode prog_10_method_38_code 48 = .ok (.iadd, 1) := by decide +kernel
theorem d_Mod_take_49 : decode prog_10_method_38_code 49 = .ok (.putfield 214, 3) := by decide +kernel
theorem d_Mod_take_52 : decode prog_10_method_38_code 52 = .ok (.iinc 3 1, 3) := by decide +kernel
theorem d_Mod_take_55 : decode prog_10_method_38_code 55 = .ok (.goto (-46), 3) := by decide +kernel
theorem d_Mod_take_58 : decode prog_10_method_38_code 58 = .ok (.lload_n 1, 1) := by decide +kernel
theorem d_Mod_take_59 : decode prog_10_method_38_code 59 = .ok (.lreturn, 1) := by decide +kernel
def f_Mod_take_9 (fu : Nat) (n_v_written : Nat) (v_laid : Int32) (v_written_a : Nat → Int32)  : Nat → Int64 → Int32 → Int32 → Int32 → Option (Int64 × Int32 × Int32)
  | 0, _, _, _, _ => none
  | n + 1, y1, y3, v_gone, v_thrown =>
  (if 8 ≤ y3 then
  some (y1, v_gone, v_thrown)
  else
  (if v_laid ≤ v_gone then
  some (y1, v_gone, v_thrown)
  else
  if zz_in v_gone n_v_written = true then
  zz_lt ((y1 <<< ((8 : Int32).toInt64 &&& 63)) ||| ((v_written_a v_gone.toNatClampNeg).toInt64)) fun x1_2 =>
  f_Mod_take_9 fu n_v_written v_laid v_written_a n x1_2 (y3 + 1) (v_gone + 1) v_thrown
  else none))
theorem f_Mod_take_9_s (fu : Nat) (n_v_written : Nat) (v_laid : Int32) (v_written_a : Nat → Int32)  (n : Nat) (y1 : Int64) (y3 : Int32) (v_gone : Int32) (v_thrown : Int32) : f_Mod_take_9 fu n_v_written v_laid v_written_a (n + 1) y1 y3 v_gone v_thrown =
  (if 8 ≤ y3 then
  some (y1, v_gone, v_thrown)
  else
  (if v_laid ≤ v_gone then
  some (y1, v_gone, v_thrown)
  else
  if zz_in v_gone n_v_written = true then
  zz_lt ((y1 <<< ((8 : Int32).toInt64 &&& 63)) ||| ((v_written_a v_gone.toNatClampNeg).toInt64)) fun x1_2 =>
  f_Mod_take_9 fu n_v_written v_laid v_written_a n x1_2 (y3 + 1) (v_gone + 1) v_thrown
  else none)) := rfl
def f_Mod_take (fu : Nat) (n_v_written : Nat) (v_laid : Int32) (v_gone : Int32) (v_thrown : Int32) (v_written_a : Nat → Int32) : Option (Int64 × Int32 × Int32) :=
  f_Mod_take_9 fu n_v_written v_laid v_written_a fu 0 0 v_gone 0
set_option maxHeartbeats 4000000 in
set_option maxRecDepth 100000 in
theorem c_Mod_take (l : Launch) (dC : Nat → ClassId) (dI : Nat → Nat → Nat) (cI cC cB cJ : ClassId) (fu : Nat) (sz : Nat) (h_v : Nat) (h_v_written : Nat) (h_v_text : Nat) (h_v_a : Nat) (h_v_b : Nat) (h_v_five : Nat) (h_v_left : Nat) (h_v_right : Nat) (h_v_part : Nat) (n_v_written : Nat) (v_length : Int32) (v_laid : Int32) (v_gone : Int32) (v_thrown : Int32) (v_were : Int32) (v_none : Int32) (v_beyond : Int32) (v_aMany : Int32) (v_bMany : Int32) (v_fiveMany : Int32) (v_leftMany : Int32) (v_rightMany : Int32) (v_partMany : Int32) (v_twos : Int32) (v_at : Int32) (v_digits : Int32) (v_power : Int32) (v_good : Int32) (v_written_a : Nat → Int32) (u : Int64 × Int32 × Int32) (hf : f_Mod_take fu n_v_written v_laid v_gone v_thrown v_written_a = some u) : Met l y_Mod_take ws_Mod_take rm_Mod_take (zz_P zz_T (dC, dI) vwCl (zz_tys cI cC cB cJ) [.ref h_v] [(h_v, .inr (7, [.ref h_v_text, .ref h_v_written, .int v_length, .int v_laid, .int v_gone, .int v_thrown, .int v_were, .int v_none, .int v_beyond, .ref h_v_a, .ref h_v_b, .ref h_v_five, .ref h_v_left, .ref h_v_right, .ref h_v_part, .int v_aMany, .int v_bMany, .int v_fiveMany, .int v_leftMany, .int v_rightMany, .int v_partMany, .int v_twos, .int v_at, .int v_digits, .int v_power, .int v_good])), (h_v_written, .inl (cI, n_v_written, .inl v_written_a))] sz) (zz_Ql (dC, dI) vwCl u.1 [(h_v, .inr (7, [.ref h_v_text, .ref h_v_written, .int v_length, .int v_laid, .int u.2.1, .int u.2.2, .int v_were, .int v_none, .int v_beyond, .ref h_v_a, .ref h_v_b, .ref h_v_five, .ref h_v_left, .ref h_v_right, .ref h_v_part, .int v_aMany, .int v_bMany, .int v_fiveMany, .int v_leftMany, .int v_rightMany, .int v_partMany, .int v_twos, .int v_at, .int v_digits, .int v_power, .int v_good])), (h_v_written, .inl (cI, n_v_written, .inl v_written_a))] (va_A [(h_v, .inr (7, [.ref h_v_text, .ref h_v_written, .int v_length, .int v_laid, .int v_gone, .int v_thrown, .int v_were, .int v_none, .int v_beyond, .ref h_v_a, .ref h_v_b, .ref h_v_five, .ref h_v_left, .ref h_v_right, .ref h_v_part, .int v_aMany, .int v_bMany, .int v_fiveMany, .int v_leftMany, .int v_rightMany, .int v_partMany, .int v_twos, .int v_at, .int v_digits, .int v_power, .int v_good])), (h_v_written, .inl (cI, n_v_written, .inl v_written_a))] sz)) 0 0 (va_A [(h_v, .inr (7, [.ref h_v_text, .ref h_v_written, .int v_length, .int v_laid, .int v_gone, .int v_thrown, .int v_were, .int v_none, .int v_beyond, .ref h_v_a, .ref h_v_b, .ref h_v_five, .ref h_v_left, .ref h_v_right, .ref h_v_part, .int v_aMany, .int v_bMany, .int v_fiveMany, .int v_leftMany, .int v_rightMany, .int v_partMany, .int v_twos, .int v_at, .int v_digits, .int v_power, .int v_good])), (h_v_written, .inl (cI, n_v_written, .inl v_written_a))] sz) := by
  refine Met.ofW (cc := prog_10_method_38_code) (maxL := 4) (ret := (some .long)) (by decide +kernel) rfl ?_
  intro p e s m args below meth c s₁ B hml hv
  obtain ⟨rfl, hsz, hP, hK, hD0, hX⟩ := hv
  have hx := B.exec
  have hb := B.bytes
  have hr := B.returns
  have hts := atoms_spec (ws := ws_Mod_take) B.pre
  have hw : ∀ w ∈ zw, w.before [.ref h_v].toArray s = true := fun w h => hts w (List.mem_cons_of_mem _ h)
  have hown : s.vm.findClass R_Mod = some m.cls := findClass_of_methodNamed B.named
  have hlocks := B.notSynchronized
  subst hsz
  have hD := hD0.self (sz := s.heap.size)
  generalize hAe : va_A [(h_v, .inr (7, [.ref h_v_text, .ref h_v_written, .int v_length, .int v_laid, .int v_gone, .int v_thrown, .int v_were, .int v_none, .int v_beyond, .ref h_v_a, .ref h_v_b, .ref h_v_five, .ref h_v_left, .ref h_v_right, .ref h_v_part, .int v_aMany, .int v_bMany, .int v_fiveMany, .int v_leftMany, .int v_rightMany, .int v_partMany, .int v_twos, .int v_at, .int v_digits, .int v_power, .int v_good])), (h_v_written, .inl (cI, n_v_written, .inl v_written_a))] s.heap.size = A at hD hX ⊢
  have hA : ∀ q : Nat, s.heap.size ≤ q → A q := fun q h => by rw [← hAe]; exact Or.inr h
  have hS : va_S A s.heap s.heap [] := va_S.rf
  have hl := lv_entry [.ref h_v] (n := 4) (Nat.le_of_ble_eq_true rfl)
  rw [lg_entry_eq]
  generalize (lg_sl [.ref h_v] ++ List.replicate (4 - (lg_sl [.ref h_v]).length) Slot.unset).toArray = ls at hl ⊢
  have hl : lv_has ls 4 [(0, .ref h_v)] := hl
  refine zz_endl hx hb hr hlocks (fun Qq hend => ?_)
  have hL_9 : ∀ (n : Nat), ∀ (y1 : Int64) (y3 : Int32) (v_gone : Int32) (v_thrown : Int32) (ls : Array Slot) (H : Heap) (locs : List Loc), lv_has ls 4 [(0, .ref h_v), (1, .long y1), (3, .int y3)] → va_P (dC, dI) vwCl [(h_v, .inr (7, [.ref h_v_text, .ref h_v_written, .int v_length, .int v_laid, .int v_gone, .int v_thrown, .int v_were, .int v_none, .int v_beyond, .ref h_v_a, .ref h_v_b, .ref h_v_five, .ref h_v_left, .ref h_v_right, .ref h_v_part, .int v_aMany, .int v_bMany, .int v_fiveMany, .int v_leftMany, .int v_rightMany, .int v_partMany, .int v_twos, .int v_at, .int v_digits, .int v_power, .int v_good])), (h_v_written, .inl (cI, n_v_written, .inl v_written_a))] H → va_D A [(h_v, .inr (7, [.ref h_v_text, .ref h_v_written, .int v_length, .int v_laid, .int v_gone, .int v_thrown, .int v_were, .int v_none, .int v_beyond, .ref h_v_a, .ref h_v_b, .ref h_v_five, .ref h_v_left, .ref h_v_right, .ref h_v_part, .int v_aMany, .int v_bMany, .int v_fiveMany, .int v_leftMany, .int v_rightMany, .int v_partMany, .int v_twos, .int v_at, .int v_digits, .int v_power, .int v_good])), (h_v_written, .inl (cI, n_v_written, .inl v_written_a))] → va_S A s.heap H locs → f_Mod_take_9 fu n_v_written v_laid v_written_a n y1 y3 v_gone v_thrown = some u → W p l e (headSpec ws_Mod_take rm_Mod_take).room s m [.ref h_v].toArray below meth c H locs 0 0 Qq (F0 m 9 ls []) := by
    intro n
    induction n with
    | zero =>
      intro y1 y3 v_gone v_thrown ls H locs hl hP hD hS hf
      exact zz_no hf
    | succ n ih =>
      intro y1 y3 v_gone v_thrown ls H locs hl hP hD hS hf
      rw [f_Mod_take_9_s] at hf
      refine lv_iload_n hx hb d_Mod_take_9 rfl (lv_at hl 2 rfl) ?_
      refine lv_bipush (v := 8) hx hb d_Mod_take_10 (by decide) ?_
      refine lv_icmp_ge (tgt := 58) hx hb d_Mod_take_12 (by decide) (fun hc => ?_) (fun hc => ?_)
      · have hf := zz_ifp hc hf
        refine lv_lload_n hx hb d_Mod_take_58 rfl (lv_at hl 1 rfl) ?_
        cases hf
        exact hend 59 ls _ _ d_Mod_take_59 hP hD hS
      · have hf := zz_ifn hc hf
        refine lv_aload_n hx hb d_Mod_take_15 rfl (lv_at hl 0 rfl) ?_
        refine va_get (D := (dC, dI)) (ci := 7) (v := .int v_gone) (C := R_Mod) (T := T_Mod) (N := 26) hx hb hw in_Mod hown hK hP 0 rfl rfl 4 (by decide) (hw _ wd_678) (fun _ h9 => h9) rfl d_Mod_take_16 ?_
        refine lv_aload_n hx hb d_Mod_take_19 rfl (lv_at hl 0 rfl) ?_
        refine va_get (D := (dC, dI)) (ci := 7) (v := .int v_laid) (C := R_Mod) (T := T_Mod) (N := 26) hx hb hw in_Mod hown hK hP 0 rfl rfl 3 (by decide) (hw _ wd_677) (fun _ h9 => h9) rfl d_Mod_take_20 ?_
        refine lv_icmp_ge (tgt := 58) hx hb d_Mod_take_23 (by decide) (fun hc => ?_) (fun hc => ?_)
        · have hf := zz_ifp hc hf
          refine lv_lload_n hx hb d_Mod_take_58 rfl (lv_at hl 1 rfl) ?_
          cases hf
          exact hend 59 ls _ _ d_Mod_take_59 hP hD hS
        · have hf := zz_ifn hc hf
          refine lv_lload_n hx hb d_Mod_take_26 rfl (lv_at hl 1 rfl) ?_
          refine lv_bipush (v := 8) hx hb d_Mod_take_27 (by decide) ?_
          refine lv_lshl hx hb d_Mod_take_29 rfl ?_
          refine lv_aload_n hx hb d_Mod_take_30 rfl (lv_at hl 0 rfl) ?_
          refine va_get (D := (dC, dI)) (ci := 7) (v := .ref h_v_written) (C := R_Mod) (T := T_Mod) (N := 26) hx hb hw in_Mod hown hK hP 0 rfl rfl 1 (by decide) (hw _ wd_675) (fun _ h9 => h9) rfl d_Mod_take_31 ?_
          refine lv_aload_n hx hb d_Mod_take_34 rfl (lv_at hl 0 rfl) ?_
          refine va_get (D := (dC, dI)) (ci := 7) (v := .int v_gone) (C := R_Mod) (T := T_Mod) (N := 26) hx hb hw in_Mod hown hK hP 0 rfl rfl 4 (by decide) (hw _ wd_678) (fun _ h9 => h9) rfl d_Mod_take_35 ?_
          obtain ⟨hb_1, hf⟩ := zz_gd hf
          refine va_iald hx hb hK hP 1 0 rfl rfl (zz_vp hb_1) d_Mod_take_38 ?_
          refine lv_i2l hx hb d_Mod_take_39 rfl ?_
          refine lv_lor hx hb d_Mod_take_40 ?_
          refine lv_topl (fun x1_2 e_x1_2 => ?_)
          have hf := zz_ltp hf x1_2 e_x1_2
          refine lv_lstore_n hx hb d_Mod_take_41 rfl hl (by decide) rfl (fun ls hl => ?_)
          have hl : lv_has ls 4 [(1, .long x1_2), (0, .ref h_v), (3, .int y3)] := hl
          refine lv_aload_n hx hb d_Mod_take_42 rfl (lv_at hl 1 rfl) ?_
          refine lv_dup hx hb d_Mod_take_43 rfl ?_
          refine va_get (D := (dC, dI)) (ci := 7) (v := .int v_gone) (C := R_Mod) (T := T_Mod) (N := 26) hx hb hw in_Mod hown hK hP 0 rfl rfl 4 (by decide) (hw _ wd_678) (fun _ h9 => h9) rfl d_Mod_take_44 ?_
          refine lv_iconst (v := 1) hx hb d_Mod_take_47 (by decide) ?_
          refine lv_iadd hx hb d_Mod_take_48 ?_
          refine va_put (D := (dC, dI)) (ci := 7) (v := .int (v_gone + 1)) (ty := .int) (C := R_Mod) (T := T_Mod) (N := 26) hx hb hw in_Mod ty_Mod tyok_Mod nm_Mod hown hK hP hD hS 0 rfl rfl 4 (by decide) (hw _ wd_678) (fun _ h9 => h9) rfl (tyok_Mod 4 (by decide)) rfl rfl (Nat.le_of_ble_eq_true rfl) d_Mod_take_49 (fun H locs hP hD hS => ?_)
          have hP : va_P (dC, dI) vwCl [(h_v, .inr (7, [.ref h_v_text, .ref h_v_written, .int v_length, .int v_laid, .int (v_gone + 1), .int v_thrown, .int v_were, .int v_none, .int v_beyond, .ref h_v_a, .ref h_v_b, .ref h_v_five, .ref h_v_left, .ref h_v_right, .ref h_v_part, .int v_aMany, .int v_bMany, .int v_fiveMany, .int v_leftMany, .int v_rightMany, .int v_partMany, .int v_twos, .int v_at, .int v_digits, .int v_power, .int v_good])), (h_v_written, .inl (cI, n_v_written, .inl v_written_a))] H := hP
          have hD : va_D A [(h_v, .inr (7, [.ref h_v_text, .ref h_v_written, .int v_length, .int v_laid, .int (v_gone + 1), .int v_thrown, .int v_were, .int v_none, .int v_beyond, .ref h_v_a, .ref h_v_b, .ref h_v_five, .ref h_v_left, .ref h_v_right, .ref h_v_part, .int v_aMany, .int v_bMany, .int v_fiveMany, .int v_leftMany, .int v_rightMany, .int v_partMany, .int v_twos, .int v_at, .int v_digits, .int v_power, .int v_good])), (h_v_written, .inl (cI, n_v_written, .inl v_written_a))] := hD
          refine lv_iinc (k := 2) (v := y3 + 1) hx hb d_Mod_take_52 hl rfl rfl (by decide) rfl (fun ls hl => ?_)
          have hl : lv_has ls 4 [(3, .int (y3 + 1)), (1, .long x1_2), (0, .ref h_v)] := hl
          refine lv_goto (tgt := 9) hx hb d_Mod_take_55 (by decide) ?_
          exact ih x1_2 (y3 + 1) (v_gone + 1) v_thrown ls _ _ (lv_sub hl [2, 1, 0] rfl) hP hD hS hf
  unfold f_Mod_take at hf
  refine lv_aload_n hx hb d_Mod_take_0 rfl (lv_at hl 0 rfl) ?_
  refine lv_iconst (v := 0) hx hb d_Mod_take_1 (by decide) ?_
  refine va_put (D := (dC, dI)) (ci := 7) (v := .int 0) (ty := .int) (C := R_Mod) (T := T_Mod) (N := 26) hx hb hw in_Mod ty_Mod tyok_Mod nm_Mod hown hK hP hD hS 0 rfl rfl 5 (by decide) (hw _ wd_679) (fun _ h9 => h9) rfl (tyok_Mod 5 (by decide)) rfl rfl (Nat.le_of_ble_eq_true rfl) d_Mod_take_2 (fun H locs hP hD hS => ?_)
  have hP : va_P (dC, dI) vwCl [(h_v, .inr (7, [.ref h_v_text, .ref h_v_written, .int v_length, .int v_laid, .int v_gone, .int 0, .int v_were, .int v_none, .int v_beyond, .ref h_v_a, .ref h_v_b, .ref h_v_five, .ref h_v_left, .ref h_v_right, .ref h_v_part, .int v_aMany, .int v_bMany, .int v_fiveMany, .int v_leftMany, .int v_rightMany, .int v_partMany, .int v_twos, .int v_at, .int v_digits, .int v_power, .int v_good])), (h_v_written, .inl (cI, n_v_written, .inl v_written_a))] H := hP
  have hD : va_D A [(h_v, .inr (7, [.ref h_v_text, .ref h_v_written, .int v_length, .int v_laid, .int v_gone, .int 0, .int v_were, .int v_none, .int v_beyond, .ref h_v_a, .ref h_v_b, .ref h_v_five, .ref h_v_left, .ref h_v_right, .ref h_v_part, .int v_aMany, .int v_bMany, .int v_fiveMany, .int v_leftMany, .int v_rightMany, .int v_partMany, .int v_twos, .int v_at, .int v_digits, .int v_power, .int v_good])), (h_v_written, .inl (cI, n_v_written, .inl v_written_a))] := hD
  refine lv_lconst (v := 0) hx hb d_Mod_take_5 (by decide) ?_
  refine lv_lstore_n hx hb d_Mod_take_6 rfl hl (by decide) rfl (fun ls hl => ?_)
  have hl : lv_has ls 4 [(1, .long 0), (0, .ref h_v)] := hl
  refine lv_iconst (v := 0) hx hb d_Mod_take_7 (by decide) ?_
  refine lv_istore_n hx hb d_Mod_take_8 rfl hl (by decide) rfl (fun ls hl => ?_)
  have hl : lv_has ls 4 [(3, .int 0), (1, .long 0), (0, .ref h_v)] := hl
  exact hL_9 fu 0 0 v_gone 0 ls _ _ (lv_sub hl [2, 1, 0] rfl) hP hD hS hf
abbrev ws_Mod_back : List Cond := .code y_Mod_back prog_10_method_39_code 2 (some .int) :: zw
abbrev rm_Mod_back : Room := { frames := 0, cells := 0, slots := 0, locals := 0 }
theorem hd_Mod_back : y_Mod_back.cls = "RealTextModel" ∧ y_Mod_back.cls ≠ "java/lang/invoke/MethodHandle" ∧ y_Mod_back.cls ≠ "java/lang/invoke/VarHandle" ∧ (parseMethodDescriptor y_Mod_back.desc).map (fun d => d.parameters.length) = some 0 := by decide +kernel
theorem d_Mod_back_0 : decode prog_10_method_39_code 0 = .ok (.aload_n 0, 1) := by decide +kernel
theorem d_Mod_back_1 : decode prog_10_method_39_code 1 = .ok (.iconst 0, 1) := by decide +kernel
theorem d_Mod_back_2 : decode prog_10_method_39_code 2 = .ok (.putfield 34, 3) := by decide +kernel
theorem d_Mod_back_5 : decode prog_10_method_39_code 5 = .ok (.aload_n 0, 1) := by decide +kernel
theorem d_Mod_back_6 : decode prog_10_method_39_code 6 = .ok (.iconst 0, 1) := by decide +kernel
theorem d_Mod_back_7 : decode prog_10_method_39_code 7 = .ok (.putfield 46, 3) := by decide +kernel
theorem d_Mod_back_10 : decode prog_10_method_39_code 10 = .ok (.aload_n 0, 1) := by decide +kernel
theorem d_Mod_back_11 : decode prog_10_method_39_code 11 = .ok (.getfield 214, 3) := by decide +kernel
theorem d_Mod_back_14 : decode prog_10_method_39_code 14 = .ok (.istore_n 1, 1) := by decide +kernel
theorem d_Mod_back_15 : decode prog_10_method_39_code 15 = .ok (.iload_n 1, 1) := by decide +kernel
theorem d_Mod_back_16 : decode prog_10_method_39_code 16 = .ok (.aload_n 0, 1) := by decide +kernel
theorem d_Mod_back_17 : decode prog_10_method_39_code 17 = .ok (.getfield 168, 3) := by decide +kernel
theorem d_Mod_back_20 : decode prog_10_method_39_code 20 = .ok (.if_icmp .ge 34, 3) := by decide +kernel
theorem d_Mod_back_23 : decode prog_10_method_39_code 23 = .ok (.aload_n 0, 1) := by decide +kernel
theorem d_Mod_back_24 : decode prog_10_method_39_code 24 = .ok (.getfield 7, 3) := by decide +kernel
theorem d_Mod_back_27 : decode prog_10_method_39_code 27 = .ok (.aload_n 0, 1) := by decide +kernel
theorem d_Mod_back_28 : decode prog_10_method_39_code 28 = .ok (.getfield 46, 3) := by decide +kernel
theorem d_Mod_back_31 : decode prog_10_method_39_code 31 = .ok (.aload_n 0, 1) := by decide +kernel
theorem d_Mod_back_32 : decode prog_10_method_39_code 32 = .ok (.getfield 13, 3) := by decide +kernel
theorem d_Mod_back_35 : decode prog_10_method_39_code 35 = .ok (.iload_n 1, 1) := by decide +kernel
theorem d_Mod_back_36 : decode prog_10_method_39_code 36 = .ok (.iaload, 1) := by decide +kernel
theorem d_Mod_back_37 : decode prog_10_method_39_code 37 = .ok (.iastore, 1) := by decide +kernel
theorem d_Mod_back_38 : decode prog_10_method_39_code 38 = .ok (.aload_n 0, 1) := by decide +kernel
theorem d_Mod_back_39 : decode prog_10_method_39_code 39 = .ok (.dup, 1) := by decide +kernel
theorem d_Mod_back_40 : decode prog_10_method_39_code 40 = .ok (.getfield 46, 3) := by decide +kernel
theorem d_Mod_back_43 : decode prog_10_method_39_code 43 = .ok (.iconst 1, 1) := by decide +kernel
theorem d_Mod_back_44 : decode prog_10_method_39_code 44 = .ok (.iadd, 1) := by decide +kernel
theorem d_Mod_back_45 : decode prog_10_method_39_code 45 = .ok (.putfield 46, 3) := by decide +kernel
theorem d_Mod_back_48 : decode prog_10_method_39_code 48 = .ok (.iinc 1 1, 3) := by decide +kernel
theorem d_Mod_back_51 : decode prog_10_method_39_code 51 = .ok (.goto (-36), 3) := by decide +kernel
theorem d_Mod_back_54 : decode prog_10_method_39_code 54 = .ok (.aload_n 0, 1) := by decide +kernel
theorem d_Mod_back_55 : decode prog_10_method_39_code 55 = .ok (.iconst 0, 1) := by decide +kernel
theorem d_Mod_back_56 : decode prog_10_method_39_code 56 = .ok (.putfield 168, 3) := by decide +kernel
theorem d_Mod_back_59 : decode prog_10_method_39_code 59 = .ok (.aload_n 0, 1) := by decide +kernel
theorem d_Mod_back_60 : decode prog_10_method_39_code 60 = .ok (.iconst 0, 1) := by decide +kernel
theorem d_Mod_back_61 : decode prog_10_method_39_code 61 = .ok (.putfield 214, 3) := by decide +kernel
theorem d_Mod_back_64 : decode prog_10_method_39_code 64 = .ok (.aload_n 0, 1) := by decide +kernel
theorem d_Mod_back_65 : decode prog_10_method_39_code 65 = .ok (.getfield 46, 3) := by decide +kernel
theorem d_Mod_back_68 : decode prog_10_method_39_code 68 = .ok (.ireturn, 1) := by decide +kernel
def f_Mod_back_15 (fu : Nat) (n_v_text : Nat) (n_v_written : Nat) (v_written_a : Nat → Int32)  : Nat → Int32 → Int32 → Int32 → Int32 → Int32 → (Nat → Int32) → Option (Int32 × Int32 × Int32 × Int32 × Int32 × (Nat → Int32))
  | 0, _, _, _, _, _, _ => none
  | n + 1, y1, v_length, v_laid, v_gone, v_thrown, v_text_a =>
  (if v_laid ≤ y1 then
  some (v_length, v_length, 0, 0, v_thrown, v_text_a)
  else
  if zz_in y1 n_v_written = true then
  if zz_in v_length n_v_text = true then
  f_Mod_back_15 fu n_v_text n_v_written v_written_a n (y1 + 1) (v_length + 1) v_laid v_gone v_thrown (upd v_text_a v_length.toNatClampNeg (v_written_a y1.toNatClampNeg))
  else none
  else none)
theorem f_Mod_back_15_s (fu : Nat) (n_v_text : Nat) (n_v_written : Nat) (v_written_a : Nat → Int32)  (n : Nat) (y1 : Int32) (v_length : Int32) (v_laid : Int32) (v_gone : Int32) (v_thrown : Int32) (v_text_a : Nat → Int32) : f_Mod_back_15 fu n_v_text n_v_written v_written_a (n + 1) y1 v_length v_laid v_gone v_thrown v_text_a =
  (if v_laid ≤ y1 then
  some (v_length, v_length, 0, 0, v_thrown, v_text_a)
  else
  if zz_in y1 n_v_written = true then
  if zz_in v_length n_v_text = true then
  f_Mod_back_15 fu n_v_text n_v_written v_written_a n (y1 + 1) (v_length + 1) v_laid v_gone v_thrown (upd v_text_a v_length.toNatClampNeg (v_written_a y1.toNatClampNeg))
  else none
  else none) := rfl
def f_Mod_back (fu : Nat) (n_v_text : Nat) (n_v_written : Nat) (v_length : Int32) (v_laid : Int32) (v_gone : Int32) (v_thrown : Int32) (v_text_a : Nat → Int32) (v_written_a : Nat → Int32) : Option (Int32 × Int32 × Int32 × Int32 × Int32 × (Nat → Int32)) :=
  f_Mod_back_15 fu n_v_text n_v_written v_written_a fu v_gone 0 v_laid v_gone 0 v_text_a
set_option maxHeartbeats 4000000 in
set_option maxRecDepth 100000 in
theorem c_Mod_back (l : Launch) (dC : Nat → ClassId) (dI : Nat → Nat → Nat) (cI cC cB cJ : ClassId) (fu : Nat) (sz : Nat) (h_v : Nat) (h_v_text : Nat) (h_v_written : Nat) (h_v_a : Nat) (h_v_b : Nat) (h_v_five : Nat) (h_v_left : Nat) (h_v_right : Nat) (h_v_part : Nat) (n_v_text : Nat) (n_v_written : Nat) (v_length : Int32) (v_laid : Int32) (v_gone : Int32) (v_thrown : Int32) (v_were : Int32) (v_none : Int32) (v_beyond : Int32) (v_aMany : Int32) (v_bMany : Int32) (v_fiveMany : Int32) (v_leftMany : Int32) (v_rightMany : Int32) (v_partMany : Int32) (v_twos : Int32) (v_at : Int32) (v_digits : Int32) (v_power : Int32) (v_good : Int32) (v_text_a : Nat → Int32) (v_written_a : Nat → Int32) (u : Int32 × Int32 × Int32 × Int32 × Int32 × (Nat → Int32)) (hf : f_Mod_back fu n_v_text n_v_written v_length v_laid v_gone v_thrown v_text_a v_written_a = some u) : Met l y_Mod_back ws_Mod_back rm_Mod_back (zz_P zz_T (dC, dI) vwCl (zz_tys cI cC cB cJ) [.ref h_v] [(h_v, .inr (7, [.ref h_v_text, .ref h_v_written, .int v_length, .int v_laid, .int v_gone, .int v_thrown, .int v_were, .int v_none, .int v_beyond, .ref h_v_a, .ref h_v_b, .ref h_v_five, .ref h_v_left, .ref h_v_right, .ref h_v_part, .int v_aMany, .int v_bMany, .int v_fiveMany, .int v_leftMany, .int v_rightMany, .int v_partMany, .int v_twos, .int v_at, .int v_digits, .int v_power, .int v_good])), (h_v_text, .inl (cI, n_v_text, .inl v_text_a)), (h_v_written, .inl (cI, n_v_written, .inl v_written_a))] sz) (zz_Qi (dC, dI) vwCl u.1 [(h_v, .inr (7, [.ref h_v_text, .ref h_v_written, .int u.2.1, .int u.2.2.1, .int u.2.2.2.1, .int u.2.2.2.2.1, .int v_were, .int v_none, .int v_beyond, .ref h_v_a, .ref h_v_b, .ref h_v_five, .ref h_v_left, .ref h_v_right, .ref h_v_part, .int v_aMany, .int v_bMany, .int v_fiveMany, .int v_leftMany, .int v_rightMany, .int v_partMany, .int v_twos, .int v_at, .int v_digits, .int v_power, .int v_good])), (h_v_text, .inl (cI, n_v_text, .inl u.2.2.2.2.2)), (h_v_written, .inl (cI, n_v_written, .inl v_written_a))] (va_A [(h_v, .inr (7, [.ref h_v_text, .ref h_v_written, .int v_length, .int v_laid, .int v_gone, .int v_thrown, .int v_were, .int v_none, .int v_beyond, .ref h_v_a, .ref h_v_b, .ref h_v_five, .ref h_v_left, .ref h_v_right, .ref h_v_part, .int v_aMany, .int v_bMany, .int v_fiveMany, .int v_leftMany, .int v_rightMany, .int v_partMany, .int v_twos, .int v_at, .int v_digits, .int v_power, .int v_good])), (h_v_text, .inl (cI, n_v_text, .inl v_text_a)), (h_v_written, .inl (cI, n_v_written, .inl v_written_a))] sz)) 0 0 (va_A [(h_v, .inr (7, [.ref h_v_text, .ref h_v_written, .int v_length, .int v_laid, .int v_gone, .int v_thrown, .int v_were, .int v_none, .int v_beyond, .ref h_v_a, .ref h_v_b, .ref h_v_five, .ref h_v_left, .ref h_v_right, .ref h_v_part, .int v_aMany, .int v_bMany, .int v_fiveMany, .int v_leftMany, .int v_rightMany, .int v_partMany, .int v_twos, .int v_at, .int v_digits, .int v_power, .int v_good])), (h_v_text, .inl (cI, n_v_text, .inl v_text_a)), (h_v_written, .inl (cI, n_v_written, .inl v_written_a))] sz) := by
  refine Met.ofW (cc := prog_10_method_39_code) (maxL := 2) (ret := (some .int)) (by decide +kernel) rfl ?_
  intro p e s m args below meth c s₁ B hml hv
  obtain ⟨rfl, hsz, hP, hK, hD0, hX⟩ := hv
  have hx := B.exec
  have hb := B.bytes
  have hr := B.returns
  have hts := atoms_spec (ws := ws_Mod_back) B.pre
  have hw : ∀ w ∈ zw, w.before [.ref h_v].toArray s = true := fun w h => hts w (List.mem_cons_of_mem _ h)
  have hown : s.vm.findClass R_Mod = some m.cls := findClass_of_methodNamed B.named
  have hlocks := B.notSynchronized
  subst hsz
  have hD := hD0.self (sz := s.heap.size)
  generalize hAe : va_A [(h_v, .inr (7, [.ref h_v_text, .ref h_v_written, .int v_length, .int v_laid, .int v_gone, .int v_thrown, .int v_were, .int v_none, .int v_beyond, .ref h_v_a, .ref h_v_b, .ref h_v_five, .ref h_v_left, .ref h_v_right, .ref h_v_part, .int v_aMany, .int v_bMany, .int v_fiveMany, .int v_leftMany, .int v_rightMany, .int v_partMany, .int v_twos, .int v_at, .int v_digits, .int v_power, .int v_good])), (h_v_text, .inl (cI, n_v_text, .inl v_text_a)), (h_v_written, .inl (cI, n_v_written, .inl v_written_a))] s.heap.size = A at hD hX ⊢
  have hA : ∀ q : Nat, s.heap.size ≤ q → A q := fun q h => by rw [← hAe]; exact Or.inr h
  have hS : va_S A s.heap s.heap [] := va_S.rf
  have hl := lv_entry [.ref h_v] (n := 2) (Nat.le_of_ble_eq_true rfl)
  rw [lg_entry_eq]
  generalize (lg_sl [.ref h_v] ++ List.replicate (2 - (lg_sl [.ref h_v]).length) Slot.unset).toArray = ls at hl ⊢
  have hl : lv_has ls 2 [(0, .ref h_v)] := hl
  refine zz_endi hx hb hr hlocks (fun Qq hend => ?_)
  have hL_15 : ∀ (n : Nat), ∀ (y1 : Int32) (v_length : Int32) (v_laid : Int32) (v_gone : Int32) (v_thrown : Int32) (v_text_a : Nat → Int32) (ls : Array Slot) (H : Heap) (locs : List Loc), lv_has ls 2 [(0, .ref h_v), (1, .int y1)] → va_P (dC, dI) vwCl [(h_v, .inr (7, [.ref h_v_text, .ref h_v_written, .int v_length, .int v_laid, .int v_gone, .int v_thrown, .int v_were, .int v_none, .int v_beyond, .ref h_v_a, .ref h_v_b, .ref h_v_five, .ref h_v_left, .ref h_v_right, .ref h_v_part, .int v_aMany, .int v_bMany, .int v_fiveMany, .int v_leftMany, .int v_rightMany, .int v_partMany, .int v_twos, .int v_at, .int v_digits, .int v_power, .int v_good])), (h_v_text, .inl (cI, n_v_text, .inl v_text_a)), (h_v_written, .inl (cI, n_v_written, .inl v_written_a))] H → va_D A [(h_v, .inr (7, [.ref h_v_text, .ref h_v_written, .int v_length, .int v_laid, .int v_gone, .int v_thrown, .int v_were, .int v_none, .int v_beyond, .ref h_v_a, .ref h_v_b, .ref h_v_five, .ref h_v_left, .ref h_v_right, .ref h_v_part, .int v_aMany, .int v_bMany, .int v_fiveMany, .int v_leftMany, .int v_rightMany, .int v_partMany, .int v_twos, .int v_at, .int v_digits, .int v_power, .int v_good])), (h_v_text, .inl (cI, n_v_text, .inl v_text_a)), (h_v_written, .inl (cI, n_v_written, .inl v_written_a))] → va_S A s.heap H locs → f_Mod_back_15 fu n_v_text n_v_written v_written_a n y1 v_length v_laid v_gone v_thrown v_text_a = some u → W p l e (headSpec ws_Mod_back rm_Mod_back).room s m [.ref h_v].toArray below meth c H locs 0 0 Qq (F0 m 15 ls []) := by
    intro n
    induction n with
    | zero =>
      intro y1 v_length v_laid v_gone v_thrown v_text_a ls H locs hl hP hD hS hf
      exact zz_no hf
    | succ n ih =>
      intro y1 v_length v_laid v_gone v_thrown v_text_a ls H locs hl hP hD hS hf
      rw [f_Mod_back_15_s] at hf
      refine lv_iload_n hx hb d_Mod_back_15 rfl (lv_at hl 1 rfl) ?_
      refine lv_aload_n hx hb d_Mod_back_16 rfl (lv_at hl 0 rfl) ?_
      refine va_get (D := (dC, dI)) (ci := 7) (v := .int v_laid) (C := R_Mod) (T := T_Mod) (N := 26) hx hb hw in_Mod hown hK hP 0 rfl rfl 3 (by decide) (hw _ wd_677) (fun _ h9 => h9) rfl d_Mod_back_17 ?_
      refine lv_icmp_ge (tgt := 54) hx hb d_Mod_back_20 (by decide) (fun hc => ?_) (fun hc => ?_)
      · have hf := zz_ifp hc hf
        refine lv_aload_n hx hb d_Mod_back_54 rfl (lv_at hl 0 rfl) ?_
        refine lv_iconst (v := 0) hx hb d_Mod_back_55 (by decide) ?_
        refine va_put (D := (dC, dI)) (ci := 7) (v := .int 0) (ty := .int) (C := R_Mod) (T := T_Mod) (N := 26) hx hb hw in_Mod ty_Mod tyok_Mod nm_Mod hown hK hP hD hS 0 rfl rfl 3 (by decide) (hw _ wd_677) (fun _ h9 => h9) rfl (tyok_Mod 3 (by decide)) rfl rfl (Nat.le_of_ble_eq_true rfl) d_Mod_back_56 (fun H locs hP hD hS => ?_)
        have hP : va_P (dC, dI) vwCl [(h_v, .inr (7, [.ref h_v_text, .ref h_v_written, .int v_length, .int 0, .int v_gone, .int v_thrown, .int v_were, .int v_none, .int v_beyond, .ref h_v_a, .ref h_v_b, .ref h_v_five, .ref h_v_left, .ref h_v_right, .ref h_v_part, .int v_aMany, .int v_bMany, .int v_fiveMany, .int v_leftMany, .int v_rightMany, .int v_partMany, .int v_twos, .int v_at, .int v_digits, .int v_power, .int v_good])), (h_v_text, .inl (cI, n_v_text, .inl v_text_a)), (h_v_written, .inl (cI, n_v_written, .inl v_written_a))] H := hP
        have hD : va_D A [(h_v, .inr (7, [.ref h_v_text, .ref h_v_written, .int v_length, .int 0, .int v_gone, .int v_thrown, .int v_were, .int v_none, .int v_beyond, .ref h_v_a, .ref h_v_b, .ref h_v_five, .ref h_v_left, .ref h_v_right, .ref h_v_part, .int v_aMany, .int v_bMany, .int v_fiveMany, .int v_leftMany, .int v_rightMany, .int v_partMany, .int v_twos, .int v_at, .int v_digits, .int v_power, .int v_good])), (h_v_text, .inl (cI, n_v_text, .inl v_text_a)), (h_v_written, .inl (cI, n_v_written, .inl v_written_a))] := hD
        refine lv_aload_n hx hb d_Mod_back_59 rfl (lv_at hl 0 rfl) ?_
        refine lv_iconst (v := 0) hx hb d_Mod_back_60 (by decide) ?_
        refine va_put (D := (dC, dI)) (ci := 7) (v := .int 0) (ty := .int) (C := R_Mod) (T := T_Mod) (N := 26) hx hb hw in_Mod ty_Mod tyok_Mod nm_Mod hown hK hP hD hS 0 rfl rfl 4 (by decide) (hw _ wd_678) (fun _ h9 => h9) rfl (tyok_Mod 4 (by decide)) rfl rfl (Nat.le_of_ble_eq_true rfl) d_Mod_back_61 (fun H locs hP hD hS => ?_)
        have hP : va_P (dC, dI) vwCl [(h_v, .inr (7, [.ref h_v_text, .ref h_v_written, .int v_length, .int 0, .int 0, .int v_thrown, .int v_were, .int v_none, .int v_beyond, .ref h_v_a, .ref h_v_b, .ref h_v_five, .ref h_v_left, .ref h_v_right, .ref h_v_part, .int v_aMany, .int v_bMany, .int v_fiveMany, .int v_leftMany, .int v_rightMany, .int v_partMany, .int v_twos, .int v_at, .int v_digits, .int v_power, .int v_good])), (h_v_text, .inl (cI, n_v_text, .inl v_text_a)), (h_v_written, .inl (cI, n_v_written, .inl v_written_a))] H := hP
        have hD : va_D A [(h_v, .inr (7, [.ref h_v_text, .ref h_v_written, .int v_length, .int 0, .int 0, .int v_thrown, .int v_were, .int v_none, .int v_beyond, .ref h_v_a, .ref h_v_b, .ref h_v_five, .ref h_v_left, .ref h_v_right, .ref h_v_part, .int v_aMany, .int v_bMany, .int v_fiveMany, .int v_leftMany, .int v_rightMany, .int v_partMany, .int v_twos, .int v_at, .int v_digits, .int v_power, .int v_good])), (h_v_text, .inl (cI, n_v_text, .inl v_text_a)), (h_v_written, .inl (cI, n_v_written, .inl v_written_a))] := hD
        refine lv_aload_n hx hb d_Mod_back_64 rfl (lv_at hl 0 rfl) ?_
        refine va_get (D := (dC, dI)) (ci := 7) (v := .int v_length) (C := R_Mod) (T := T_Mod) (N := 26) hx hb hw in_Mod hown hK hP 0 rfl rfl 2 (by decide) (hw _ wd_676) (fun _ h9 => h9) rfl d_Mod_back_65 ?_
        cases hf
        exact hend 68 ls _ _ d_Mod_back_68 hP hD hS
      · have hf := zz_ifn hc hf
        refine lv_aload_n hx hb d_Mod_back_23 rfl (lv_at hl 0 rfl) ?_
        refine va_get (D := (dC, dI)) (ci := 7) (v := .ref h_v_text) (C := R_Mod) (T := T_Mod) (N := 26) hx hb hw in_Mod hown hK hP 0 rfl rfl 0 (by decide) (hw _ wd_674) (fun _ h9 => h9) rfl d_Mod_back_24 ?_
        refine lv_aload_n hx hb d_Mod_back_27 rfl (lv_at hl 0 rfl) ?_
        refine va_get (D := (dC, dI)) (ci := 7) (v := .int v_length) (C := R_Mod) (T := T_Mod) (N := 26) hx hb hw in_Mod hown hK hP 0 rfl rfl 2 (by decide) (hw _ wd_676) (fun _ h9 => h9) rfl d_Mod_back_28 ?_
        refine lv_aload_n hx hb d_Mod_back_31 rfl (lv_at hl 0 rfl) ?_
        refine va_get (D := (dC, dI)) (ci := 7) (v := .ref h_v_written) (C := R_Mod) (T := T_Mod) (N := 26) hx hb hw in_Mod hown hK hP 0 rfl rfl 1 (by decide) (hw _ wd_675) (fun _ h9 => h9) rfl d_Mod_back_32 ?_
        refine lv_iload_n hx hb d_Mod_back_35 rfl (lv_at hl 1 rfl) ?_
        obtain ⟨hb_1, hf⟩ := zz_gd hf
        refine va_iald hx hb hK hP 2 0 rfl rfl (zz_vp hb_1) d_Mod_back_36 ?_
        obtain ⟨hb_2, hf⟩ := zz_gd hf
        refine va_iast hx hb hK hP hD hS 1 0 rfl rfl (zz_vp hb_2) d_Mod_back_37 (fun H locs hP hD hS => ?_)
        have hP : va_P (dC, dI) vwCl [(h_v, .inr (7, [.ref h_v_text, .ref h_v_written, .int v_length, .int v_laid, .int v_gone, .int v_thrown, .int v_were, .int v_none, .int v_beyond, .ref h_v_a, .ref h_v_b, .ref h_v_five, .ref h_v_left, .ref h_v_right, .ref h_v_part, .int v_aMany, .int v_bMany, .int v_fiveMany, .int v_leftMany, .int v_rightMany, .int v_partMany, .int v_twos, .int v_at, .int v_digits, .int v_power, .int v_good])), (h_v_text, .inl (cI, n_v_text, .inl (upd v_text_a v_length.toNatClampNeg (v_written_a y1.toNatClampNeg)))), (h_v_written, .inl (cI, n_v_written, .inl v_written_a))] H := hP
        have hD : va_D A [(h_v, .inr (7, [.ref h_v_text, .ref h_v_written, .int v_length, .int v_laid, .int v_gone, .int v_thrown, .int v_were, .int v_none, .int v_beyond, .ref h_v_a, .ref h_v_b, .ref h_v_five, .ref h_v_left, .ref h_v_right, .ref h_v_part, .int v_aMany, .int v_bMany, .int v_fiveMany, .int v_leftMany, .int v_rightMany, .int v_partMany, .int v_twos, .int v_at, .int v_digits, .int v_power, .int v_good])), (h_v_text, .inl (cI, n_v_text, .inl (upd v_text_a v_length.toNatClampNeg (v_written_a y1.toNatClampNeg)))), (h_v_written, .inl (cI, n_v_written, .inl v_written_a))] := hD
        refine lv_aload_n hx hb d_Mod_back_38 rfl (lv_at hl 0 rfl) ?_
        refine lv_dup hx hb d_Mod_back_39 rfl ?_
        refine va_get (D := (dC, dI)) (ci := 7) (v := .int v_length) (C := R_Mod) (T := T_Mod) (N := 26) hx hb hw in_Mod hown hK hP 0 rfl rfl 2 (by decide) (hw _ wd_676) (fun _ h9 => h9) rfl d_Mod_back_40 ?_
        refine lv_iconst (v := 1) hx hb d_Mod_back_43 (by decide) ?_
        refine lv_iadd hx hb d_Mod_back_44 ?_
        refine va_put (D := (dC, dI)) (ci := 7) (v := .int (v_length + 1)) (ty := .int) (C := R_Mod) (T := T_Mod) (N := 26) hx hb hw in_Mod ty_Mod tyok_Mod nm_Mod hown hK hP hD hS 0 rfl rfl 2 (by decide) (hw _ wd_676) (fun _ h9 => h9) rfl (tyok_Mod 2 (by decide)) rfl rfl (Nat.le_of_ble_eq_true rfl) d_Mod_back_45 (fun H locs hP hD hS => ?_)
        have hP : va_P (dC, dI) vwCl [(h_v, .inr (7, [.ref h_v_text, .ref h_v_written, .int (v_length + 1), .int v_laid, .int v_gone, .int v_thrown, .int v_were, .int v_none, .int v_beyond, .ref h_v_a, .ref h_v_b, .ref h_v_five, .ref h_v_left, .ref h_v_right, .ref h_v_part, .int v_aMany, .int v_bMany, .int v_fiveMany, .int v_leftMany, .int v_rightMany, .int v_partMany, .int v_twos, .int v_at, .int v_digits, .int v_power, .int v_good])), (h_v_text, .inl (cI, n_v_text, .inl (upd v_text_a v_length.toNatClampNeg (v_written_a y1.toNatClampNeg)))), (h_v_written, .inl (cI, n_v_written, .inl v_written_a))] H := hP
        have hD : va_D A [(h_v, .inr (7, [.ref h_v_text, .ref h_v_written, .int (v_length + 1), .int v_laid, .int v_gone, .int v_thrown, .int v_were, .int v_none, .int v_beyond, .ref h_v_a, .ref h_v_b, .ref h_v_five, .ref h_v_left, .ref h_v_right, .ref h_v_part, .int v_aMany, .int v_bMany, .int v_fiveMany, .int v_leftMany, .int v_rightMany, .int v_partMany, .int v_twos, .int v_at, .int v_digits, .int v_power, .int v_good])), (h_v_text, .inl (cI, n_v_text, .inl (upd v_text_a v_length.toNatClampNeg (v_written_a y1.toNatClampNeg)))), (h_v_written, .inl (cI, n_v_written, .inl v_written_a))] := hD
        refine lv_iinc (k := 1) (v := y1 + 1) hx hb d_Mod_back_48 hl rfl rfl (by decide) rfl (fun ls hl => ?_)
        have hl : lv_has ls 2 [(1, .int (y1 + 1)), (0, .ref h_v)] := hl
        refine lv_goto (tgt := 15) hx hb d_Mod_back_51 (by decide) ?_
        exact ih (y1 + 1) (v_length + 1) v_laid v_gone v_thrown (upd v_text_a v_length.toNatClampNeg (v_written_a y1.toNatClampNeg)) ls _ _ (lv_sub hl [1, 0] rfl) hP hD hS hf
  unfold f_Mod_back at hf
  refine lv_aload_n hx hb d_Mod_back_0 rfl (lv_at hl 0 rfl) ?_
  refine lv_iconst (v := 0) hx hb d_Mod_back_1 (by decide) ?_
  refine va_put (D := (dC, dI)) (ci := 7) (v := .int 0) (ty := .int) (C := R_Mod) (T := T_Mod) (N := 26) hx hb hw in_Mod ty_Mod tyok_Mod nm_Mod hown hK hP hD hS 0 rfl rfl 5 (by decide) (hw _ wd_679) (fun _ h9 => h9) rfl (tyok_Mod 5 (by decide)) rfl rfl (Nat.le_of_ble_eq_true rfl) d_Mod_back_2 (fun H locs hP hD hS => ?_)
  have hP : va_P (dC, dI) vwCl [(h_v, .inr (7, [.ref h_v_text, .ref h_v_written, .int v_length, .int v_laid, .int v_gone, .int 0, .int v_were, .int v_none, .int v_beyond, .ref h_v_a, .ref h_v_b, .ref h_v_five, .ref h_v_left, .ref h_v_right, .ref h_v_part, .int v_aMany, .int v_bMany, .int v_fiveMany, .int v_leftMany, .int v_rightMany, .int v_partMany, .int v_twos, .int v_at, .int v_digits, .int v_power, .int v_good])), (h_v_text, .inl (cI, n_v_text, .inl v_text_a)), (h_v_written, .inl (cI, n_v_written, .inl v_written_a))] H := hP
  have hD : va_D A [(h_v, .inr (7, [.ref h_v_text, .ref h_v_written, .int v_length, .int v_laid, .int v_gone, .int 0, .int v_were, .int v_none, .int v_beyond, .ref h_v_a, .ref h_v_b, .ref h_v_five, .ref h_v_left, .ref h_v_right, .ref h_v_part, .int v_aMany, .int v_bMany, .int v_fiveMany, .int v_leftMany, .int v_rightMany, .int v_partMany, .int v_twos, .int v_at, .int v_digits, .int v_power, .int v_good])), (h_v_text, .inl (cI, n_v_text, .inl v_text_a)), (h_v_written, .inl (cI, n_v_written, .inl v_written_a))] := hD
  refine lv_aload_n hx hb d_Mod_back_5 rfl (lv_at hl 0 rfl) ?_
  refine lv_iconst (v := 0) hx hb d_Mod_back_6 (by decide) ?_
  refine va_put (D := (dC, dI)) (ci := 7) (v := .int 0) (ty := .int) (C := R_Mod) (T := T_Mod) (N := 26) hx hb hw in_Mod ty_Mod tyok_Mod nm_Mod hown hK hP hD hS 0 rfl rfl 2 (by decide) (hw _ wd_676) (fun _ h9 => h9) rfl (tyok_Mod 2 (by decide)) rfl rfl (Nat.le_of_ble_eq_true rfl) d_Mod_back_7 (fun H locs hP hD hS => ?_)
  have hP : va_P (dC, dI) vwCl [(h_v, .inr (7, [.ref h_v_text, .ref h_v_written, .int 0, .int v_laid, .int v_gone, .int 0, .int v_were, .int v_none, .int v_beyond, .ref h_v_a, .ref h_v_b, .ref h_v_five, .ref h_v_left, .ref h_v_right, .ref h_v_part, .int v_aMany, .int v_bMany, .int v_fiveMany, .int v_leftMany, .int v_rightMany, .int v_partMany, .int v_twos, .int v_at, .int v_digits, .int v_power, .int v_good])), (h_v_text, .inl (cI, n_v_text, .inl v_text_a)), (h_v_written, .inl (cI, n_v_written, .inl v_written_a))] H := hP
  have hD : va_D A [(h_v, .inr (7, [.ref h_v_text, .ref h_v_written, .int 0, .int v_laid, .int v_gone, .int 0, .int v_were, .int v_none, .int v_beyond, .ref h_v_a, .ref h_v_b, .ref h_v_five, .ref h_v_left, .ref h_v_right, .ref h_v_part, .int v_aMany, .int v_bMany, .int v_fiveMany, .int v_leftMany, .int v_rightMany, .int v_partMany, .int v_twos, .int v_at, .int v_digits, .int v_power, .int v_good])), (h_v_text, .inl (cI, n_v_text, .inl v_text_a)), (h_v_written, .inl (cI, n_v_written, .inl v_written_a))] := hD
  refine lv_aload_n hx hb d_Mod_back_10 rfl (lv_at hl 0 rfl) ?_
  refine va_get (D := (dC, dI)) (ci := 7) (v := .int v_gone) (C := R_Mod) (T := T_Mod) (N := 26) hx hb hw in_Mod hown hK hP 0 rfl rfl 4 (by decide) (hw _ wd_678) (fun _ h9 => h9) rfl d_Mod_back_11 ?_
  refine lv_istore_n hx hb d_Mod_back_14 rfl hl (by decide) rfl (fun ls hl => ?_)
  have hl : lv_has ls 2 [(1, .int v_gone), (0, .ref h_v)] := hl
  exact hL_15 fu v_gone 0 v_laid v_gone 0 v_text_a ls _ _ (lv_sub hl [1, 0] rfl) hP hD hS hf
abbrev ws_Mod_count : List Cond := .code y_Mod_count prog_10_method_40_code 2 (some .int) :: zw
abbrev rm_Mod_count : Room := { frames := 1, cells := 0, slots := 0, locals := 22 }
theorem hd_Mod_count : y_Mod_count.cls = "RealTextModel" ∧ y_Mod_count.cls ≠ "java/lang/invoke/MethodHandle" ∧ y_Mod_count.cls ≠ "java/lang/invoke/VarHandle" ∧ (parseMethodDescriptor y_Mod_count.desc).map (fun d => d.parameters.length) = some 1 := by decide +kernel
theorem d_Mod_count_0 : decode prog_10_method_40_code 0 = .ok (.iload_n 1, 1) := by decide +kernel
theorem d_Mod_count_1 : decode prog_10_method_40_code 1 = .ok (.iconst 0, 1) := by decide +kernel
theorem d_Mod_count_2 : decode prog_10_method_40_code 2 = .ok (.iconst 4, 1) := by decide +kernel
theorem d_Mod_count_3 : decode prog_10_method_40_code 3 = .ok (.invokestatic 38, 3) := by decide +kernel
theorem d_Mod_count_6 : decode prog_10_method_40_code 6 = .ok (.ifCond .ne 9, 3) := by decide +kernel
theorem d_Mod_count_9 : decode prog_10_method_40_code 9 = .ok (.aload_n 0, 1) := by decide +kernel
theorem d_Mod_count_10 : decode prog_10_method_40_code 10 = .ok (.iconst 1, 1) := by decide +kernel
theorem d_Mod_count_11 : decode prog_10_method_40_code 11 = .ok (.invokevirtual 42, 3) := by decide +kernel
theorem d_Mod_count_14 : decode prog_10_method_40_code 14 = .ok (.ireturn, 1) := by decide +kernel
theorem d_Mod_count_15 : decode prog_10_method_40_code 15 = .ok (.aload_n 0, 1) := by decide +kernel
theorem d_Mod_count_16 : decode prog_10_method_40_code 16 = .ok (.iconst 0, 1) := by decide +kernel
theorem d_Mod_count_17 : decode prog_10_method_40_code 17 = .ok (.putfield 34, 3) := by decide +kernel
theorem d_Mod_count_20 : decode prog_10_method_40_code 20 = .ok (.iload_n 1, 1) := by decide +kernel
theorem d_Mod_count_21 : decode prog_10_method_40_code 21 = .ok (.ifCond .ne 10, 3) := by decide +kernel
theorem d_Mod_count_24 : decode prog_10_method_40_code 24 = .ok (.aload_n 0, 1) := by decide +kernel
theorem d_Mod_count_25 : decode prog_10_method_40_code 25 = .ok (.getfield 46, 3) := by decide +kernel
theorem d_Mod_count_28 : decode prog_10_method_40_code 28 = .ok (.goto 48, 3) := by decide +kernel
theorem d_Mod_count_31 : decode prog_10_method_40_code 31 = .ok (.iload_n 1, 1) := by decide +kernel
theorem d_Mod_count_32 : decode prog_10_method_40_code 32 = .ok (.iconst 1, 1) := by decide +kernel
theorem d_Mod_count_33 : decode prog_10_method_40_code 33 = .ok (.if_icmp .ne 15, 3) := by decide +kernel
theorem d_Mod_count_36 : decode prog_10_method_40_code 36 = .ok (.aload_n 0, 1) := by decide +kernel
theorem d_Mod_count_37 : decode prog_10_method_40_code 37 = .ok (.getfield 168, 3) := by decide +kernel
theorem d_Mod_count_40 : decode prog_10_method_40_code 40 = .ok (.aload_n 0, 1) := by decide +kernel
theorem d_Mod_count_41 : decode prog_10_method_40_code 41 = .ok (.getfield 214, 3) := by decide +kernel
theorem d_Mod_count_44 : decode prog_10_method_40_code 44 = .ok (.isub, 1) := by decide +kernel
theorem d_Mod_count_45 : decode prog_10_method_40_code 45 = .ok (.goto 31, 3) := by decide +kernel
theorem d_Mod_count_48 : decode prog_10_method_40_code 48 = .ok (.iload_n 1, 1) := by decide +kernel
theorem d_Mod_count_49 : decode prog_10_method_40_code 49 = .ok (.iconst 2, 1) := by decide +kernel
theorem d_Mod_count_50 : decode prog_10_method_40_code 50 = .ok (.if_icmp .ne 10, 3) := by decide +kernel
theorem d_Mod_count_53 : decode prog_10_method_40_code 53 = .ok (.aload_n 0, 1) := by decide +kernel
theorem d_Mod_count_54 : decode prog_10_method_40_code 54 = .ok (.getfield 155, 3) := by decide +kernel
theorem d_Mod_count_57 : decode prog_10_method_40_code 57 = .ok (.goto 19, 3) := by decide +kernel
theorem d_Mod_count_60 : decode prog_10_method_40_code 60 = .ok (.iload_n 1, 1) := by decide +kernel
theorem d_Mod_count_61 : decode prog_10_method_40_code 61 = .ok (.iconst 3, 1) := by decide +kernel
theorem d_Mod_count_62 : decode prog_10_method_40_code 62 = .ok (.if_icmp .ne 10, 3) := by decide +kernel
theorem d_Mod_count_65 : decode prog_10_method_40_code 65 = .ok (.aload_n 0, 1) := by decide +kernel
theorem d_Mod_count_66 : decode prog_10_method_40_code 66 = .ok (.getfield 145, 3) := by decide +kernel
theorem d_Mod_count_69 : decode prog_10_method_40_code 69 = .ok (.goto 7, 3) := by decide +kernel
theorem d_Mod_count_72 : decode prog_10_method_40_code 72 = .ok (.aload_n 0, 1) := by decide +kernel
theorem d_Mod_count_73 : decode prog_10_method_40_code 73 = .ok (.getfield 152, 3) := by decide +kernel
theorem d_Mod_count_76 : decode prog_10_method_40_code 76 = .ok (.ireturn, 1) := by decide +kernel
def f_Mod_count (x1 : Int32) (v_length : Int32) (v_laid : Int32) (v_gone : Int32) (v_thrown : Int32) (v_were : Int32) (v_none : Int32) (v_beyond : Int32) : Option (Int32 × Int32) :=
  (f_Mod_in x1 0 4).bind fun u_1 =>
  (if u_1 = 0 then
  (f_Mod_fail 1 v_thrown).bind fun u_2 =>
  some (u_2.1, u_2.2)
  else
  (if x1 = 0 then
  some (v_length, 0)
  else
  (if x1 = 1 then
  some (v_laid - v_gone, 0)
  else
  (if x1 = 2 then
  some (v_were, 0)
  else
  (if x1 = 3 then
  some (v_none, 0)
  else
  some (v_beyond, 0))))))
set_option maxHeartbeats 4000000 in
set_option maxRecDepth 100000 in
theorem c_Mod_count (l : Launch) (dC : Nat → ClassId) (dI : Nat → Nat → Nat) (cI cC cB cJ : ClassId) (sz : Nat) (h_v : Nat) (h_v_text : Nat) (h_v_written : Nat) (h_v_a : Nat) (h_v_b : Nat) (h_v_five : Nat) (h_v_left : Nat) (h_v_right : Nat) (h_v_part : Nat) (x1 : Int32) (v_length : Int32) (v_laid : Int32) (v_gone : Int32) (v_thrown : Int32) (v_were : Int32) (v_none : Int32) (v_beyond : Int32) (v_aMany : Int32) (v_bMany : Int32) (v_fiveMany : Int32) (v_leftMany : Int32) (v_rightMany : Int32) (v_partMany : Int32) (v_twos : Int32) (v_at : Int32) (v_digits : Int32) (v_power : Int32) (v_good : Int32) (u : Int32 × Int32) (hf : f_Mod_count x1 v_length v_laid v_gone v_thrown v_were v_none v_beyond = some u) : Met l y_Mod_count ws_Mod_count rm_Mod_count (zz_P zz_T (dC, dI) vwCl (zz_tys cI cC cB cJ) [.ref h_v, .int x1] [(h_v, .inr (7, [.ref h_v_text, .ref h_v_written, .int v_length, .int v_laid, .int v_gone, .int v_thrown, .int v_were, .int v_none, .int v_beyond, .ref h_v_a, .ref h_v_b, .ref h_v_five, .ref h_v_left, .ref h_v_right, .ref h_v_part, .int v_aMany, .int v_bMany, .int v_fiveMany, .int v_leftMany, .int v_rightMany, .int v_partMany, .int v_twos, .int v_at, .int v_digits, .int v_power, .int v_good]))] sz) (zz_Qi (dC, dI) vwCl u.1 [(h_v, .inr (7, [.ref h_v_text, .ref h_v_written, .int v_length, .int v_laid, .int v_gone, .int u.2, .int v_were, .int v_none, .int v_beyond, .ref h_v_a, .ref h_v_b, .ref h_v_five, .ref h_v_left, .ref h_v_right, .ref h_v_part, .int v_aMany, .int v_bMany, .int v_fiveMany, .int v_leftMany, .int v_rightMany, .int v_partMany, .int v_twos, .int v_at, .int v_digits, .int v_power, .int v_good]))] (va_A [(h_v, .inr (7, [.ref h_v_text, .ref h_v_written, .int v_length, .int v_laid, .int v_gone, .int v_thrown, .int v_were, .int v_none, .int v_beyond, .ref h_v_a, .ref h_v_b, .ref h_v_five, .ref h_v_left, .ref h_v_right, .ref h_v_part, .int v_aMany, .int v_bMany, .int v_fiveMany, .int v_leftMany, .int v_rightMany, .int v_partMany, .int v_twos, .int v_at, .int v_digits, .int v_power, .int v_good]))] sz)) 0 0 (va_A [(h_v, .inr (7, [.ref h_v_text, .ref h_v_written, .int v_length, .int v_laid, .int v_gone, .int v_thrown, .int v_were, .int v_none, .int v_beyond, .ref h_v_a, .ref h_v_b, .ref h_v_five, .ref h_v_left, .ref h_v_right, .ref h_v_part, .int v_aMany, .int v_bMany, .int v_fiveMany, .int v_leftMany, .int v_rightMany, .int v_partMany, .int v_twos, .int v_at, .int v_digits, .int v_power, .int v_good]))] sz) := by
  refine Met.ofW (cc := prog_10_method_40_code) (maxL := 2) (ret := (some .int)) (by decide +kernel) rfl ?_
  intro p e s m args below meth c s₁ B hml hv
  obtain ⟨rfl, hsz, hP, hK, hD0, hX⟩ := hv
  have hx := B.exec
  have hb := B.bytes
  have hr := B.returns
  have hts := atoms_spec (ws := ws_Mod_count) B.pre
  have hw : ∀ w ∈ zw, w.before [.ref h_v, .int x1].toArray s = true := fun w h => hts w (List.mem_cons_of_mem _ h)
  have hown : s.vm.findClass R_Mod = some m.cls := findClass_of_methodNamed B.named
  have hlocks := B.notSynchronized
  subst hsz
  have hD := hD0.self (sz := s.heap.size)
  generalize hAe : va_A [(h_v, .inr (7, [.ref h_v_text, .ref h_v_written, .int v_length, .int v_laid, .int v_gone, .int v_thrown, .int v_were, .int v_none, .int v_beyond, .ref h_v_a, .ref h_v_b, .ref h_v_five, .ref h_v_left, .ref h_v_right, .ref h_v_part, .int v_aMany, .int v_bMany, .int v_fiveMany, .int v_leftMany, .int v_rightMany, .int v_partMany, .int v_twos, .int v_at, .int v_digits, .int v_power, .int v_good]))] s.heap.size = A at hD hX ⊢
  have hA : ∀ q : Nat, s.heap.size ≤ q → A q := fun q h => by rw [← hAe]; exact Or.inr h
  have hS : va_S A s.heap s.heap [] := va_S.rf
  have hl := lv_entry [.ref h_v, .int x1] (n := 2) (Nat.le_of_ble_eq_true rfl)
  rw [lg_entry_eq]
  generalize (lg_sl [.ref h_v, .int x1] ++ List.replicate (2 - (lg_sl [.ref h_v, .int x1]).length) Slot.unset).toArray = ls at hl ⊢
  have hl : lv_has ls 2 [(0, .ref h_v), (1, .int x1)] := hl
  refine zz_endi hx hb hr hlocks (fun Qq hend => ?_)
  unfold f_Mod_count at hf
  refine lv_iload_n hx hb d_Mod_count_0 rfl (lv_at hl 1 rfl) ?_
  refine lv_iconst (v := 0) hx hb d_Mod_count_1 (by decide) ?_
  refine lv_iconst (v := 4) hx hb d_Mod_count_2 (by decide) ?_
  obtain ⟨u_1, hu_1, hf⟩ := zz_bd hf
  refine zz_ci (ws' := [(h_v, .inr (7, [.ref h_v_text, .ref h_v_written, .int v_length, .int v_laid, .int v_gone, .int v_thrown, .int v_were, .int v_none, .int v_beyond, .ref h_v_a, .ref h_v_b, .ref h_v_five, .ref h_v_left, .ref h_v_right, .ref h_v_part, .int v_aMany, .int v_bMany, .int v_fiveMany, .int v_leftMany, .int v_rightMany, .int v_partMany, .int v_twos, .int v_at, .int v_digits, .int v_power, .int v_good]))]) (wc := []) (w' := []) hP hD hS hA [] [0] [0] rfl rfl (by decide) (by decide) rfl (by decide) (va_runS (As := [.int x1, .int 0, .int 4]) (rest := []) ⟨hx, hb, hml, hown, hw⟩ (c_Mod_in l dC dI cI cC cB cJ _ x1 0 4 u_1 hu_1) (va_cwS 3 hw (zg_S wd_760 wd_761 wd_8 wd_762) rfl rfl rfl hd_Mod_in ⟨Nat.le_of_ble_eq_true rfl, Nat.le_of_ble_eq_true rfl⟩) (zz_preS zz_TE hP hD hK hS hA trivial [] rfl (by decide)) rfl rfl hl.1 rfl (lv_room (Nat.le_of_ble_eq_true rfl)) d_Mod_count_3 ⟨Nat.zero_le _, Nat.zero_le _⟩) (fun H locs hP hD hS => ?_)
  refine lv_if_ne (tgt := 15) hx hb d_Mod_count_6 (by decide) (fun hc => ?_) (fun hc => ?_)
  · have hf := zz_ifn hc hf
    refine lv_aload_n hx hb d_Mod_count_15 rfl (lv_at hl 0 rfl) ?_
    refine lv_iconst (v := 0) hx hb d_Mod_count_16 (by decide) ?_
    refine va_put (D := (dC, dI)) (ci := 7) (v := .int 0) (ty := .int) (C := R_Mod) (T := T_Mod) (N := 26) hx hb hw in_Mod ty_Mod tyok_Mod nm_Mod hown hK hP hD hS 0 rfl rfl 5 (by decide) (hw _ wd_679) (fun _ h9 => h9) rfl (tyok_Mod 5 (by decide)) rfl rfl (Nat.le_of_ble_eq_true rfl) d_Mod_count_17 (fun H locs hP hD hS => ?_)
    have hP : va_P (dC, dI) vwCl [(h_v, .inr (7, [.ref h_v_text, .ref h_v_written, .int v_length, .int v_laid, .int v_gone, .int 0, .int v_were, .int v_none, .int v_beyond, .ref h_v_a, .ref h_v_b, .ref h_v_five, .ref h_v_left, .ref h_v_right, .ref h_v_part, .int v_aMany, .int v_bMany, .int v_fiveMany, .int v_leftMany, .int v_rightMany, .int v_partMany, .int v_twos, .int v_at, .int v_digits, .int v_power, .int v_good]))] H := hP
    have hD : va_D A [(h_v, .inr (7, [.ref h_v_text, .ref h_v_written, .int v_length, .int v_laid, .int v_gone, .int 0, .int v_were, .int v_none, .int v_beyond, .ref h_v_a, .ref h_v_b, .ref h_v_five, .ref h_v_left, .ref h_v_right, .ref h_v_part, .int v_aMany, .int v_bMany, .int v_fiveMany, .int v_leftMany, .int v_rightMany, .int v_partMany, .int v_twos, .int v_at, .int v_digits, .int v_power, .int v_good]))] := hD
    refine lv_iload_n hx hb d_Mod_count_20 rfl (lv_at hl 1 rfl) ?_
    refine lv_if_ne (tgt := 31) hx hb d_Mod_count_21 (by decide) (fun hc => ?_) (fun hc => ?_)
    · have hf := zz_ifn hc hf
      refine lv_iload_n hx hb d_Mod_count_31 rfl (lv_at hl 1 rfl) ?_
      refine lv_iconst (v := 1) hx hb d_Mod_count_32 (by decide) ?_
      refine lv_icmp_ne (tgt := 48) hx hb d_Mod_count_33 (by decide) (fun hc => ?_) (fun hc => ?_)
      · have hf := zz_ifn hc hf
        refine lv_iload_n hx hb d_Mod_count_48 rfl (lv_at hl 1 rfl) ?_
        refine lv_iconst (v := 2) hx hb d_Mod_count_49 (by decide) ?_
        refine lv_icmp_ne (tgt := 60) hx hb d_Mod_count_50 (by decide) (fun hc => ?_) (fun hc => ?_)
        · have hf := zz_ifn hc hf
          refine lv_iload_n hx hb d_Mod_count_60 rfl (lv_at hl 1 rfl) ?_
          refine lv_iconst (v := 3) hx hb d_Mod_count_61 (by decide) ?_
          refine lv_icmp_ne (tgt := 72) hx hb d_Mod_count_62 (by decide) (fun hc => ?_) (fun hc => ?_)
          · have hf := zz_ifn hc hf
            refine lv_aload_n hx hb d_Mod_count_72 rfl (lv_at hl 0 rfl) ?_
            refine va_get (D := (dC, dI)) (ci := 7) (v := .int v_beyond) (C := R_Mod) (T := T_Mod) (N := 26) hx hb hw in_Mod hown hK hP 0 rfl rfl 8 (by decide) (hw _ wd_682) (fun _ h9 => h9) rfl d_Mod_count_73 ?_
            cases hf
            exact hend 76 ls _ _ d_Mod_count_76 hP hD hS
          · have hf := zz_ifp hc hf
            refine lv_aload_n hx hb d_Mod_count_65 rfl (lv_at hl 0 rfl) ?_
            refine va_get (D := (dC, dI)) (ci := 7) (v := .int v_none) (C := R_Mod) (T := T_Mod) (N := 26) hx hb hw in_Mod hown hK hP 0 rfl rfl 7 (by decide) (hw _ wd_681) (fun _ h9 => h9) rfl d_Mod_count_66 ?_
            refine lv_goto (tgt := 76) hx hb d_Mod_count_69 (by decide) ?_
            cases hf
            exact hend 76 ls _ _ d_Mod_count_76 hP hD hS
        · have hf := zz_ifp hc hf
          refine lv_aload_n hx hb d_Mod_count_53 rfl (lv_at hl 0 rfl) ?_
          refine va_get (D := (dC, dI)) (ci := 7) (v := .int v_were) (C := R_Mod) (T := T_Mod) (N := 26) hx hb hw in_Mod hown hK hP 0 rfl rfl 6 (by decide) (hw _ wd_680) (fun _ h9 => h9) rfl d_Mod_count_54 ?_
          refine lv_goto (tgt := 76) hx hb d_Mod_count_57 (by decide) ?_
          cases hf
          exact hend 76 ls _ _ d_Mod_count_76 hP hD hS
      · have hf := zz_ifp hc hf
        refine lv_aload_n hx hb d_Mod_count_36 rfl (lv_at hl 0 rfl) ?_
        refine va_get (D := (dC, dI)) (ci := 7) (v := .int v_laid) (C := R_Mod) (T := T_Mod) (N := 26) hx hb hw in_Mod hown hK hP 0 rfl rfl 3 (by decide) (hw _ wd_677) (fun _ h9 => h9) rfl d_Mod_count_37 ?_
        refine lv_aload_n hx hb d_Mod_count_40 rfl (lv_at hl 0 rfl) ?_
        refine va_get (D := (dC, dI)) (ci := 7) (v := .int v_gone) (C := R_Mod) (T := T_Mod) (N := 26) hx hb hw in_Mod hown hK hP 0 rfl rfl 4 (by decide) (hw _ wd_678) (fun _ h9 => h9) rfl d_Mod_count_41 ?_
        refine lv_isub hx hb d_Mod_count_44 ?_
        refine lv_goto (tgt := 76) hx hb d_Mod_count_45 (by decide) ?_
        cases hf
        exact hend 76 ls _ _ d_Mod_count_76 hP hD hS
    · have hf := zz_ifp hc hf
      refine lv_aload_n hx hb d_Mod_count_24 rfl (lv_at hl 0 rfl) ?_
      refine va_get (D := (dC, dI)) (ci := 7) (v := .int v_length) (C := R_Mod) (T := T_Mod) (N := 26) hx hb hw in_Mod hown hK hP 0 rfl rfl 2 (by decide) (hw _ wd_676) (fun _ h9 => h9) rfl d_Mod_count_25 ?_
      refine lv_goto (tgt := 76) hx hb d_Mod_count_28 (by decide) ?_
      cases hf
      exact hend 76 ls _ _ d_Mod_count_76 hP hD hS
  · have hf := zz_ifp hc hf
    refine lv_aload_n hx hb d_Mod_count_9 rfl (lv_at hl 0 rfl) ?_
    refine lv_iconst (v := 1) hx hb d_Mod_count_10 (by decide) ?_
    obtain ⟨u_2, hu_2, hf⟩ := zz_bd hf
    refine zz_ci (ws' := [(h_v, .inr (7, [.ref h_v_text, .ref h_v_written, .int v_length, .int v_laid, .int v_gone, .int u_2.2, .int v_were, .int v_none, .int v_beyond, .ref h_v_a, .ref h_v_b, .ref h_v_five, .ref h_v_left, .ref h_v_right, .ref h_v_part, .int v_aMany, .int v_bMany, .int v_fiveMany, .int v_leftMany, .int v_rightMany, .int v_partMany, .int v_twos, .int v_at, .int v_digits, .int v_power, .int v_good]))]) (wc := [(h_v, .inr (7, [.ref h_v_text, .ref h_v_written, .int v_length, .int v_laid, .int v_gone, .int v_thrown, .int v_were, .int v_none, .int v_beyond, .ref h_v_a, .ref h_v_b, .ref h_v_five, .ref h_v_left, .ref h_v_right, .ref h_v_part, .int v_aMany, .int v_bMany, .int v_fiveMany, .int v_leftMany, .int v_rightMany, .int v_partMany, .int v_twos, .int v_at, .int v_digits, .int v_power, .int v_good]))]) (w' := [(h_v, .inr (7, [.ref h_v_text, .ref h_v_written, .int v_length, .int v_laid, .int v_gone, .int u_2.2, .int v_were, .int v_none, .int v_beyond, .ref h_v_a, .ref h_v_b, .ref h_v_five, .ref h_v_left, .ref h_v_right, .ref h_v_part, .int v_aMany, .int v_bMany, .int v_fiveMany, .int v_leftMany, .int v_rightMany, .int v_partMany, .int v_twos, .int v_at, .int v_digits, .int v_power, .int v_good]))]) hP hD hS hA [0] [] [0] rfl rfl (by decide) (by decide) rfl (by decide) (va_runV (As := [.int 1]) (rest := []) ⟨hx, hb, hml, hown, hw⟩ (c_Mod_fail l dC dI cI cC cB cJ _ h_v h_v_text h_v_written h_v_a h_v_b h_v_five h_v_left h_v_right h_v_part 1 v_length v_laid v_gone v_thrown v_were v_none v_beyond v_aMany v_bMany v_fiveMany v_leftMany v_rightMany v_partMany v_twos v_at v_digits v_power v_good u_2 hu_2) (cwV 1 hw (zg_V wd_763 wd_765 we_1_9 wd_8 wd_766) rfl rfl rfl hd_Mod_fail ⟨Nat.le_of_ble_eq_true rfl, Nat.le_of_ble_eq_true rfl⟩) (zz_preV zz_TE (va_recv (q0 := 0) (ci := 7) hK hP rfl rfl) hP hD hK hS hA trivial [0] rfl (by decide)) rfl rfl hl.1 rfl (lv_room (Nat.le_of_ble_eq_true rfl)) d_Mod_count_11 ⟨Nat.zero_le _, Nat.zero_le _⟩) (fun H locs hP hD hS => ?_)
    cases hf
    exact hend 14 ls _ _ d_Mod_count_14 hP hD hS
