abbrev ws_Mod_look : List Cond := .code y_Mod_look prog_10_method_18_code 1 (some .int) :: zw
abbrev rm_Mod_look : Room := { frames := 0, cells := 0, slots := 0, locals := 0 }
theorem hd_Mod_look : y_Mod_look.cls = "RealTextModel" ∧ y_Mod_look.cls ≠ "java/lang/invoke/MethodHandle" ∧ y_Mod_look.cls ≠ "java/lang/invoke/VarHandle" ∧ (parseMethodDescriptor y_Mod_look.desc).map (fun d => d.parameters.length) = some 0 := by decide +kernel
theorem d_Mod_look_0 : decode prog_10_method_18_code 0 = .ok (.aload_n 0, 1) := by decide +kernel
theorem d_Mod_look_1 : decode prog_10_method_18_code 1 = .ok (.getfield 107, 3) := by decide +kernel
theorem d_Mod_look_4 : decode prog_10_method_18_code 4 = .ok (.aload_n 0, 1) := by decide +kernel
theorem d_Mod_look_5 : decode prog_10_method_18_code 5 = .ok (.getfield 46, 3) := by decide +kernel
theorem d_Mod_look_8 : decode prog_10_method_18_code 8 = .ok (.if_icmp .ge 15, 3) := by decide +kernel
theorem d_Mod_look_11 : decode prog_10_method_18_code 11 = .ok (.aload_n 0, 1) := by decide +kernel
theorem d_Mod_look_12 : decode prog_10_method_18_code 12 = .ok (.getfield 7, 3) := by decide +kernel
theorem d_Mod_look_15 : decode prog_10_method_18_code 15 = .ok (.aload_n 0, 1) := by decide +kernel
theorem d_Mod_look_16 : decode prog_10_method_18_code 16 = .ok (.getfield 107, 3) := by decide +kernel
theorem d_Mod_look_19 : decode prog_10_method_18_code 19 = .ok (.iaload, 1) := by decide +kernel
theorem d_Mod_look_20 : decode prog_10_method_18_code 20 = .ok (.goto 4, 3) := by decide +kernel
theorem d_Mod_look_23 : decode prog_10_method_18_code 23 = .ok (.iconst 0, 1) := by decide +kernel
theorem d_Mod_look_24 : decode prog_10_method_18_code 24 = .ok (.ireturn, 1) := by decide +kernel
def f_Mod_look (n_v_text : Nat) (v_length : Int32) (v_at : Int32) (v_text_a : Nat → Int32) : Option (Int32) :=
  (if v_length ≤ v_at then
  some (0)
  else
  if zz_in v_at n_v_text = true then
  some (v_text_a v_at.toNatClampNeg)
  else none)
set_option maxHeartbeats 4000000 in
set_option maxRecDepth 100000 in
theorem c_Mod_look (l : Launch) (dC : Nat → ClassId) (dI : Nat → Nat → Nat) (cI cC cB cJ : ClassId) (sz : Nat) (h_v : Nat) (h_v_text : Nat) (h_v_written : Nat) (h_v_a : Nat) (h_v_b : Nat) (h_v_five : Nat) (h_v_left : Nat) (h_v_right : Nat) (h_v_part : Nat) (n_v_text : Nat) (v_length : Int32) (v_laid : Int32) (v_gone : Int32) (v_thrown : Int32) (v_were : Int32) (v_none : Int32) (v_beyond : Int32) (v_aMany : Int32) (v_bMany : Int32) (v_fiveMany : Int32) (v_leftMany : Int32) (v_rightMany : Int32) (v_partMany : Int32) (v_twos : Int32) (v_at : Int32) (v_digits : Int32) (v_power : Int32) (v_good : Int32) (v_text_a : Nat → Int32) (u : Int32) (hf : f_Mod_look n_v_text v_length v_at v_text_a = some u) : Met l y_Mod_look ws_Mod_look rm_Mod_look (zz_P zz_T (dC, dI) vwCl (zz_tys cI cC cB cJ) [.ref h_v] [(h_v, .inr (7, [.ref h_v_text, .ref h_v_written, .int v_length, .int v_laid, .int v_gone, .int v_thrown, .int v_were, .int v_none, .int v_beyond, .ref h_v_a, .ref h_v_b, .ref h_v_five, .ref h_v_left, .ref h_v_right, .ref h_v_part, .int v_aMany, .int v_bMany, .int v_fiveMany, .int v_leftMany, .int v_rightMany, .int v_partMany, .int v_twos, .int v_at, .int v_digits, .int v_power, .int v_good])), (h_v_text, .inl (cI, n_v_text, .inl v_text_a))] sz) (zz_Qi (dC, dI) vwCl u [(h_v, .inr (7, [.ref h_v_text, .ref h_v_written, .int v_length, .int v_laid, .int v_gone, .int v_thrown, .int v_were, .int v_none, .int v_beyond, .ref h_v_a, .ref h_v_b, .ref h_v_five, .ref h_v_left, .ref h_v_right, .ref h_v_part, .int v_aMany, .int v_bMany, .int v_fiveMany, .int v_leftMany, .int v_rightMany, .int v_partMany, .int v_twos, .int v_at, .int v_digits, .int v_power, .int v_good])), (h_v_text, .inl (cI, n_v_text, .inl v_text_a))] (va_A [(h_v, .inr (7, [.ref h_v_text, .ref h_v_written, .int v_length, .int v_laid, .int v_gone, .int v_thrown, .int v_were, .int v_none, .int v_beyond, .ref h_v_a, .ref h_v_b, .ref h_v_five, .ref h_v_left, .ref h_v_right, .ref h_v_part, .int v_aMany, .int v_bMany, .int v_fiveMany, .int v_leftMany, .int v_rightMany, .int v_partMany, .int v_twos, .int v_at, .int v_digits, .int v_power, .int v_good])), (h_v_text, .inl (cI, n_v_text, .inl v_text_a))] sz)) 0 0 (va_A [(h_v, .inr (7, [.ref h_v_text, .ref h_v_written, .int v_length, .int v_laid, .int v_gone, .int v_thrown, .int v_were, .int v_none, .int v_beyond, .ref h_v_a, .ref h_v_b, .ref h_v_five, .ref h_v_left, .ref h_v_right, .ref h_v_part, .int v_aMany, .int v_bMany, .int v_fiveMany, .int v_leftMany, .int v_rightMany, .int v_partMany, .int v_twos, .int v_at, .int v_digits, .int v_power, .int v_good])), (h_v_text, .inl (cI, n_v_text, .inl v_text_a))] sz) := by
  refine Met.ofW (cc := prog_10_method_18_code) (maxL := 1) (ret := (some .int)) (by decide +kernel) rfl ?_
  intro p e s m args below meth c s₁ B hml hv
  obtain ⟨rfl, hsz, hP, hK, hD0, hX⟩ := hv
  have hx := B.exec
  have hb := B.bytes
  have hr := B.returns
  have hts := atoms_spec (ws := ws_Mod_look) B.pre
  have hw : ∀ w ∈ zw, w.before [.ref h_v].toArray s = true := fun w h => hts w (List.mem_cons_of_mem _ h)
  have hown : s.vm.findClass R_Mod = some m.cls := findClass_of_methodNamed B.named
  have hlocks := B.notSynchronized
  subst hsz
  have hD := hD0.self (sz := s.heap.size)
  generalize hAe : va_A [(h_v, .inr (7, [.ref h_v_text, .ref h_v_written, .int v_length, .int v_laid, .int v_gone, .int v_thrown, .int v_were, .int v_none, .int v_beyond, .ref h_v_a, .ref h_v_b, .ref h_v_five, .ref h_v_left, .ref h_v_right, .ref h_v_part, .int v_aMany, .int v_bMany, .int v_fiveMany, .int v_leftMany, .int v_rightMany, .int v_partMany, .int v_twos, .int v_at, .int v_digits, .int v_power, .int v_good])), (h_v_text, .inl (cI, n_v_text, .inl v_text_a))] s.heap.size = A at hD hX ⊢
  have hA : ∀ q : Nat, s.heap.size ≤ q → A q := fun q h => by rw [← hAe]; exact Or.inr h
  have hS : va_S A s.heap s.heap [] := va_S.rf
  have hl := lv_entry [.ref h_v] (n := 1) (Nat.le_of_ble_eq_true rfl)
  rw [lg_entry_eq]
  generalize (lg_sl [.ref h_v] ++ List.replicate (1 - (lg_sl [.ref h_v]).length) Slot.unset).toArray = ls at hl ⊢
  have hl : lv_has ls 1 [(0, .ref h_v)] := hl
  refine zz_endi hx hb hr hlocks (fun Qq hend => ?_)
  unfold f_Mod_look at hf
  refine lv_aload_n hx hb d_Mod_look_0 rfl (lv_at hl 0 rfl) ?_
  refine va_get (D := (dC, dI)) (ci := 7) (v := .int v_at) (C := R_Mod) (T := T_Mod) (N := 26) hx hb hw in_Mod hown hK hP 0 rfl rfl 22 (by decide) (hw _ wd_695) (fun _ h9 => h9) rfl d_Mod_look_1 ?_
  refine lv_aload_n hx hb d_Mod_look_4 rfl (lv_at hl 0 rfl) ?_
  refine va_get (D := (dC, dI)) (ci := 7) (v := .int v_length) (C := R_Mod) (T := T_Mod) (N := 26) hx hb hw in_Mod hown hK hP 0 rfl rfl 2 (by decide) (hw _ wd_676) (fun _ h9 => h9) rfl d_Mod_look_5 ?_
  refine lv_icmp_ge (tgt := 23) hx hb d_Mod_look_8 (by decide) (fun hc => ?_) (fun hc => ?_)
  · have hf := zz_ifp hc hf
    refine lv_iconst (v := 0) hx hb d_Mod_look_23 (by decide) ?_
    cases hf
    exact hend 24 ls _ _ d_Mod_look_24 hP hD hS
  · have hf := zz_ifn hc hf
    refine lv_aload_n hx hb d_Mod_look_11 rfl (lv_at hl 0 rfl) ?_
    refine va_get (D := (dC, dI)) (ci := 7) (v := .ref h_v_text) (C := R_Mod) (T := T_Mod) (N := 26) hx hb hw in_Mod hown hK hP 0 rfl rfl 0 (by decide) (hw _ wd_674) (fun _ h9 => h9) rfl d_Mod_look_12 ?_
    refine lv_aload_n hx hb d_Mod_look_15 rfl (lv_at hl 0 rfl) ?_
    refine va_get (D := (dC, dI)) (ci := 7) (v := .int v_at) (C := R_Mod) (T := T_Mod) (N := 26) hx hb hw in_Mod hown hK hP 0 rfl rfl 22 (by decide) (hw _ wd_695) (fun _ h9 => h9) rfl d_Mod_look_16 ?_
    obtain ⟨hb_1, hf⟩ := zz_gd hf
    refine va_iald hx hb hK hP 1 0 rfl rfl (zz_vp hb_1) d_Mod_look_19 ?_
    refine lv_goto (tgt := 24) hx hb d_Mod_look_20 (by decide) ?_
    cases hf
    exact hend 24 ls _ _ d_Mod_look_24 hP hD hS
abbrev ws_Mod_digit : List Cond := .code y_Mod_digit prog_10_method_19_code 2 (some .int) :: zw
abbrev rm_Mod_digit : Room := { frames := 1, cells := 0, slots := 0, locals := 22 }
theorem hd_Mod_digit : y_Mod_digit.cls ≠ "java/lang/invoke/MethodHandle" ∧ y_Mod_digit.cls ≠ "java/lang/invoke/VarHandle" ∧ (parseMethodDescriptor y_Mod_digit.desc).map (fun d => d.parameters.length) = some 2 := by decide +kernel
theorem d_Mod_digit_0 : decode prog_10_method_19_code 0 = .ok (.iload_n 0, 1) := by decide +kernel
theorem d_Mod_digit_1 : decode prog_10_method_19_code 1 = .ok (.bipush 48, 2) := by decide +kernel
theorem d_Mod_digit_3 : decode prog_10_method_19_code 3 = .ok (.bipush 57, 2) := by decide +kernel
theorem d_Mod_digit_5 : decode prog_10_method_19_code 5 = .ok (.invokestatic 38, 3) := by decide +kernel
theorem d_Mod_digit_8 : decode prog_10_method_19_code 8 = .ok (.ifCond .eq 8, 3) := by decide +kernel
theorem d_Mod_digit_11 : decode prog_10_method_19_code 11 = .ok (.iload_n 0, 1) := by decide +kernel
theorem d_Mod_digit_12 : decode prog_10_method_19_code 12 = .ok (.bipush 48, 2) := by decide +kernel
theorem d_Mod_digit_14 : decode prog_10_method_19_code 14 = .ok (.isub, 1) := by decide +kernel
theorem d_Mod_digit_15 : decode prog_10_method_19_code 15 = .ok (.ireturn, 1) := by decide +kernel
theorem d_Mod_digit_16 : decode prog_10_method_19_code 16 = .ok (.iload_n 1, 1) := by decide +kernel
theorem d_Mod_digit_17 : decode prog_10_method_19_code 17 = .ok (.ifCond .eq 22, 3) := by decide +kernel
theorem d_Mod_digit_20 : decode prog_10_method_19_code 20 = .ok (.iload_n 0, 1) := by decide +kernel
theorem d_Mod_digit_21 : decode prog_10_method_19_code 21 = .ok (.bipush 97, 2) := by decide +kernel
theorem d_Mod_digit_23 : decode prog_10_method_19_code 23 = .ok (.bipush 102, 2) := by decide +kernel
theorem d_Mod_digit_25 : decode prog_10_method_19_code 25 = .ok (.invokestatic 38, 3) := by decide +kernel
theorem d_Mod_digit_28 : decode prog_10_method_19_code 28 = .ok (.ifCond .eq 11, 3) := by decide +kernel
theorem d_Mod_digit_31 : decode prog_10_method_19_code 31 = .ok (.iload_n 0, 1) := by decide +kernel
theorem d_Mod_digit_32 : decode prog_10_method_19_code 32 = .ok (.bipush 97, 2) := by decide +kernel
theorem d_Mod_digit_34 : decode prog_10_method_19_code 34 = .ok (.isub, 1) := by decide +kernel
theorem d_Mod_digit_35 : decode prog_10_method_19_code 35 = .ok (.bipush 10, 2) := by decide +kernel
theorem d_Mod_digit_37 : decode prog_10_method_19_code 37 = .ok (.iadd, 1) := by decide +kernel
theorem d_Mod_digit_38 : decode prog_10_method_19_code 38 = .ok (.ireturn, 1) := by decide +kernel
theorem d_Mod_digit_39 : decode prog_10_method_19_code 39 = .ok (.iload_n 1, 1) := by decide +kernel
theorem d_Mod_digit_40 : decode prog_10_method_19_code 40 = .ok (.ifCond .eq 24, 3) := by decide +kernel
theorem d_Mod_digit_43 : decode prog_10_method_19_code 43 = .ok (.iload_n 0, 1) := by decide +kernel
theorem d_Mod_digit_44 : decode prog_10_method_19_code 44 = .ok (.bipush 65, 2) := by decide +kernel
theorem d_Mod_digit_46 : decode prog_10_method_19_code 46 = .ok (.bipush 70, 2) := by decide +kernel
theorem d_Mod_digit_48 : decode prog_10_method_19_code 48 = .ok (.invokestatic 38, 3) := by decide +kernel
theorem d_Mod_digit_51 : decode prog_10_method_19_code 51 = .ok (.ifCond .eq 13, 3) := by decide +kernel
theorem d_Mod_digit_54 : decode prog_10_method_19_code 54 = .ok (.iload_n 0, 1) := by decide +kernel
theorem d_Mod_digit_55 : decode prog_10_method_19_code 55 = .ok (.bipush 65, 2) := by decide +kernel
theorem d_Mod_digit_57 : decode prog_10_method_19_code 57 = .ok (.isub, 1) := by decide +kernel
theorem d_Mod_digit_58 : decode prog_10_method_19_code 58 = .ok (.bipush 10, 2) := by decide +kernel
theorem d_Mod_digit_60 : decode prog_10_method_19_code 60 = .ok (.iadd, 1) := by decide +kernel
theorem d_Mod_digit_61 : decode prog_10_method_19_code 61 = .ok (.goto 4, 3) := by decide +kernel
theorem d_Mod_digit_64 : decode prog_10_method_19_code 64 = .ok (.iconst (-1), 1) := by decide +kernel
theorem d_Mod_digit_65 : decode prog_10_method_19_code 65 = .ok (.ireturn, 1) := by decide +kernel
def f_Mod_digit_39 (x0 : Int32) (x1 : Int32)   : Option (Int32) :=
  (if x1 = 0 then
  some ((-1))
  else
  (f_Mod_in x0 65 70).bind fun u_2 =>
  (if u_2 = 0 then
  some ((-1))
  else
  some ((x0 - 65) + 10)))
def f_Mod_digit (x0 : Int32) (x1 : Int32) : Option (Int32) :=
  (f_Mod_in x0 48 57).bind fun u_1 =>
  (if u_1 = 0 then
  (if x1 = 0 then
  f_Mod_digit_39 x0 x1
  else
  (f_Mod_in x0 97 102).bind fun u_3 =>
  (if u_3 = 0 then
  f_Mod_digit_39 x0 x1
  else
  some ((x0 - 97) + 10)))
  else
  some (x0 - 48))
set_option maxHeartbeats 4000000 in
set_option maxRecDepth 100000 in
theorem c_Mod_digit (l : Launch) (dC : Nat → ClassId) (dI : Nat → Nat → Nat) (cI cC cB cJ : ClassId) (sz : Nat) (x0 : Int32) (x1 : Int32) (u : Int32) (hf : f_Mod_digit x0 x1 = some u) : Met l y_Mod_digit ws_Mod_digit rm_Mod_digit (zz_P zz_T (dC, dI) vwCl (zz_tys cI cC cB cJ) [.int x0, .int x1] [] sz) (zz_Qi (dC, dI) vwCl u [] (va_A [] sz)) 0 0 (va_A [] sz) := by
  refine Met.ofW (cc := prog_10_method_19_code) (maxL := 2) (ret := (some .int)) (by decide +kernel) rfl ?_
  intro p e s m args below meth c s₁ B hml hv
  obtain ⟨rfl, hsz, hP, hK, hD0, hX⟩ := hv
  have hx := B.exec
  have hb := B.bytes
  have hr := B.returns
  have hts := atoms_spec (ws := ws_Mod_digit) B.pre
  have hw : ∀ w ∈ zw, w.before [.int x0, .int x1].toArray s = true := fun w h => hts w (List.mem_cons_of_mem _ h)
  have hown : s.vm.findClass R_Mod = some m.cls := findClass_of_methodNamed B.named
  have hlocks := B.notSynchronized
  subst hsz
  have hD := hD0.self (sz := s.heap.size)
  generalize hAe : va_A [] s.heap.size = A at hD hX ⊢
  have hA : ∀ q : Nat, s.heap.size ≤ q → A q := fun q h => by rw [← hAe]; exact Or.inr h
  have hS : va_S A s.heap s.heap [] := va_S.rf
  have hl := lv_entry [.int x0, .int x1] (n := 2) (Nat.le_of_ble_eq_true rfl)
  rw [lg_entry_eq]
  generalize (lg_sl [.int x0, .int x1] ++ List.replicate (2 - (lg_sl [.int x0, .int x1]).length) Slot.unset).toArray = ls at hl ⊢
  have hl : lv_has ls 2 [(0, .int x0), (1, .int x1)] := hl
  refine zz_endi hx hb hr hlocks (fun Qq hend => ?_)
  have hL_39 : ∀  (ls : Array Slot) (H : Heap) (locs : List Loc), lv_has ls 2 [(0, .int x0), (1, .int x1)] → va_P (dC, dI) vwCl [] H → va_D A [] → va_S A s.heap H locs → f_Mod_digit_39 x0 x1 = some u → W p l e (headSpec ws_Mod_digit rm_Mod_digit).room s m [.int x0, .int x1].toArray below meth c H locs 0 0 Qq (F0 m 39 ls []) := by
    intro ls H locs hl hP hD hS hf
    unfold f_Mod_digit_39 at hf
    refine lv_iload_n hx hb d_Mod_digit_39 rfl (lv_at hl 1 rfl) ?_
    refine lv_if_eq (tgt := 64) hx hb d_Mod_digit_40 (by decide) (fun hc => ?_) (fun hc => ?_)
    · have hf := zz_ifp hc hf
      refine lv_iconst (v := (-1)) hx hb d_Mod_digit_64 (by decide) ?_
      cases hf
      exact hend 65 ls _ _ d_Mod_digit_65 hP hD hS
    · have hf := zz_ifn hc hf
      refine lv_iload_n hx hb d_Mod_digit_43 rfl (lv_at hl 0 rfl) ?_
      refine lv_bipush (v := 65) hx hb d_Mod_digit_44 (by decide) ?_
      refine lv_bipush (v := 70) hx hb d_Mod_digit_46 (by decide) ?_
      obtain ⟨u_2, hu_2, hf⟩ := zz_bd hf
      refine zz_ci (ws' := []) (wc := []) (w' := []) hP hD hS hA [] [] [] rfl rfl (by decide) (by decide) rfl (by decide) (va_runS (As := [.int x0, .int 65, .int 70]) (rest := []) ⟨hx, hb, hml, hown, hw⟩ (c_Mod_in l dC dI cI cC cB cJ _ x0 65 70 u_2 hu_2) (va_cwS 3 hw (zg_S wd_760 wd_761 wd_8 wd_762) rfl rfl rfl hd_Mod_in ⟨Nat.le_of_ble_eq_true rfl, Nat.le_of_ble_eq_true rfl⟩) (zz_preS zz_TE hP hD hK hS hA trivial [] rfl (by decide)) rfl rfl hl.1 rfl (lv_room (Nat.le_of_ble_eq_true rfl)) d_Mod_digit_48 ⟨Nat.zero_le _, Nat.zero_le _⟩) (fun H locs hP hD hS => ?_)
      refine lv_if_eq (tgt := 64) hx hb d_Mod_digit_51 (by decide) (fun hc => ?_) (fun hc => ?_)
      · have hf := zz_ifp hc hf
        refine lv_iconst (v := (-1)) hx hb d_Mod_digit_64 (by decide) ?_
        cases hf
        exact hend 65 ls _ _ d_Mod_digit_65 hP hD hS
      · have hf := zz_ifn hc hf
        refine lv_iload_n hx hb d_Mod_digit_54 rfl (lv_at hl 0 rfl) ?_
        refine lv_bipush (v := 65) hx hb d_Mod_digit_55 (by decide) ?_
        refine lv_isub hx hb d_Mod_digit_57 ?_
        refine lv_bipush (v := 10) hx hb d_Mod_digit_58 (by decide) ?_
        refine lv_iadd hx hb d_Mod_digit_60 ?_
        refine lv_goto (tgt := 65) hx hb d_Mod_digit_61 (by decide) ?_
        cases hf
        exact hend 65 ls _ _ d_Mod_digit_65 hP hD hS
  unfold f_Mod_digit at hf
  refine lv_iload_n hx hb d_Mod_digit_0 rfl (lv_at hl 0 rfl) ?_
  refine lv_bipush (v := 48) hx hb d_Mod_digit_1 (by decide) ?_
  refine lv_bipush (v := 57) hx hb d_Mod_digit_3 (by decide) ?_
  obtain ⟨u_1, hu_1, hf⟩ := zz_bd hf
  refine zz_ci (ws' := []) (wc := []) (w' := []) hP hD hS hA [] [] [] rfl rfl (by decide) (by decide) rfl (by decide) (va_runS (As := [.int x0, .int 48, .int 57]) (rest := []) ⟨hx, hb, hml, hown, hw⟩ (c_Mod_in l dC dI cI cC cB cJ _ x0 48 57 u_1 hu_1) (va_cwS 3 hw (zg_S wd_760 wd_761 wd_8 wd_762) rfl rfl rfl hd_Mod_in ⟨Nat.le_of_ble_eq_true rfl, Nat.le_of_ble_eq_true rfl⟩) (zz_preS zz_TE hP hD hK hS hA trivial [] rfl (by decide)) rfl rfl hl.1 rfl (lv_room (Nat.le_of_ble_eq_true rfl)) d_Mod_digit_5 ⟨Nat.zero_le _, Nat.zero_le _⟩) (fun H locs hP hD hS => ?_)
  refine lv_if_eq (tgt := 16) hx hb d_Mod_digit_8 (by decide) (fun hc => ?_) (fun hc => ?_)
  · have hf := zz_ifp hc hf
    refine lv_iload_n hx hb d_Mod_digit_16 rfl (lv_at hl 1 rfl) ?_
    refine lv_if_eq (tgt := 39) hx hb d_Mod_digit_17 (by decide) (fun hc => ?_) (fun hc => ?_)
    · have hf := zz_ifp hc hf
      exact hL_39  ls _ _ (lv_sub hl [0, 1] rfl) hP hD hS hf
    · have hf := zz_ifn hc hf
      refine lv_iload_n hx hb d_Mod_digit_20 rfl (lv_at hl 0 rfl) ?_
      refine lv_bipush (v := 97) hx hb d_Mod_digit_21 (by decide) ?_
      refine lv_bipush (v := 102) hx hb d_Mod_digit_23 (by decide) ?_
      obtain ⟨u_3, hu_3, hf⟩ := zz_bd hf
      refine zz_ci (ws' := []) (wc := []) (w' := []) hP hD hS hA [] [] [] rfl rfl (by decide) (by decide) rfl (by decide) (va_runS (As := [.int x0, .int 97, .int 102]) (rest := []) ⟨hx, hb, hml, hown, hw⟩ (c_Mod_in l dC dI cI cC cB cJ _ x0 97 102 u_3 hu_3) (va_cwS 3 hw (zg_S wd_760 wd_761 wd_8 wd_762) rfl rfl rfl hd_Mod_in ⟨Nat.le_of_ble_eq_true rfl, Nat.le_of_ble_eq_true rfl⟩) (zz_preS zz_TE hP hD hK hS hA trivial [] rfl (by decide)) rfl rfl hl.1 rfl (lv_room (Nat.le_of_ble_eq_true rfl)) d_Mod_digit_25 ⟨Nat.zero_le _, Nat.zero_le _⟩) (fun H locs hP hD hS => ?_)
      refine lv_if_eq (tgt := 39) hx hb d_Mod_digit_28 (by decide) (fun hc => ?_) (fun hc => ?_)
      · have hf := zz_ifp hc hf
        exact hL_39  ls _ _ (lv_sub hl [0, 1] rfl) hP hD hS hf
      · have hf := zz_ifn hc hf
        refine lv_iload_n hx hb d_Mod_digit_31 rfl (lv_at hl 0 rfl) ?_
        refine lv_bipush (v := 97) hx hb d_Mod_digit_32 (by decide) ?_
        refine lv_isub hx hb d_Mod_digit_34 ?_
        refine lv_bipush (v := 10) hx hb d_Mod_digit_35 (by decide) ?_
        refine lv_iadd hx hb d_Mod_digit_37 ?_
        cases hf
        exact hend 38 ls _ _ d_Mod_digit_38 hP hD hS
  · have hf := zz_ifn hc hf
    refine lv_iload_n hx hb d_Mod_digit_11 rfl (lv_at hl 0 rfl) ?_
    refine lv_bipush (v := 48) hx hb d_Mod_digit_12 (by decide) ?_
    refine lv_isub hx hb d_Mod_digit_14 ?_
    cases hf
    exact hend 15 ls _ _ d_Mod_digit_15 hP hD hS
abbrev ws_Mod_row : List Cond := .code y_Mod_row prog_10_method_20_code 4 (some .int) :: zw
abbrev rm_Mod_row : Room := { frames := 2, cells := 0, slots := 0, locals := 50 }
theorem hd_Mod_row : y_Mod_row.cls = "RealTextModel" ∧ y_Mod_row.cls ≠ "java/lang/invoke/MethodHandle" ∧ y_Mod_row.cls ≠ "java/lang/invoke/VarHandle" ∧ (parseMethodDescriptor y_Mod_row.desc).map (fun d => d.parameters.length) = some 1 := by decide +kernel
theorem d_Mod_row_0 : decode prog_10_method_20_code 0 = .ok (.iconst 0, 1) := by decide +kernel
theorem d_Mod_row_1 : decode prog_10_method_20_code 1 = .ok (.istore_n 2, 1) := by decide +kernel
theorem d_Mod_row_2 : decode prog_10_method_20_code 2 = .ok (.iconst 0, 1) := by decide +kernel
theorem d_Mod_row_3 : decode prog_10_method_20_code 3 = .ok (.istore_n 3, 1) := by decide +kernel
theorem d_Mod_row_4 : decode prog_10_method_20_code 4 = .ok (.aload_n 0, 1) := by decide +kernel
theorem d_Mod_row_5 : decode prog_10_method_20_code 5 = .ok (.invokevirtual 110, 3) := by decide +kernel
theorem d_Mod_row_8 : decode prog_10_method_20_code 8 = .ok (.iload_n 1, 1) := by decide +kernel
theorem d_Mod_row_9 : decode prog_10_method_20_code 9 = .ok (.invokestatic 114, 3) := by decide +kernel
theorem d_Mod_row_12 : decode prog_10_method_20_code 12 = .ok (.ifCond .ge 16, 3) := by decide +kernel
theorem d_Mod_row_15 : decode prog_10_method_20_code 15 = .ok (.iload_n 2, 1) := by decide +kernel
theorem d_Mod_row_16 : decode prog_10_method_20_code 16 = .ok (.ifCond .le 108, 3) := by decide +kernel
theorem d_Mod_row_19 : decode prog_10_method_20_code 19 = .ok (.aload_n 0, 1) := by decide +kernel
theorem d_Mod_row_20 : decode prog_10_method_20_code 20 = .ok (.invokevirtual 110, 3) := by decide +kernel
theorem d_Mod_row_23 : decode prog_10_method_20_code 23 = .ok (.bipush 95, 2) := by decide +kernel
theorem d_Mod_row_25 : decode prog_10_method_20_code 25 = .ok (.if_icmp .ne 99, 3) := by decide +kernel
theorem d_Mod_row_28 : decode prog_10_method_20_code 28 = .ok (.aload_n 0, 1) := by decide +kernel
theorem d_Mod_row_29 : decode prog_10_method_20_code 29 = .ok (.invokevirtual 110, 3) := by decide +kernel
theorem d_Mod_row_32 : decode prog_10_method_20_code 32 = .ok (.bipush 95, 2) := by decide +kernel
theorem d_Mod_row_34 : decode prog_10_method_20_code 34 = .ok (.if_icmp .eq 7, 3) := by decide +kernel
theorem d_Mod_row_37 : decode prog_10_method_20_code 37 = .ok (.iconst 1, 1) := by decide +kernel
theorem d_Mod_row_38 : decode prog_10_method_20_code 38 = .ok (.goto 4, 3) := by decide +kernel
theorem d_Mod_row_41 : decode prog_10_method_20_code 41 = .ok (.iconst 0, 1) := by decide +kernel
theorem d_Mod_row_42 : decode prog_10_method_20_code 42 = .ok (.istore_n 3, 1) := by decide +kernel
theorem d_Mod_row_43 : decode prog_10_method_20_code 43 = .ok (.iload_n 3, 1) := by decide +kernel
theorem d_Mod_row_44 : decode prog_10_method_20_code 44 = .ok (.ifCond .eq 67, 3) := by decide +kernel
theorem d_Mod_row_47 : decode prog_10_method_20_code 47 = .ok (.aload_n 0, 1) := by decide +kernel
theorem d_Mod_row_48 : decode prog_10_method_20_code 48 = .ok (.getfield 62, 3) := by decide +kernel
theorem d_Mod_row_51 : decode prog_10_method_20_code 51 = .ok (.sipush 510, 3) := by decide +kernel
theorem d_Mod_row_54 : decode prog_10_method_20_code 54 = .ok (.if_icmp .ge 37, 3) := by decide +kernel
theorem d_Mod_row_57 : decode prog_10_method_20_code 57 = .ok (.aload_n 0, 1) := by decide +kernel
theorem d_Mod_row_58 : decode prog_10_method_20_code 58 = .ok (.aload_n 0, 1) := by decide +kernel
theorem d_Mod_row_59 : decode prog_10_method_20_code 59 = .ok (.getfield 16, 3) := by decide +kernel
theorem d_Mod_row_62 : decode prog_10_method_20_code 62 = .ok (.aload_n 0, 1) := by decide +kernel
theorem d_Mod_row_63 : decode prog_10_method_20_code 63 = .ok (.getfield 62, 3) := by decide +kernel
theorem d_Mod_row_66 : decode prog_10_method_20_code 66 = .ok (.iload_n 1, 1) := by decide +kernel
theorem d_Mod_row_67 : decode prog_10_method_20_code 67 = .ok (.ifCond .eq 8, 3) := by decide +kernel
theorem d_Mod_row_70 : decode prog_10_method_20_code 70 = .ok (.bipush 16, 2) := by decide +kernel
theorem d_Mod_row_72 : decode prog_10_method_20_code 72 = .ok (.goto 5, 3) := by decide +kernel
theorem d_Mod_row_75 : decode prog_10_method_20_code 75 = .ok (.bipush 10, 2) := by decide +kernel
theorem d_Mod_row_77 : decode prog_10_method_20_code 77 = .ok (.aload_n 0, 1) := by decide +kernel
theorem d_Mod_row_78 : decode prog_10_method_20_code 78 = .ok (.invokevirtual 110, 3) := by decide +kernel
theorem d_Mod_row_81 : decode prog_10_method_20_code 81 = .ok (.iload_n 1, 1) := by decide +kernel
theorem d_Mod_row_82 : decode prog_10_method_20_code 82 = .ok (.invokestatic 114, 3) := by decide +kernel
theorem d_Mod_row_85 : decode prog_10_method_20_code 85 = .ok (.invokestatic 55, 3) := by decide +kernel
theorem d_Mod_row_88 : decode prog_10_method_20_code 88 = .ok (.putfield 62, 3) := by decide +kernel
theorem d_Mod_row_91 : decode prog_10_method_20_code 91 = .ok (.iinc 2 1, 3) := by decide +kernel
theorem d_Mod_row_94 : decode prog_10_method_20_code 94 = .ok (.aload_n 0, 1) := by decide +kernel
theorem d_Mod_row_95 : decode prog_10_method_20_code 95 = .ok (.getfield 62, 3) := by decide +kernel
theorem d_Mod_row_98 : decode prog_10_method_20_code 98 = .ok (.ifCond .le 13, 3) := by decide +kernel
theorem d_Mod_row_101 : decode prog_10_method_20_code 101 = .ok (.aload_n 0, 1) := by decide +kernel
theorem d_Mod_row_102 : decode prog_10_method_20_code 102 = .ok (.dup, 1) := by decide +kernel
theorem d_Mod_row_103 : decode prog_10_method_20_code 103 = .ok (.getfield 118, 3) := by decide +kernel
theorem d_Mod_row_106 : decode prog_10_method_20_code 106 = .ok (.iconst 1, 1) := by decide +kernel
theorem d_Mod_row_107 : decode prog_10_method_20_code 107 = .ok (.iadd, 1) := by decide +kernel
theorem d_Mod_row_108 : decode prog_10_method_20_code 108 = .ok (.putfield 118, 3) := by decide +kernel
theorem d_Mod_row_111 : decode prog_10_method_20_code 111 = .ok (.aload_n 0, 1) := by decide +kernel
theorem d_Mod_row_112 : decode prog_10_method_20_code 112 = .ok (.dup, 1) := by decide +kernel
theorem d_Mod_row_113 : decode prog_10_method_20_code 113 = .ok (.getfield 107, 3) := by decide +kernel
theorem d_Mod_row_116 : decode prog_10_method_20_code 116 = .ok (.iconst 1, 1) := by decide +kernel
theorem d_Mod_row_117 : decode prog_10_method_20_code 117 = .ok (.iadd, 1) := by decide +kernel
theorem d_Mod_row_118 : decode prog_10_method_20_code 118 = .ok (.putfield 107, 3) := by decide +kernel
theorem d_Mod_row_121 : decode prog_10_method_20_code 121 = .ok (.goto (-117), 3) := by decide +kernel
theorem d_Mod_row_124 : decode prog_10_method_20_code 124 = .ok (.iload_n 2, 1) := by decide +kernel
theorem d_Mod_row_125 : decode prog_10_method_20_code 125 = .ok (.ifCond .le 12, 3) := by decide +kernel
theorem d_Mod_row_128 : decode prog_10_method_20_code 128 = .ok (.iload_n 3, 1) := by decide +kernel
theorem d_Mod_row_129 : decode prog_10_method_20_code 129 = .ok (.ifCond .ne 8, 3) := by decide +kernel
theorem d_Mod_row_132 : decode prog_10_method_20_code 132 = .ok (.aload_n 0, 1) := by decide +kernel
theorem d_Mod_row_133 : decode prog_10_method_20_code 133 = .ok (.iconst 0, 1) := by decide +kernel
theorem d_Mod_row_134 : decode prog_10_method_20_code 134 = .ok (.putfield 121, 3) := by decide +kernel
theorem d_Mod_row_137 : decode prog_10_method_20_code 137 = .ok (.iload_n 2, 1) := by decide +kernel
theorem d_Mod_row_138 : decode prog_10_method_20_code 138 = .ok (.ireturn, 1) := by decide +kernel
def f_Mod_row_111 (fu : Nat) (n_v_text : Nat) (n_v_a : Nat) (x1 : Int32) (v_length : Int32) (v_text_a : Nat → Int32) (self4 : Int32 → Int32 → Int32 → Int32 → Int32 → Int32 → (Nat → Int32) → Option (Int32 × Int32 × Int32 × Int32 × Int32 × (Nat → Int32))) (y2 : Int32) (y3 : Int32) (v_aMany : Int32) (v_at : Int32) (v_digits : Int32) (v_good : Int32) (v_a_a : Nat → Int32) : Option (Int32 × Int32 × Int32 × Int32 × Int32 × (Nat → Int32)) :=
  self4 y2 y3 v_aMany (v_at + 1) v_digits v_good v_a_a
def f_Mod_row_91 (fu : Nat) (n_v_text : Nat) (n_v_a : Nat) (x1 : Int32) (v_length : Int32) (v_text_a : Nat → Int32) (self4 : Int32 → Int32 → Int32 → Int32 → Int32 → Int32 → (Nat → Int32) → Option (Int32 × Int32 × Int32 × Int32 × Int32 × (Nat → Int32))) (y2 : Int32) (y3 : Int32) (v_aMany : Int32) (v_at : Int32) (v_digits : Int32) (v_good : Int32) (v_a_a : Nat → Int32) : Option (Int32 × Int32 × Int32 × Int32 × Int32 × (Nat → Int32)) :=
  (if v_aMany ≤ 0 then
  f_Mod_row_111 fu n_v_text n_v_a x1 v_length v_text_a self4 (y2 + 1) y3 v_aMany v_at v_digits v_good v_a_a
  else
  f_Mod_row_111 fu n_v_text n_v_a x1 v_length v_text_a self4 (y2 + 1) y3 v_aMany v_at (v_digits + 1) v_good v_a_a)
def f_Mod_row_77 (fu : Nat) (n_v_text : Nat) (n_v_a : Nat) (x1 : Int32) (v_length : Int32) (v_text_a : Nat → Int32) (self4 : Int32 → Int32 → Int32 → Int32 → Int32 → Int32 → (Nat → Int32) → Option (Int32 × Int32 × Int32 × Int32 × Int32 × (Nat → Int32))) (y2 : Int32) (y3 : Int32) (k2 : Int32) (k3 : Int32) (v_aMany : Int32) (v_at : Int32) (v_digits : Int32) (v_good : Int32) (v_a_a : Nat → Int32) : Option (Int32 × Int32 × Int32 × Int32 × Int32 × (Nat → Int32)) :=
  (f_Mod_look n_v_text v_length v_at v_text_a).bind fun u_4 =>
  (f_Mod_digit u_4 x1).bind fun u_5 =>
  (f_Mod_grow fu n_v_a k2 k3 u_5 v_a_a).bind fun u_6 =>
  f_Mod_row_91 fu n_v_text n_v_a x1 v_length v_text_a self4 y2 y3 u_6.1 v_at v_digits v_good u_6.2
def f_Mod_row_42 (fu : Nat) (n_v_text : Nat) (n_v_a : Nat) (x1 : Int32) (v_length : Int32) (v_text_a : Nat → Int32) (self4 : Int32 → Int32 → Int32 → Int32 → Int32 → Int32 → (Nat → Int32) → Option (Int32 × Int32 × Int32 × Int32 × Int32 × (Nat → Int32))) (y2 : Int32) (k0 : Int32) (v_aMany : Int32) (v_at : Int32) (v_digits : Int32) (v_good : Int32) (v_a_a : Nat → Int32) : Option (Int32 × Int32 × Int32 × Int32 × Int32 × (Nat → Int32)) :=
  (if k0 = 0 then
  f_Mod_row_111 fu n_v_text n_v_a x1 v_length v_text_a self4 y2 k0 v_aMany v_at v_digits v_good v_a_a
  else
  (if 510 ≤ v_aMany then
  f_Mod_row_91 fu n_v_text n_v_a x1 v_length v_text_a self4 y2 k0 v_aMany v_at v_digits v_good v_a_a
  else
  (if x1 = 0 then
  f_Mod_row_77 fu n_v_text n_v_a x1 v_length v_text_a self4 y2 k0 v_aMany 10 v_aMany v_at v_digits v_good v_a_a
  else
  f_Mod_row_77 fu n_v_text n_v_a x1 v_length v_text_a self4 y2 k0 v_aMany 16 v_aMany v_at v_digits v_good v_a_a)))
def f_Mod_row_28 (fu : Nat) (n_v_text : Nat) (n_v_a : Nat) (x1 : Int32) (v_length : Int32) (v_text_a : Nat → Int32) (self4 : Int32 → Int32 → Int32 → Int32 → Int32 → Int32 → (Nat → Int32) → Option (Int32 × Int32 × Int32 × Int32 × Int32 × (Nat → Int32))) (y2 : Int32) (v_aMany : Int32) (v_at : Int32) (v_digits : Int32) (v_good : Int32) (v_a_a : Nat → Int32) : Option (Int32 × Int32 × Int32 × Int32 × Int32 × (Nat → Int32)) :=
  (f_Mod_look n_v_text v_length v_at v_text_a).bind fun u_3 =>
  (if u_3 = 95 then
  f_Mod_row_42 fu n_v_text n_v_a x1 v_length v_text_a self4 y2 0 v_aMany v_at v_digits v_good v_a_a
  else
  f_Mod_row_42 fu n_v_text n_v_a x1 v_length v_text_a self4 y2 1 v_aMany v_at v_digits v_good v_a_a)
def f_Mod_row_124 (fu : Nat) (n_v_text : Nat) (n_v_a : Nat) (x1 : Int32) (v_length : Int32) (v_text_a : Nat → Int32)  (y2 : Int32) (y3 : Int32) (v_aMany : Int32) (v_at : Int32) (v_digits : Int32) (v_good : Int32) (v_a_a : Nat → Int32) : Option (Int32 × Int32 × Int32 × Int32 × Int32 × (Nat → Int32)) :=
  (if y2 ≤ 0 then
  some (y2, v_aMany, v_at, v_digits, v_good, v_a_a)
  else
  (if y3 = 0 then
  some (y2, v_aMany, v_at, v_digits, 0, v_a_a)
  else
  some (y2, v_aMany, v_at, v_digits, v_good, v_a_a)))
def f_Mod_row_4 (fu : Nat) (n_v_text : Nat) (n_v_a : Nat) (x1 : Int32) (v_length : Int32) (v_text_a : Nat → Int32)  : Nat → Int32 → Int32 → Int32 → Int32 → Int32 → Int32 → (Nat → Int32) → Option (Int32 × Int32 × Int32 × Int32 × Int32 × (Nat → Int32))
  | 0, _, _, _, _, _, _, _ => none
  | n + 1, y2, y3, v_aMany, v_at, v_digits, v_good, v_a_a =>
  (f_Mod_look n_v_text v_length v_at v_text_a).bind fun u_1 =>
  (f_Mod_digit u_1 x1).bind fun u_2 =>
  (if 0 ≤ u_2 then
  f_Mod_row_28 fu n_v_text n_v_a x1 v_length v_text_a (f_Mod_row_4 fu n_v_text n_v_a x1 v_length v_text_a n) y2 v_aMany v_at v_digits v_good v_a_a
  else
  (if y2 ≤ 0 then
  f_Mod_row_124 fu n_v_text n_v_a x1 v_length v_text_a y2 y3 v_aMany v_at v_digits v_good v_a_a
  else
  (f_Mod_look n_v_text v_length v_at v_text_a).bind fun u_7 =>
  (if u_7 = 95 then
  f_Mod_row_28 fu n_v_text n_v_a x1 v_length v_text_a (f_Mod_row_4 fu n_v_text n_v_a x1 v_length v_text_a n) y2 v_aMany v_at v_digits v_good v_a_a
  else
  f_Mod_row_124 fu n_v_text n_v_a x1 v_length v_text_a y2 y3 v_aMany v_at v_digits v_good v_a_a)))
theorem f_Mod_row_4_s (fu : Nat) (n_v_text : Nat) (n_v_a : Nat) (x1 : Int32) (v_length : Int32) (v_text_a : Nat → Int32)  (n : Nat) (y2 : Int32) (y3 : Int32) (v_aMany : Int32) (v_at : Int32) (v_digits : Int32) (v_good : Int32) (v_a_a : Nat → Int32) : f_Mod_row_4 fu n_v_text n_v_a x1 v_length v_text_a (n + 1) y2 y3 v_aMany v_at v_digits v_good v_a_a =
  (f_Mod_look n_v_text v_length v_at v_text_a).bind fun u_1 =>
  (f_Mod_digit u_1 x1).bind fun u_2 =>
  (if 0 ≤ u_2 then
  f_Mod_row_28 fu n_v_text n_v_a x1 v_length v_text_a (f_Mod_row_4 fu n_v_text n_v_a x1 v_length v_text_a n) y2 v_aMany v_at v_digits v_good v_a_a
  else
  (if y2 ≤ 0 then
  f_Mod_row_124 fu n_v_text n_v_a x1 v_length v_text_a y2 y3 v_aMany v_at v_digits v_good v_a_a
  else
  (f_Mod_look n_v_text v_length v_at v_text_a).bind fun u_7 =>
  (if u_7 = 95 then
  f_Mod_row_28 fu n_v_text n_v_a x1 v_length v_text_a (f_Mod_row_4 fu n_v_text n_v_a x1 v_length v_text_a n) y2 v_aMany v_at v_digits v_good v_a_a
  else
  f_Mod_row_124 fu n_v_text n_v_a x1 v_length v_text_a y2 y3 v_aMany v_at v_digits v_good v_a_a))) := rfl
def f_Mod_row (fu : Nat) (n_v_text : Nat) (n_v_a : Nat) (x1 : Int32) (v_length : Int32) (v_aMany : Int32) (v_at : Int32) (v_digits : Int32) (v_good : Int32) (v_text_a : Nat → Int32) (v_a_a : Nat → Int32) : Option (Int32 × Int32 × Int32 × Int32 × Int32 × (Nat → Int32)) :=
  f_Mod_row_4 fu n_v_text n_v_a x1 v_length v_text_a fu 0 0 v_aMany v_at v_digits v_good v_a_a
set_option maxHeartbeats 4000000 in
set_option maxRecDepth 100000 in
theorem c_Mod_row (l : Launch) (dC : Nat → ClassId) (dI : Nat → Nat → Nat) (cI cC cB cJ : ClassId) (fu : Nat) (sz : Nat) (h_v : Nat) (h_v_text : Nat) (h_v_a : Nat) (h_v_written : Nat) (h_v_b : Nat) (h_v_five : Nat) (h_v_left : Nat) (h_v_right : Nat) (h_v_part : Nat) (n_v_text : Nat) (n_v_a : Nat) (x1 : Int32) (v_length : Int32) (v_laid : Int32) (v_gone : Int32) (v_thrown : Int32) (v_were : Int32) (v_none : Int32) (v_beyond : Int32) (v_aMany : Int32) (v_bMany : Int32) (v_fiveMany : Int32) (v_leftMany : Int32) (v_rightMany : Int32) (v_partMany : Int32) (v_twos : Int32) (v_at : Int32) (v_digits : Int32) (v_power : Int32) (v_good : Int32) (v_text_a : Nat → Int32) (v_a_a : Nat → Int32) (u : Int32 × Int32 × Int32 × Int32 × Int32 × (Nat → Int32)) (hf : f_Mod_row fu n_v_text n_v_a x1 v_length v_aMany v_at v_digits v_good v_text_a v_a_a = some u) : Met l y_Mod_row ws_Mod_row rm_Mod_row (zz_P zz_T (dC, dI) vwCl (zz_tys cI cC cB cJ) [.ref h_v, .int x1] [(h_v, .inr (7, [.ref h_v_text, .ref h_v_written, .int v_length, .int v_laid, .int v_gone, .int v_thrown, .int v_were, .int v_none, .int v_beyond, .ref h_v_a, .ref h_v_b, .ref h_v_five, .ref h_v_left, .ref h_v_right, .ref h_v_part, .int v_aMany, .int v_bMany, .int v_fiveMany, .int v_leftMany, .int v_rightMany, .int v_partMany, .int v_twos, .int v_at, .int v_digits, .int v_power, .int v_good])), (h_v_text, .inl (cI, n_v_text, .inl v_text_a)), (h_v_a, .inl (cI, n_v_a, .inl v_a_a))] sz) (zz_Qi (dC, dI) vwCl u.1 [(h_v, .inr (7, [.ref h_v_text, .ref h_v_written, .int v_length, .int v_laid, .int v_gone, .int v_thrown, .int v_were, .int v_none, .int v_beyond, .ref h_v_a, .ref h_v_b, .ref h_v_five, .ref h_v_left, .ref h_v_right, .ref h_v_part, .int u.2.1, .int v_bMany, .int v_fiveMany, .int v_leftMany, .int v_rightMany, .int v_partMany, .int v_twos, .int u.2.2.1, .int u.2.2.2.1, .int v_power, .int u.2.2.2.2.1])), (h_v_text, .inl (cI, n_v_text, .inl v_text_a)), (h_v_a, .inl (cI, n_v_a, .inl u.2.2.2.2.2))] (va_A [(h_v, .inr (7, [.ref h_v_text, .ref h_v_written, .int v_length, .int v_laid, .int v_gone, .int v_thrown, .int v_were, .int v_none, .int v_beyond, .ref h_v_a, .ref h_v_b, .ref h_v_five, .ref h_v_left, .ref h_v_right, .ref h_v_part, .int v_aMany, .int v_bMany, .int v_fiveMany, .int v_leftMany, .int v_rightMany, .int v_partMany, .int v_twos, .int v_at, .int v_digits, .int v_power, .int v_good])), (h_v_text, .inl (cI, n_v_text, .inl v_text_a)), (h_v_a, .inl (cI, n_v_a, .inl v_a_a))] sz)) 0 0 (va_A [(h_v, .inr (7, [.ref h_v_text, .ref h_v_written, .int v_length, .int v_laid, .int v_gone, .int v_thrown, .int v_were, .int v_none, .int v_beyond, .ref h_v_a, .ref h_v_b, .ref h_v_five, .ref h_v_left, .ref h_v_right, .ref h_v_part, .int v_aMany, .int v_bMany, .int v_fiveMany, .int v_leftMany, .int v_rightMany, .int v_partMany, .int v_twos, .int v_at, .int v_digits, .int v_power, .int v_good])), (h_v_text, .inl (cI, n_v_text, .inl v_text_a)), (h_v_a, .inl (cI, n_v_a, .inl v_a_a))] sz) := by
  refine Met.ofW (cc := prog_10_method_20_code) (maxL := 4) (ret := (some .int)) (by decide +kernel) rfl ?_
  intro p e s m args below meth c s₁ B hml hv
  obtain ⟨rfl, hsz, hP, hK, hD0, hX⟩ := hv
  have hx := B.exec
  have hb := B.bytes
  have hr := B.returns
  have hts := atoms_spec (ws := ws_Mod_row) B.pre
  have hw : ∀ w ∈ zw, w.before [.ref h_v, .int x1].toArray s = true := fun w h => hts w (List.mem_cons_of_mem _ h)
  have hown : s.vm.findClass R_Mod = some m.cls := findClass_of_methodNamed B.named
  have hlocks := B.notSynchronized
  subst hsz
  have hD := hD0.self (sz := s.heap.size)
  generalize hAe : va_A [(h_v, .inr (7, [.ref h_v_text, .ref h_v_written, .int v_length, .int v_laid, .int v_gone, .int v_thrown, .int v_were, .int v_none, .int v_beyond, .ref h_v_a, .ref h_v_b, .ref h_v_five, .ref h_v_left, .ref h_v_right, .ref h_v_part, .int v_aMany, .int v_bMany, .int v_fiveMany, .int v_leftMany, .int v_rightMany, .int v_partMany, .int v_twos, .int v_at, .int v_digits, .int v_power, .int v_good])), (h_v_text, .inl (cI, n_v_text, .inl v_text_a)), (h_v_a, .inl (cI, n_v_a, .inl v_a_a))] s.heap.size = A at hD hX ⊢
  have hA : ∀ q : Nat, s.heap.size ≤ q → A q := fun q h => by rw [← hAe]; exact Or.inr h
  have hS : va_S A s.heap s.heap [] := va_S.rf
  have hl := lv_entry [.ref h_v, .int x1] (n := 4) (Nat.le_of_ble_eq_true rfl)
  rw [lg_entry_eq]
  generalize (lg_sl [.ref h_v, .int x1] ++ List.replicate (4 - (lg_sl [.ref h_v, .int x1]).length) Slot.unset).toArray = ls at hl ⊢
  have hl : lv_has ls 4 [(0, .ref h_v), (1, .int x1)] := hl
  refine zz_endi hx hb hr hlocks (fun Qq hend => ?_)
  have hL_111 : ∀ (self4 : Int32 → Int32 → Int32 → Int32 → Int32 → Int32 → (Nat → Int32) → Option (Int32 × Int32 × Int32 × Int32 × Int32 × (Nat → Int32))), (∀ (y2 : Int32) (y3 : Int32) (v_aMany : Int32) (v_at : Int32) (v_digits : Int32) (v_good : Int32) (v_a_a : Nat → Int32) (ls : Array Slot) (H : Heap) (locs : List Loc), lv_has ls 4 [(0, .ref h_v), (1, .int x1), (2, .int y2), (3, .int y3)] → va_P (dC, dI) vwCl [(h_v, .inr (7, [.ref h_v_text, .ref h_v_written, .int v_length, .int v_laid, .int v_gone, .int v_thrown, .int v_were, .int v_none, .int v_beyond, .ref h_v_a, .ref h_v_b, .ref h_v_five, .ref h_v_left, .ref h_v_right, .ref h_v_part, .int v_aMany, .int v_bMany, .int v_fiveMany, .int v_leftMany, .int v_rightMany, .int v_partMany, .int v_twos, .int v_at, .int v_digits, .int v_power, .int v_good])), (h_v_text, .inl (cI, n_v_text, .inl v_text_a)), (h_v_a, .inl (cI, n_v_a, .inl v_a_a))] H → va_D A [(h_v, .inr (7, [.ref h_v_text, .ref h_v_written, .int v_length, .int v_laid, .int v_gone, .int v_thrown, .int v_were, .int v_none, .int v_beyond, .ref h_v_a, .ref h_v_b, .ref h_v_five, .ref h_v_left, .ref h_v_right, .ref h_v_part, .int v_aMany, .int v_bMany, .int v_fiveMany, .int v_leftMany, .int v_rightMany, .int v_partMany, .int v_twos, .int v_at, .int v_digits, .int v_power, .int v_good])), (h_v_text, .inl (cI, n_v_text, .inl v_text_a)), (h_v_a, .inl (cI, n_v_a, .inl v_a_a))] → va_S A s.heap H locs → self4 y2 y3 v_aMany v_at v_digits v_good v_a_a = some u → W p l e (headSpec ws_Mod_row rm_Mod_row).room s m [.ref h_v, .int x1].toArray below meth c H locs 0 0 Qq (F0 m 4 ls [])) → ∀ (y2 : Int32) (y3 : Int32) (v_aMany : Int32) (v_at : Int32) (v_digits : Int32) (v_good : Int32) (v_a_a : Nat → Int32) (ls : Array Slot) (H : Heap) (locs : List Loc), lv_has ls 4 [(0, .ref h_v), (1, .int x1), (2, .int y2), (3, .int y3)] → va_P (dC, dI) vwCl [(h_v, .inr (7, [.ref h_v_text, .ref h_v_written, .int v_length, .int v_laid, .int v_gone, .int v_thrown, .int v_were, .int v_none, .int v_beyond, .ref h_v_a, .ref h_v_b, .ref h_v_five, .ref h_v_left, .ref h_v_right, .ref h_v_part, .int v_aMany, .int v_bMany, .int v_fiveMany, .int v_leftMany, .int v_rightMany, .int v_partMany, .int v_twos, .int v_at, .int v_digits, .int v_power, .int v_good])), (h_v_text, .inl (cI, n_v_text, .inl v_text_a)), (h_v_a, .inl (cI, n_v_a, .inl v_a_a))] H → va_D A [(h_v, .inr (7, [.ref h_v_text, .ref h_v_written, .int v_length, .int v_laid, .int v_gone, .int v_thrown, .int v_were, .int v_none, .int v_beyond, .ref h_v_a, .ref h_v_b, .ref h_v_five, .ref h_v_left, .ref h_v_right, .ref h_v_part, .int v_aMany, .int v_bMany, .int v_fiveMany, .int v_leftMany, .int v_rightMany, .int v_partMany, .int v_twos, .int v_at, .int v_digits, .int v_power, .int v_good])), (h_v_text, .inl (cI, n_v_text, .inl v_text_a)), (h_v_a, .inl (cI, n_v_a, .inl v_a_a))] → va_S A s.heap H locs → f_Mod_row_111 fu n_v_text n_v_a x1 v_length v_text_a self4 y2 y3 v_aMany v_at v_digits v_good v_a_a = some u → W p l e (headSpec ws_Mod_row rm_Mod_row).room s m [.ref h_v, .int x1].toArray below meth c H locs 0 0 Qq (F0 m 111 ls []) := by
    intro self4 hs4
    intro y2 y3 v_aMany v_at v_digits v_good v_a_a ls H locs hl hP hD hS hf
    unfold f_Mod_row_111 at hf
    refine lv_aload_n hx hb d_Mod_row_111 rfl (lv_at hl 0 rfl) ?_
    refine lv_dup hx hb d_Mod_row_112 rfl ?_
    refine va_get (D := (dC, dI)) (ci := 7) (v := .int v_at) (C := R_Mod) (T := T_Mod) (N := 26) hx hb hw in_Mod hown hK hP 0 rfl rfl 22 (by decide) (hw _ wd_695) (fun _ h9 => h9) rfl d_Mod_row_113 ?_
    refine lv_iconst (v := 1) hx hb d_Mod_row_116 (by decide) ?_
    refine lv_iadd hx hb d_Mod_row_117 ?_
    refine va_put (D := (dC, dI)) (ci := 7) (v := .int (v_at + 1)) (ty := .int) (C := R_Mod) (T := T_Mod) (N := 26) hx hb hw in_Mod ty_Mod tyok_Mod nm_Mod hown hK hP hD hS 0 rfl rfl 22 (by decide) (hw _ wd_695) (fun _ h9 => h9) rfl (tyok_Mod 22 (by decide)) rfl rfl (Nat.le_of_ble_eq_true rfl) d_Mod_row_118 (fun H locs hP hD hS => ?_)
    have hP : va_P (dC, dI) vwCl [(h_v, .inr (7, [.ref h_v_text, .ref h_v_written, .int v_length, .int v_laid, .int v_gone, .int v_thrown, .int v_were, .int v_none, .int v_beyond, .ref h_v_a, .ref h_v_b, .ref h_v_five, .ref h_v_left, .ref h_v_right, .ref h_v_part, .int v_aMany, .int v_bMany, .int v_fiveMany, .int v_leftMany, .int v_rightMany, .int v_partMany, .int v_twos, .int (v_at + 1), .int v_digits, .int v_power, .int v_good])), (h_v_text, .inl (cI, n_v_text, .inl v_text_a)), (h_v_a, .inl (cI, n_v_a, .inl v_a_a))] H := hP
    have hD : va_D A [(h_v, .inr (7, [.ref h_v_text, .ref h_v_written, .int v_length, .int v_laid, .int v_gone, .int v_thrown, .int v_were, .int v_none, .int v_beyond, .ref h_v_a, .ref h_v_b, .ref h_v_five, .ref h_v_left, .ref h_v_right, .ref h_v_part, .int v_aMany, .int v_bMany, .int v_fiveMany, .int v_leftMany, .int v_rightMany, .int v_partMany, .int v_twos, .int (v_at + 1), .int v_digits, .int v_power, .int v_good])), (h_v_text, .inl (cI, n_v_text, .inl v_text_a)), (h_v_a, .inl (cI, n_v_a, .inl v_a_a))] := hD
    refine lv_goto (tgt := 4) hx hb d_Mod_row_121 (by decide) ?_
    exact hs4 y2 y3 v_aMany (v_at + 1) v_digits v_good v_a_a ls _ _ (lv_sub hl [0, 1, 2, 3] rfl) hP hD hS hf
  have hL_91 : ∀ (self4 : Int32 → Int32 → Int32 → Int32 → Int32 → Int32 → (Nat → Int32) → Option (Int32 × Int32 × Int32 × Int32 × Int32 × (Nat → Int32))), (∀ (y2 : Int32) (y3 : Int32) (v_aMany : Int32) (v_at : Int32) (v_digits : Int32) (v_good : Int32) (v_a_a : Nat → Int32) (ls : Array Slot) (H : Heap) (locs : List Loc), lv_has ls 4 [(0, .ref h_v), (1, .int x1), (2, .int y2), (3, .int y3)] → va_P (dC, dI) vwCl [(h_v, .inr (7, [.ref h_v_text, .ref h_v_written, .int v_length, .int v_laid, .int v_gone, .int v_thrown, .int v_were, .int v_none, .int v_beyond, .ref h_v_a, .ref h_v_b, .ref h_v_five, .ref h_v_left, .ref h_v_right, .ref h_v_part, .int v_aMany, .int v_bMany, .int v_fiveMany, .int v_leftMany, .int v_rightMany, .int v_partMany, .int v_twos, .int v_at, .int v_digits, .int v_power, .int v_good])), (h_v_text, .inl (cI, n_v_text, .inl v_text_a)), (h_v_a, .inl (cI, n_v_a, .inl v_a_a))] H → va_D A [(h_v, .inr (7, [.ref h_v_text, .ref h_v_written, .int v_length, .int v_laid, .int v_gone, .int v_thrown, .int v_were, .int v_none, .int v_beyond, .ref h_v_a, .ref h_v_b, .ref h_v_five, .ref h_v_left, .ref h_v_right, .ref h_v_part, .int v_aMany, .int v_bMany, .int v_fiveMany, .int v_leftMany, .int v_rightMany, .int v_partMany, .int v_twos, .int v_at, .int v_digits, .int v_power, .int v_good])), (h_v_text, .inl (cI, n_v_text, .inl v_text_a)), (h_v_a, .inl (cI, n_v_a, .inl v_a_a))] → va_S A s.heap H locs → self4 y2 y3 v_aMany v_at v_digits v_good v_a_a = some u → W p l e (headSpec ws_Mod_row rm_Mod_row).room s m [.ref h_v, .int x1].toArray below meth c H locs 0 0 Qq (F0 m 4 ls [])) → ∀ (y2 : Int32) (y3 : Int32) (v_aMany : Int32) (v_at : Int32) (v_digits : Int32) (v_good : Int32) (v_a_a : Nat → Int32) (ls : Array Slot) (H : Heap) (locs : List Loc), lv_has ls 4 [(0, .ref h_v), (1, .int x1), (2, .int y2), (3, .int y3)] → va_P (dC, dI) vwCl [(h_v, .inr (7, [.ref h_v_text, .ref h_v_written, .int v_length, .int v_laid, .int v_gone, .int v_thrown, .int v_were, .int v_none, .int v_beyond, .ref h_v_a, .ref h_v_b, .ref h_v_five, .ref h_v_left, .ref h_v_right, .ref h_v_part, .int v_aMany, .int v_bMany, .int v_fiveMany, .int v_leftMany, .int v_rightMany, .int v_partMany, .int v_twos, .int v_at, .int v_digits, .int v_power, .int v_good])), (h_v_text, .inl (cI, n_v_text, .inl v_text_a)), (h_v_a, .inl (cI, n_v_a, .inl v_a_a))] H → va_D A [(h_v, .inr (7, [.ref h_v_text, .ref h_v_written, .int v_length, .int v_laid, .int v_gone, .int v_thrown, .int v_were, .int v_none, .int v_beyond, .ref h_v_a, .ref h_v_b, .ref h_v_five, .ref h_v_left, .ref h_v_right, .ref h_v_part, .int v_aMany, .int v_bMany, .int v_fiveMany, .int v_leftMany, .int v_rightMany, .int v_partMany, .int v_twos, .int v_at, .int v_digits, .int v_power, .int v_good])), (h_v_text, .inl (cI, n_v_text, .inl v_text_a)), (h_v_a, .inl (cI, n_v_a, .inl v_a_a))] → va_S A s.heap H locs → f_Mod_row_91 fu n_v_text n_v_a x1 v_length v_text_a self4 y2 y3 v_aMany v_at v_digits v_good v_a_a = some u → W p l e (headSpec ws_Mod_row rm_Mod_row).room s m [.ref h_v, .int x1].toArray below meth c H locs 0 0 Qq (F0 m 91 ls []) := by
    intro self4 hs4
    intro y2 y3 v_aMany v_at v_digits v_good v_a_a ls H locs hl hP hD hS hf
    unfold f_Mod_row_91 at hf
    refine lv_iinc (k := 2) (v := y2 + 1) hx hb d_Mod_row_91 hl rfl rfl (by decide) rfl (fun ls hl => ?_)
    have hl : lv_has ls 4 [(2, .int (y2 + 1)), (0, .ref h_v), (1, .int x1), (3, .int y3)] := hl
    refine lv_aload_n hx hb d_Mod_row_94 rfl (lv_at hl 1 rfl) ?_
    refine va_get (D := (dC, dI)) (ci := 7) (v := .int v_aMany) (C := R_Mod) (T := T_Mod) (N := 26) hx hb hw in_Mod hown hK hP 0 rfl rfl 15 (by decide) (hw _ wd_689) (fun _ h9 => h9) rfl d_Mod_row_95 ?_
    refine lv_if_le (tgt := 111) hx hb d_Mod_row_98 (by decide) (fun hc => ?_) (fun hc => ?_)
    · have hf := zz_ifp hc hf
      exact hL_111 _ hs4 (y2 + 1) y3 v_aMany v_at v_digits v_good v_a_a ls _ _ (lv_sub hl [1, 2, 0, 3] rfl) hP hD hS hf
    · have hf := zz_ifn hc hf
      refine lv_aload_n hx hb d_Mod_row_101 rfl (lv_at hl 1 rfl) ?_
      refine lv_dup hx hb d_Mod_row_102 rfl ?_
      refine va_get (D := (dC, dI)) (ci := 7) (v := .int v_digits) (C := R_Mod) (T := T_Mod) (N := 26) hx hb hw in_Mod hown hK hP 0 rfl rfl 23 (by decide) (hw _ wd_696) (fun _ h9 => h9) rfl d_Mod_row_103 ?_
      refine lv_iconst (v := 1) hx hb d_Mod_row_106 (by decide) ?_
      refine lv_iadd hx hb d_Mod_row_107 ?_
      refine va_put (D := (dC, dI)) (ci := 7) (v := .int (v_digits + 1)) (ty := .int) (C := R_Mod) (T := T_Mod) (N := 26) hx hb hw in_Mod ty_Mod tyok_Mod nm_Mod hown hK hP hD hS 0 rfl rfl 23 (by decide) (hw _ wd_696) (fun _ h9 => h9) rfl (tyok_Mod 23 (by decide)) rfl rfl (Nat.le_of_ble_eq_true rfl) d_Mod_row_108 (fun H locs hP hD hS => ?_)
      have hP : va_P (dC, dI) vwCl [(h_v, .inr (7, [.ref h_v_text, .ref h_v_written, .int v_length, .int v_laid, .int v_gone, .int v_thrown, .int v_were, .int v_none, .int v_beyond, .ref h_v_a, .ref h_v_b, .ref h_v_five, .ref h_v_left, .ref h_v_right, .ref h_v_part, .int v_aMany, .int v_bMany, .int v_fiveMany, .int v_leftMany, .int v_rightMany, .int v_partMany, .int v_twos, .int v_at, .int (v_digits + 1), .int v_power, .int v_good])), (h_v_text, .inl (cI, n_v_text, .inl v_text_a)), (h_v_a, .inl (cI, n_v_a, .inl v_a_a))] H := hP
      have hD : va_D A [(h_v, .inr (7, [.ref h_v_text, .ref h_v_written, .int v_length, .int v_laid, .int v_gone, .int v_thrown, .int v_were, .int v_none, .int v_beyond, .ref h_v_a, .ref h_v_b, .ref h_v_five, .ref h_v_left, .ref h_v_right, .ref h_v_part, .int v_aMany, .int v_bMany, .int v_fiveMany, .int v_leftMany, .int v_rightMany, .int v_partMany, .int v_twos, .int v_at, .int (v_digits + 1), .int v_power, .int v_good])), (h_v_text, .inl (cI, n_v_text, .inl v_text_a)), (h_v_a, .inl (cI, n_v_a, .inl v_a_a))] := hD
      exact hL_111 _ hs4 (y2 + 1) y3 v_aMany v_at (v_digits + 1) v_good v_a_a ls _ _ (lv_sub hl [1, 2, 0, 3] rfl) hP hD hS hf
  have hL_77 : ∀ (self4 : Int32 → Int32 → Int32 → Int32 → Int32 → Int32 → (Nat → Int32) → Option (Int32 × Int32 × Int32 × Int32 × Int32 × (Nat → Int32))), (∀ (y2 : Int32) (y3 : Int32) (v_aMany : Int32) (v_at : Int32) (v_digits : Int32) (v_good : Int32) (v_a_a : Nat → Int32) (ls : Array Slot) (H : Heap) (locs : List Loc), lv_has ls 4 [(0, .ref h_v), (1, .int x1), (2, .int y2), (3, .int y3)] → va_P (dC, dI) vwCl [(h_v, .inr (7, [.ref h_v_text, .ref h_v_written, .int v_length, .int v_laid, .int v_gone, .int v_thrown, .int v_were, .int v_none, .int v_beyond, .ref h_v_a, .ref h_v_b, .ref h_v_five, .ref h_v_left, .ref h_v_right, .ref h_v_part, .int v_aMany, .int v_bMany, .int v_fiveMany, .int v_leftMany, .int v_rightMany, .int v_partMany, .int v_twos, .int v_at, .int v_digits, .int v_power, .int v_good])), (h_v_text, .inl (cI, n_v_text, .inl v_text_a)), (h_v_a, .inl (cI, n_v_a, .inl v_a_a))] H → va_D A [(h_v, .inr (7, [.ref h_v_text, .ref h_v_written, .int v_length, .int v_laid, .int v_gone, .int v_thrown, .int v_were, .int v_none, .int v_beyond, .ref h_v_a, .ref h_v_b, .ref h_v_five, .ref h_v_left, .ref h_v_right, .ref h_v_part, .int v_aMany, .int v_bMany, .int v_fiveMany, .int v_leftMany, .int v_rightMany, .int v_partMany, .int v_twos, .int v_at, .int v_digits, .int v_power, .int v_good])), (h_v_text, .inl (cI, n_v_text, .inl v_text_a)), (h_v_a, .inl (cI, n_v_a, .inl v_a_a))] → va_S A s.heap H locs → self4 y2 y3 v_aMany v_at v_digits v_good v_a_a = some u → W p l e (headSpec ws_Mod_row rm_Mod_row).room s m [.ref h_v, .int x1].toArray below meth c H locs 0 0 Qq (F0 m 4 ls [])) → ∀ (y2 : Int32) (y3 : Int32) (k2 : Int32) (k3 : Int32) (v_aMany : Int32) (v_at : Int32) (v_digits : Int32) (v_good : Int32) (v_a_a : Nat → Int32) (ls : Array Slot) (H : Heap) (locs : List Loc), lv_has ls 4 [(0, .ref h_v), (1, .int x1), (2, .int y2), (3, .int y3)] → va_P (dC, dI) vwCl [(h_v, .inr (7, [.ref h_v_text, .ref h_v_written, .int v_length, .int v_laid, .int v_gone, .int v_thrown, .int v_were, .int v_none, .int v_beyond, .ref h_v_a, .ref h_v_b, .ref h_v_five, .ref h_v_left, .ref h_v_right, .ref h_v_part, .int v_aMany, .int v_bMany, .int v_fiveMany, .int v_leftMany, .int v_rightMany, .int v_partMany, .int v_twos, .int v_at, .int v_digits, .int v_power, .int v_good])), (h_v_text, .inl (cI, n_v_text, .inl v_text_a)), (h_v_a, .inl (cI, n_v_a, .inl v_a_a))] H → va_D A [(h_v, .inr (7, [.ref h_v_text, .ref h_v_written, .int v_length, .int v_laid, .int v_gone, .int v_thrown, .int v_were, .int v_none, .int v_beyond, .ref h_v_a, .ref h_v_b, .ref h_v_five, .ref h_v_left, .ref h_v_right, .ref h_v_part, .int v_aMany, .int v_bMany, .int v_fiveMany, .int v_leftMany, .int v_rightMany, .int v_partMany, .int v_twos, .int v_at, .int v_digits, .int v_power, .int v_good])), (h_v_text, .inl (cI, n_v_text, .inl v_text_a)), (h_v_a, .inl (cI, n_v_a, .inl v_a_a))] → va_S A s.heap H locs → f_Mod_row_77 fu n_v_text n_v_a x1 v_length v_text_a self4 y2 y3 k2 k3 v_aMany v_at v_digits v_good v_a_a = some u → W p l e (headSpec ws_Mod_row rm_Mod_row).room s m [.ref h_v, .int x1].toArray below meth c H locs 0 0 Qq (F0 m 77 ls [.int k3, .int k2, .ref h_v_a, .ref h_v]) := by
    intro self4 hs4
    intro y2 y3 k2 k3 v_aMany v_at v_digits v_good v_a_a ls H locs hl hP hD hS hf
    unfold f_Mod_row_77 at hf
    refine lv_aload_n hx hb d_Mod_row_77 rfl (lv_at hl 0 rfl) ?_
    obtain ⟨u_4, hu_4, hf⟩ := zz_bd hf
    refine zz_ci (ws' := [(h_v, .inr (7, [.ref h_v_text, .ref h_v_written, .int v_length, .int v_laid, .int v_gone, .int v_thrown, .int v_were, .int v_none, .int v_beyond, .ref h_v_a, .ref h_v_b, .ref h_v_five, .ref h_v_left, .ref h_v_right, .ref h_v_part, .int v_aMany, .int v_bMany, .int v_fiveMany, .int v_leftMany, .int v_rightMany, .int v_partMany, .int v_twos, .int v_at, .int v_digits, .int v_power, .int v_good])), (h_v_text, .inl (cI, n_v_text, .inl v_text_a)), (h_v_a, .inl (cI, n_v_a, .inl v_a_a))]) (wc := [(h_v, .inr (7, [.ref h_v_text, .ref h_v_written, .int v_length, .int v_laid, .int v_gone, .int v_thrown, .int v_were, .int v_none, .int v_beyond, .ref h_v_a, .ref h_v_b, .ref h_v_five, .ref h_v_left, .ref h_v_right, .ref h_v_part, .int v_aMany, .int v_bMany, .int v_fiveMany, .int v_leftMany, .int v_rightMany, .int v_partMany, .int v_twos, .int v_at, .int v_digits, .int v_power, .int v_good])), (h_v_text, .inl (cI, n_v_text, .inl v_text_a))]) (w' := [(h_v, .inr (7, [.ref h_v_text, .ref h_v_written, .int v_length, .int v_laid, .int v_gone, .int v_thrown, .int v_were, .int v_none, .int v_beyond, .ref h_v_a, .ref h_v_b, .ref h_v_five, .ref h_v_left, .ref h_v_right, .ref h_v_part, .int v_aMany, .int v_bMany, .int v_fiveMany, .int v_leftMany, .int v_rightMany, .int v_partMany, .int v_twos, .int v_at, .int v_digits, .int v_power, .int v_good])), (h_v_text, .inl (cI, n_v_text, .inl v_text_a))]) hP hD hS hA [0, 1] [2] [1, 2, 0] rfl rfl (by decide) (by decide) rfl (by decide) (va_runV (As := []) (rest := [.int k3, .int k2, .ref h_v_a, .ref h_v]) ⟨hx, hb, hml, hown, hw⟩ (c_Mod_look l dC dI cI cC cB cJ _ h_v h_v_text h_v_written h_v_a h_v_b h_v_five h_v_left h_v_right h_v_part n_v_text v_length v_laid v_gone v_thrown v_were v_none v_beyond v_aMany v_bMany v_fiveMany v_leftMany v_rightMany v_partMany v_twos v_at v_digits v_power v_good v_text_a u_4 hu_4) (cwV 0 hw (zg_V wd_783 wd_785 we_1_13 wd_8 wd_786) rfl rfl rfl hd_Mod_look ⟨Nat.le_of_ble_eq_true rfl, Nat.le_of_ble_eq_true rfl⟩) (zz_preV zz_TE (va_recv (q0 := 0) (ci := 7) hK hP rfl rfl) hP hD hK hS hA trivial [0, 1] rfl (by decide)) rfl rfl hl.1 rfl (lv_room (Nat.le_of_ble_eq_true rfl)) d_Mod_row_78 ⟨Nat.zero_le _, Nat.zero_le _⟩) (fun H locs hP hD hS => ?_)
    refine lv_iload_n hx hb d_Mod_row_81 rfl (lv_at hl 1 rfl) ?_
    obtain ⟨u_5, hu_5, hf⟩ := zz_bd hf
    refine zz_ci (ws' := [(h_v, .inr (7, [.ref h_v_text, .ref h_v_written, .int v_length, .int v_laid, .int v_gone, .int v_thrown, .int v_were, .int v_none, .int v_beyond, .ref h_v_a, .ref h_v_b, .ref h_v_five, .ref h_v_left, .ref h_v_right, .ref h_v_part, .int v_aMany, .int v_bMany, .int v_fiveMany, .int v_leftMany, .int v_rightMany, .int v_partMany, .int v_twos, .int v_at, .int v_digits, .int v_power, .int v_good])), (h_v_text, .inl (cI, n_v_text, .inl v_text_a)), (h_v_a, .inl (cI, n_v_a, .inl v_a_a))]) (wc := []) (w' := []) hP hD hS hA [] [0, 1, 2] [0, 1, 2] rfl rfl (by decide) (by decide) rfl (by decide) (va_runS (As := [.int u_4, .int x1]) (rest := [.int k3, .int k2, .ref h_v_a, .ref h_v]) ⟨hx, hb, hml, hown, hw⟩ (c_Mod_digit l dC dI cI cC cB cJ _ u_4 x1 u_5 hu_5) (va_cwS 2 hw (zg_S wd_787 wd_788 wd_8 wd_789) rfl rfl rfl hd_Mod_digit ⟨Nat.le_of_ble_eq_true rfl, Nat.le_of_ble_eq_true rfl⟩) (zz_preS zz_TE hP hD hK hS hA trivial [] rfl (by decide)) rfl rfl hl.1 rfl (lv_room (Nat.le_of_ble_eq_true rfl)) d_Mod_row_82 ⟨Nat.zero_le _, Nat.zero_le _⟩) (fun H locs hP hD hS => ?_)
    obtain ⟨u_6, hu_6, hf⟩ := zz_bd hf
    refine zz_ci (ws' := [(h_v, .inr (7, [.ref h_v_text, .ref h_v_written, .int v_length, .int v_laid, .int v_gone, .int v_thrown, .int v_were, .int v_none, .int v_beyond, .ref h_v_a, .ref h_v_b, .ref h_v_five, .ref h_v_left, .ref h_v_right, .ref h_v_part, .int v_aMany, .int v_bMany, .int v_fiveMany, .int v_leftMany, .int v_rightMany, .int v_partMany, .int v_twos, .int v_at, .int v_digits, .int v_power, .int v_good])), (h_v_text, .inl (cI, n_v_text, .inl v_text_a)), (h_v_a, .inl (cI, n_v_a, .inl u_6.2))]) (wc := [(h_v_a, .inl (cI, n_v_a, .inl v_a_a))]) (w' := [(h_v_a, .inl (cI, n_v_a, .inl u_6.2))]) hP hD hS hA [2] [0, 1] [0, 1, 2] rfl rfl (by decide) (by decide) rfl (by decide) (va_runS (As := [.ref h_v_a, .int k2, .int k3, .int u_5]) (rest := [.ref h_v]) ⟨hx, hb, hml, hown, hw⟩ (c_Mod_grow l dC dI cI cC cB cJ fu _ h_v_a n_v_a k2 k3 u_5 v_a_a u_6 hu_6) (va_cwS 4 hw (zg_S wd_790 wd_791 wd_8 wd_792) rfl rfl rfl hd_Mod_grow ⟨Nat.le_of_ble_eq_true rfl, Nat.le_of_ble_eq_true rfl⟩) (zz_preS zz_TE hP hD hK hS hA trivial [2] rfl (by decide)) rfl rfl hl.1 rfl (lv_room (Nat.le_of_ble_eq_true rfl)) d_Mod_row_85 ⟨Nat.zero_le _, Nat.zero_le _⟩) (fun H locs hP hD hS => ?_)
    refine va_put (D := (dC, dI)) (ci := 7) (v := .int u_6.1) (ty := .int) (C := R_Mod) (T := T_Mod) (N := 26) hx hb hw in_Mod ty_Mod tyok_Mod nm_Mod hown hK hP hD hS 0 rfl rfl 15 (by decide) (hw _ wd_689) (fun _ h9 => h9) rfl (tyok_Mod 15 (by decide)) rfl rfl (Nat.le_of_ble_eq_true rfl) d_Mod_row_88 (fun H locs hP hD hS => ?_)
    have hP : va_P (dC, dI) vwCl [(h_v, .inr (7, [.ref h_v_text, .ref h_v_written, .int v_length, .int v_laid, .int v_gone, .int v_thrown, .int v_were, .int v_none, .int v_beyond, .ref h_v_a, .ref h_v_b, .ref h_v_five, .ref h_v_left, .ref h_v_right, .ref h_v_part, .int u_6.1, .int v_bMany, .int v_fiveMany, .int v_leftMany, .int v_rightMany, .int v_partMany, .int v_twos, .int v_at, .int v_digits, .int v_power, .int v_good])), (h_v_text, .inl (cI, n_v_text, .inl v_text_a)), (h_v_a, .inl (cI, n_v_a, .inl u_6.2))] H := hP
    have hD : va_D A [(h_v, .inr (7, [.ref h_v_text, .ref h_v_written, .int v_length, .int v_laid, .int v_gone, .int v_thrown, .int v_were, .int v_none, .int v_beyond, .ref h_v_a, .ref h_v_b, .ref h_v_five, .ref h_v_left, .ref h_v_right, .ref h_v_part, .int u_6.1, .int v_bMany, .int v_fiveMany, .int v_leftMany, .int v_rightMany, .int v_partMany, .int v_twos, .int v_at, .int v_digits, .int v_power, .int v_good])), (h_v_text, .inl (cI, n_v_text, .inl v_text_a)), (h_v_a, .inl (cI, n_v_a, .inl u_6.2))] := hD
    exact hL_91 _ hs4 y2 y3 u_6.1 v_at v_digits v_good u_6.2 ls _ _ (lv_sub hl [0, 1, 2, 3] rfl) hP hD hS hf
  have hL_42 : ∀ (self4 : Int32 → Int32 → Int32 → Int32 → Int32 → Int32 → (Nat → Int32) → Option (Int32 × Int32 × Int32 × Int32 × Int32 × (Nat → Int32))), (∀ (y2 : Int32) (y3 : Int32) (v_aMany : Int32) (v_at : Int32) (v_digits : Int32) (v_good : Int32) (v_a_a : Nat → Int32) (ls : Array Slot) (H : Heap) (locs : List Loc), lv_has ls 4 [(0, .ref h_v), (1, .int x1), (2, .int y2), (3, .int y3)] → va_P (dC, dI) vwCl [(h_v, .inr (7, [.ref h_v_text, .ref h_v_written, .int v_length, .int v_laid, .int v_gone, .int v_thrown, .int v_were, .int v_none, .int v_beyond, .ref h_v_a, .ref h_v_b, .ref h_v_five, .ref h_v_left, .ref h_v_right, .ref h_v_part, .int v_aMany, .int v_bMany, .int v_fiveMany, .int v_leftMany, .int v_rightMany, .int v_partMany, .int v_twos, .int v_at, .int v_digits, .int v_power, .int v_good])), (h_v_text, .inl (cI, n_v_text, .inl v_text_a)), (h_v_a, .inl (cI, n_v_a, .inl v_a_a))] H → va_D A [(h_v, .inr (7, [.ref h_v_text, .ref h_v_written, .int v_length, .int v_laid, .int v_gone, .int v_thrown, .int v_were, .int v_none, .int v_beyond, .ref h_v_a, .ref h_v_b, .ref h_v_five, .ref h_v_left, .ref h_v_right, .ref h_v_part, .int v_aMany, .int v_bMany, .int v_fiveMany, .int v_leftMany, .int v_rightMany, .int v_partMany, .int v_twos, .int v_at, .int v_digits, .int v_power, .int v_good])), (h_v_text, .inl (cI, n_v_text, .inl v_text_a)), (h_v_a, .inl (cI, n_v_a, .inl v_a_a))] → va_S A s.heap H locs → self4 y2 y3 v_aMany v_at v_digits v_good v_a_a = some u → W p l e (headSpec ws_Mod_row rm_Mod_row).room s m [.ref h_v, .int x1].toArray below meth c H locs 0 0 Qq (F0 m 4 ls [])) → ∀ (y2 : Int32) (k0 : Int32) (v_aMany : Int32) (v_at : Int32) (v_digits : Int32) (v_good : Int32) (v_a_a : Nat → Int32) (ls : Array Slot) (H : Heap) (locs : List Loc), lv_has ls 4 [(0, .ref h_v), (1, .int x1), (2, .int y2)] → va_P (dC, dI) vwCl [(h_v, .inr (7, [.ref h_v_text, .ref h_v_written, .int v_length, .int v_laid, .int v_gone, .int v_thrown, .int v_were, .int v_none, .int v_beyond, .ref h_v_a, .ref h_v_b, .ref h_v_five, .ref h_v_left, .ref h_v_right, .ref h_v_part, .int v_aMany, .int v_bMany, .int v_fiveMany, .int v_leftMany, .int v_rightMany, .int v_partMany, .int v_twos, .int v_at, .int v_digits, .int v_power, .int v_good])), (h_v_text, .inl (cI, n_v_text, .inl v_text_a)), (h_v_a, .inl (cI, n_v_a, .inl v_a_a))] H → va_D A [(h_v, .inr (7, [.ref h_v_text, .ref h_v_written, .int v_length, .int v_laid, .int v_gone, .int v_thrown, .int v_were, .int v_none, .int v_beyond, .ref h_v_a, .ref h_v_b, .ref h_v_five, .ref h_v_left, .ref h_v_right, .ref h_v_part, .int v_aMany, .int v_bMany, .int v_fiveMany, .int v_leftMany, .int v_rightMany, .int v_partMany, .int v_twos, .int v_at, .int v_digits, .int v_power, .int v_good])), (h_v_text, .inl (cI, n_v_text, .inl v_text_a)), (h_v_a, .inl (cI, n_v_a, .inl v_a_a))] → va_S A s.heap H locs → f_Mod_row_42 fu n_v_text n_v_a x1 v_length v_text_a self4 y2 k0 v_aMany v_at v_digits v_good v_a_a = some u → W p l e (headSpec ws_Mod_row rm_Mod_row).room s m [.ref h_v, .int x1].toArray below meth c H locs 0 0 Qq (F0 m 42 ls [.int k0]) := by
    intro self4 hs4
    intro y2 k0 v_aMany v_at v_digits v_good v_a_a ls H locs hl hP hD hS hf
    unfold f_Mod_row_42 at hf
    refine lv_istore_n hx hb d_Mod_row_42 rfl hl (by decide) rfl (fun ls hl => ?_)
    have hl : lv_has ls 4 [(3, .int k0), (0, .ref h_v), (1, .int x1), (2, .int y2)] := hl
    refine lv_iload_n hx hb d_Mod_row_43 rfl (lv_at hl 0 rfl) ?_
    refine lv_if_eq (tgt := 111) hx hb d_Mod_row_44 (by decide) (fun hc => ?_) (fun hc => ?_)
    · have hf := zz_ifp hc hf
      exact hL_111 _ hs4 y2 k0 v_aMany v_at v_digits v_good v_a_a ls _ _ (lv_sub hl [1, 2, 3, 0] rfl) hP hD hS hf
    · have hf := zz_ifn hc hf
      refine lv_aload_n hx hb d_Mod_row_47 rfl (lv_at hl 1 rfl) ?_
      refine va_get (D := (dC, dI)) (ci := 7) (v := .int v_aMany) (C := R_Mod) (T := T_Mod) (N := 26) hx hb hw in_Mod hown hK hP 0 rfl rfl 15 (by decide) (hw _ wd_689) (fun _ h9 => h9) rfl d_Mod_row_48 ?_
      refine lv_sipush (v := 510) hx hb d_Mod_row_51 (by decide) ?_
      refine lv_icmp_ge (tgt := 91) hx hb d_Mod_row_54 (by decide) (fun hc => ?_) (fun hc => ?_)
      · have hf := zz_ifp hc hf
        exact hL_91 _ hs4 y2 k0 v_aMany v_at v_digits v_good v_a_a ls _ _ (lv_sub hl [1, 2, 3, 0] rfl) hP hD hS hf
      · have hf := zz_ifn hc hf
        refine lv_aload_n hx hb d_Mod_row_57 rfl (lv_at hl 1 rfl) ?_
        refine lv_aload_n hx hb d_Mod_row_58 rfl (lv_at hl 1 rfl) ?_
        refine va_get (D := (dC, dI)) (ci := 7) (v := .ref h_v_a) (C := R_Mod) (T := T_Mod) (N := 26) hx hb hw in_Mod hown hK hP 0 rfl rfl 9 (by decide) (hw _ wd_683) (fun _ h9 => h9) rfl d_Mod_row_59 ?_
        refine lv_aload_n hx hb d_Mod_row_62 rfl (lv_at hl 1 rfl) ?_
        refine va_get (D := (dC, dI)) (ci := 7) (v := .int v_aMany) (C := R_Mod) (T := T_Mod) (N := 26) hx hb hw in_Mod hown hK hP 0 rfl rfl 15 (by decide) (hw _ wd_689) (fun _ h9 => h9) rfl d_Mod_row_63 ?_
        refine lv_iload_n hx hb d_Mod_row_66 rfl (lv_at hl 2 rfl) ?_
        refine lv_if_eq (tgt := 75) hx hb d_Mod_row_67 (by decide) (fun hc => ?_) (fun hc => ?_)
        · have hf := zz_ifp hc hf
          refine lv_bipush (v := 10) hx hb d_Mod_row_75 (by decide) ?_
          exact hL_77 _ hs4 y2 k0 v_aMany 10 v_aMany v_at v_digits v_good v_a_a ls _ _ (lv_sub hl [1, 2, 3, 0] rfl) hP hD hS hf
        · have hf := zz_ifn hc hf
          refine lv_bipush (v := 16) hx hb d_Mod_row_70 (by decide) ?_
          refine lv_goto (tgt := 77) hx hb d_Mod_row_72 (by decide) ?_
          exact hL_77 _ hs4 y2 k0 v_aMany 16 v_aMany v_at v_digits v_good v_a_a ls _ _ (lv_sub hl [1, 2, 3, 0] rfl) hP hD hS hf
  have hL_28 : ∀ (self4 : Int32 → Int32 → Int32 → Int32 → Int32 → Int32 → (Nat → Int32) → Option (Int32 × Int32 × Int32 × Int32 × Int32 × (Nat → Int32))), (∀ (y2 : Int32) (y3 : Int32) (v_aMany : Int32) (v_at : Int32) (v_digits : Int32) (v_good : Int32) (v_a_a : Nat → Int32) (ls : Array Slot) (H : Heap) (locs : List Loc), lv_has ls 4 [(0, .ref h_v), (1, .int x1), (2, .int y2), (3, .int y3)] → va_P (dC, dI) vwCl [(h_v, .inr (7, [.ref h_v_text, .ref h_v_written, .int v_length, .int v_laid, .int v_gone, .int v_thrown, .int v_were, .int v_none, .int v_beyond, .ref h_v_a, .ref h_v_b, .ref h_v_five, .ref h_v_left, .ref h_v_right, .ref h_v_part, .int v_aMany, .int v_bMany, .int v_fiveMany, .int v_leftMany, .int v_rightMany, .int v_partMany, .int v_twos, .int v_at, .int v_digits, .int v_power, .int v_good])), (h_v_text, .inl (cI, n_v_text, .inl v_text_a)), (h_v_a, .inl (cI, n_v_a, .inl v_a_a))] H → va_D A [(h_v, .inr (7, [.ref h_v_text, .ref h_v_written, .int v_length, .int v_laid, .int v_gone, .int v_thrown, .int v_were, .int v_none, .int v_beyond, .ref h_v_a, .ref h_v_b, .ref h_v_five, .ref h_v_left, .ref h_v_right, .ref h_v_part, .int v_aMany, .int v_bMany, .int v_fiveMany, .int v_leftMany, .int v_rightMany, .int v_partMany, .int v_twos, .int v_at, .int v_digits, .int v_power, .int v_good])), (h_v_text, .inl (cI, n_v_text, .inl v_text_a)), (h_v_a, .inl (cI, n_v_a, .inl v_a_a))] → va_S A s.heap H locs → self4 y2 y3 v_aMany v_at v_digits v_good v_a_a = some u → W p l e (headSpec ws_Mod_row rm_Mod_row).room s m [.ref h_v, .int x1].toArray below meth c H locs 0 0 Qq (F0 m 4 ls [])) → ∀ (y2 : Int32) (v_aMany : Int32) (v_at : Int32) (v_digits : Int32) (v_good : Int32) (v_a_a : Nat → Int32) (ls : Array Slot) (H : Heap) (locs : List Loc), lv_has ls 4 [(0, .ref h_v), (1, .int x1), (2, .int y2)] → va_P (dC, dI) vwCl [(h_v, .inr (7, [.ref h_v_text, .ref h_v_written, .int v_length, .int v_laid, .int v_gone, .int v_thrown, .int v_were, .int v_none, .int v_beyond, .ref h_v_a, .ref h_v_b, .ref h_v_five, .ref h_v_left, .ref h_v_right, .ref h_v_part, .int v_aMany, .int v_bMany, .int v_fiveMany, .int v_leftMany, .int v_rightMany, .int v_partMany, .int v_twos, .int v_at, .int v_digits, .int v_power, .int v_good])), (h_v_text, .inl (cI, n_v_text, .inl v_text_a)), (h_v_a, .inl (cI, n_v_a, .inl v_a_a))] H → va_D A [(h_v, .inr (7, [.ref h_v_text, .ref h_v_written, .int v_length, .int v_laid, .int v_gone, .int v_thrown, .int v_were, .int v_none, .int v_beyond, .ref h_v_a, .ref h_v_b, .ref h_v_five, .ref h_v_left, .ref h_v_right, .ref h_v_part, .int v_aMany, .int v_bMany, .int v_fiveMany, .int v_leftMany, .int v_rightMany, .int v_partMany, .int v_twos, .int v_at, .int v_digits, .int v_power, .int v_good])), (h_v_text, .inl (cI, n_v_text, .inl v_text_a)), (h_v_a, .inl (cI, n_v_a, .inl v_a_a))] → va_S A s.heap H locs → f_Mod_row_28 fu n_v_text n_v_a x1 v_length v_text_a self4 y2 v_aMany v_at v_digits v_good v_a_a = some u → W p l e (headSpec ws_Mod_row rm_Mod_row).room s m [.ref h_v, .int x1].toArray below meth c H locs 0 0 Qq (F0 m 28 ls []) := by
    intro self4 hs4
    intro y2 v_aMany v_at v_digits v_good v_a_a ls H locs hl hP hD hS hf
    unfold f_Mod_row_28 at hf
    refine lv_aload_n hx hb d_Mod_row_28 rfl (lv_at hl 0 rfl) ?_
    obtain ⟨u_3, hu_3, hf⟩ := zz_bd hf
    refine zz_ci (ws' := [(h_v, .inr (7, [.ref h_v_text, .ref h_v_written, .int v_length, .int v_laid, .int v_gone, .int v_thrown, .int v_were, .int v_none, .int v_beyond, .ref h_v_a, .ref h_v_b, .ref h_v_five, .ref h_v_left, .ref h_v_right, .ref h_v_part, .int v_aMany, .int v_bMany, .int v_fiveMany, .int v_leftMany, .int v_rightMany, .int v_partMany, .int v_twos, .int v_at, .int v_digits, .int v_power, .int v_good])), (h_v_text, .inl (cI, n_v_text, .inl v_text_a)), (h_v_a, .inl (cI, n_v_a, .inl v_a_a))]) (wc := [(h_v, .inr (7, [.ref h_v_text, .ref h_v_written, .int v_length, .int v_laid, .int v_gone, .int v_thrown, .int v_were, .int v_none, .int v_beyond, .ref h_v_a, .ref h_v_b, .ref h_v_five, .ref h_v_left, .ref h_v_right, .ref h_v_part, .int v_aMany, .int v_bMany, .int v_fiveMany, .int v_leftMany, .int v_rightMany, .int v_partMany, .int v_twos, .int v_at, .int v_digits, .int v_power, .int v_good])), (h_v_text, .inl (cI, n_v_text, .inl v_text_a))]) (w' := [(h_v, .inr (7, [.ref h_v_text, .ref h_v_written, .int v_length, .int v_laid, .int v_gone, .int v_thrown, .int v_were, .int v_none, .int v_beyond, .ref h_v_a, .ref h_v_b, .ref h_v_five, .ref h_v_left, .ref h_v_right, .ref h_v_part, .int v_aMany, .int v_bMany, .int v_fiveMany, .int v_leftMany, .int v_rightMany, .int v_partMany, .int v_twos, .int v_at, .int v_digits, .int v_power, .int v_good])), (h_v_text, .inl (cI, n_v_text, .inl v_text_a))]) hP hD hS hA [0, 1] [2] [1, 2, 0] rfl rfl (by decide) (by decide) rfl (by decide) (va_runV (As := []) (rest := []) ⟨hx, hb, hml, hown, hw⟩ (c_Mod_look l dC dI cI cC cB cJ _ h_v h_v_text h_v_written h_v_a h_v_b h_v_five h_v_left h_v_right h_v_part n_v_text v_length v_laid v_gone v_thrown v_were v_none v_beyond v_aMany v_bMany v_fiveMany v_leftMany v_rightMany v_partMany v_twos v_at v_digits v_power v_good v_text_a u_3 hu_3) (cwV 0 hw (zg_V wd_783 wd_785 we_1_13 wd_8 wd_786) rfl rfl rfl hd_Mod_look ⟨Nat.le_of_ble_eq_true rfl, Nat.le_of_ble_eq_true rfl⟩) (zz_preV zz_TE (va_recv (q0 := 0) (ci := 7) hK hP rfl rfl) hP hD hK hS hA trivial [0, 1] rfl (by decide)) rfl rfl hl.1 rfl (lv_room (Nat.le_of_ble_eq_true rfl)) d_Mod_row_29 ⟨Nat.zero_le _, Nat.zero_le _⟩) (fun H locs hP hD hS => ?_)
    refine lv_bipush (v := 95) hx hb d_Mod_row_32 (by decide) ?_
    refine lv_icmp_eq (tgt := 41) hx hb d_Mod_row_34 (by decide) (fun hc => ?_) (fun hc => ?_)
    · have hf := zz_ifp hc hf
      refine lv_iconst (v := 0) hx hb d_Mod_row_41 (by decide) ?_
      exact hL_42 _ hs4 y2 0 v_aMany v_at v_digits v_good v_a_a ls _ _ (lv_sub hl [0, 1, 2] rfl) hP hD hS hf
    · have hf := zz_ifn hc hf
      refine lv_iconst (v := 1) hx hb d_Mod_row_37 (by decide) ?_
      refine lv_goto (tgt := 42) hx hb d_Mod_row_38 (by decide) ?_
      exact hL_42 _ hs4 y2 1 v_aMany v_at v_digits v_good v_a_a ls _ _ (lv_sub hl [0, 1, 2] rfl) hP hD hS hf
  have hL_124 : ∀ (y2 : Int32) (y3 : Int32) (v_aMany : Int32) (v_at : Int32) (v_digits : Int32) (v_good : Int32) (v_a_a : Nat → Int32) (ls : Array Slot) (H : Heap) (locs : List Loc), lv_has ls 4 [(0, .ref h_v), (2, .int y2), (3, .int y3)] → va_P (dC, dI) vwCl [(h_v, .inr (7, [.ref h_v_text, .ref h_v_written, .int v_length, .int v_laid, .int v_gone, .int v_thrown, .int v_were, .int v_none, .int v_beyond, .ref h_v_a, .ref h_v_b, .ref h_v_five, .ref h_v_left, .ref h_v_right, .ref h_v_part, .int v_aMany, .int v_bMany, .int v_fiveMany, .int v_leftMany, .int v_rightMany, .int v_partMany, .int v_twos, .int v_at, .int v_digits, .int v_power, .int v_good])), (h_v_text, .inl (cI, n_v_text, .inl v_text_a)), (h_v_a, .inl (cI, n_v_a, .inl v_a_a))] H → va_D A [(h_v, .inr (7, [.ref h_v_text, .ref h_v_written, .int v_length, .int v_laid, .int v_gone, .int v_thrown, .int v_were, .int v_none, .int v_beyond, .ref h_v_a, .ref h_v_b, .ref h_v_five, .ref h_v_left, .ref h_v_right, .ref h_v_part, .int v_aMany, .int v_bMany, .int v_fiveMany, .int v_leftMany, .int v_rightMany, .int v_partMany, .int v_twos, .int v_at, .int v_digits, .int v_power, .int v_good])), (h_v_text, .inl (cI, n_v_text, .inl v_text_a)), (h_v_a, .inl (cI, n_v_a, .inl v_a_a))] → va_S A s.heap H locs → f_Mod_row_124 fu n_v_text n_v_a x1 v_length v_text_a y2 y3 v_aMany v_at v_digits v_good v_a_a = some u → W p l e (headSpec ws_Mod_row rm_Mod_row).room s m [.ref h_v, .int x1].toArray below meth c H locs 0 0 Qq (F0 m 124 ls []) := by
    intro y2 y3 v_aMany v_at v_digits v_good v_a_a ls H locs hl hP hD hS hf
    unfold f_Mod_row_124 at hf
    refine lv_iload_n hx hb d_Mod_row_124 rfl (lv_at hl 1 rfl) ?_
    refine lv_if_le (tgt := 137) hx hb d_Mod_row_125 (by decide) (fun hc => ?_) (fun hc => ?_)
    · have hf := zz_ifp hc hf
      refine lv_iload_n hx hb d_Mod_row_137 rfl (lv_at hl 1 rfl) ?_
      cases hf
      exact hend 138 ls _ _ d_Mod_row_138 hP hD hS
    · have hf := zz_ifn hc hf
      refine lv_iload_n hx hb d_Mod_row_128 rfl (lv_at hl 2 rfl) ?_
      refine lv_if_ne (tgt := 137) hx hb d_Mod_row_129 (by decide) (fun hc => ?_) (fun hc => ?_)
      · have hf := zz_ifn hc hf
        refine lv_iload_n hx hb d_Mod_row_137 rfl (lv_at hl 1 rfl) ?_
        cases hf
        exact hend 138 ls _ _ d_Mod_row_138 hP hD hS
      · have hf := zz_ifp hc hf
        refine lv_aload_n hx hb d_Mod_row_132 rfl (lv_at hl 0 rfl) ?_
        refine lv_iconst (v := 0) hx hb d_Mod_row_133 (by decide) ?_
        refine va_put (D := (dC, dI)) (ci := 7) (v := .int 0) (ty := .boolean) (C := R_Mod) (T := T_Mod) (N := 26) hx hb hw in_Mod ty_Mod tyok_Mod nm_Mod hown hK hP hD hS 0 rfl rfl 25 (by decide) (hw _ wd_698) (fun _ h9 => h9) rfl (tyok_Mod 25 (by decide)) rfl rfl (Nat.le_of_ble_eq_true rfl) d_Mod_row_134 (fun H locs hP hD hS => ?_)
        have hP : va_P (dC, dI) vwCl [(h_v, .inr (7, [.ref h_v_text, .ref h_v_written, .int v_length, .int v_laid, .int v_gone, .int v_thrown, .int v_were, .int v_none, .int v_beyond, .ref h_v_a, .ref h_v_b, .ref h_v_five, .ref h_v_left, .ref h_v_right, .ref h_v_part, .int v_aMany, .int v_bMany, .int v_fiveMany, .int v_leftMany, .int v_rightMany, .int v_partMany, .int v_twos, .int v_at, .int v_digits, .int v_power, .int 0])), (h_v_text, .inl (cI, n_v_text, .inl v_text_a)), (h_v_a, .inl (cI, n_v_a, .inl v_a_a))] H := hP
        have hD : va_D A [(h_v, .inr (7, [.ref h_v_text, .ref h_v_written, .int v_length, .int v_laid, .int v_gone, .int v_thrown, .int v_were, .int v_none, .int v_beyond, .ref h_v_a, .ref h_v_b, .ref h_v_five, .ref h_v_left, .ref h_v_right, .ref h_v_part, .int v_aMany, .int v_bMany, .int v_fiveMany, .int v_leftMany, .int v_rightMany, .int v_partMany, .int v_twos, .int v_at, .int v_digits, .int v_power, .int 0])), (h_v_text, .inl (cI, n_v_text, .inl v_text_a)), (h_v_a, .inl (cI, n_v_a, .inl v_a_a))] := hD
        refine lv_iload_n hx hb d_Mod_row_137 rfl (lv_at hl 1 rfl) ?_
        cases hf
        exact hend 138 ls _ _ d_Mod_row_138 hP hD hS
  have hL_4 : ∀ (n : Nat), ∀ (y2 : Int32) (y3 : Int32) (v_aMany : Int32) (v_at : Int32) (v_digits : Int32) (v_good : Int32) (v_a_a : Nat → Int32) (ls : Array Slot) (H : Heap) (locs : List Loc), lv_has ls 4 [(0, .ref h_v), (1, .int x1), (2, .int y2), (3, .int y3)] → va_P (dC, dI) vwCl [(h_v, .inr (7, [.ref h_v_text, .ref h_v_written, .int v_length, .int v_laid, .int v_gone, .int v_thrown, .int v_were, .int v_none, .int v_beyond, .ref h_v_a, .ref h_v_b, .ref h_v_five, .ref h_v_left, .ref h_v_right, .ref h_v_part, .int v_aMany, .int v_bMany, .int v_fiveMany, .int v_leftMany, .int v_rightMany, .int v_partMany, .int v_twos, .int v_at, .int v_digits, .int v_power, .int v_good])), (h_v_text, .inl (cI, n_v_text, .inl v_text_a)), (h_v_a, .inl (cI, n_v_a, .inl v_a_a))] H → va_D A [(h_v, .inr (7, [.ref h_v_text, .ref h_v_written, .int v_length, .int v_laid, .int v_gone, .int v_thrown, .int v_were, .int v_none, .int v_beyond, .ref h_v_a, .ref h_v_b, .ref h_v_five, .ref h_v_left, .ref h_v_right, .ref h_v_part, .int v_aMany, .int v_bMany, .int v_fiveMany, .int v_leftMany, .int v_rightMany, .int v_partMany, .int v_twos, .int v_at, .int v_digits, .int v_power, .int v_good])), (h_v_text, .inl (cI, n_v_text, .inl v_text_a)), (h_v_a, .inl (cI, n_v_a, .inl v_a_a))] → va_S A s.heap H locs → f_Mod_row_4 fu n_v_text n_v_a x1 v_length v_text_a n y2 y3 v_aMany v_at v_digits v_good v_a_a = some u → W p l e (headSpec ws_Mod_row rm_Mod_row).room s m [.ref h_v, .int x1].toArray below meth c H locs 0 0 Qq (F0 m 4 ls []) := by
    intro n
    induction n with
    | zero =>
      intro y2 y3 v_aMany v_at v_digits v_good v_a_a ls H locs hl hP hD hS hf
      exact zz_no hf
    | succ n ih =>
      intro y2 y3 v_aMany v_at v_digits v_good v_a_a ls H locs hl hP hD hS hf
      rw [f_Mod_row_4_s] at hf
      refine lv_aload_n hx hb d_Mod_row_4 rfl (lv_at hl 0 rfl) ?_
      obtain ⟨u_1, hu_1, hf⟩ := zz_bd hf
      refine zz_ci (ws' := [(h_v, .inr (7, [.ref h_v_text, .ref h_v_written, .int v_length, .int v_laid, .int v_gone, .int v_thrown, .int v_were, .int v_none, .int v_beyond, .ref h_v_a, .ref h_v_b, .ref h_v_five, .ref h_v_left, .ref h_v_right, .ref h_v_part, .int v_aMany, .int v_bMany, .int v_fiveMany, .int v_leftMany, .int v_rightMany, .int v_partMany, .int v_twos, .int v_at, .int v_digits, .int v_power, .int v_good])), (h_v_text, .inl (cI, n_v_text, .inl v_text_a)), (h_v_a, .inl (cI, n_v_a, .inl v_a_a))]) (wc := [(h_v, .inr (7, [.ref h_v_text, .ref h_v_written, .int v_length, .int v_laid, .int v_gone, .int v_thrown, .int v_were, .int v_none, .int v_beyond, .ref h_v_a, .ref h_v_b, .ref h_v_five, .ref h_v_left, .ref h_v_right, .ref h_v_part, .int v_aMany, .int v_bMany, .int v_fiveMany, .int v_leftMany, .int v_rightMany, .int v_partMany, .int v_twos, .int v_at, .int v_digits, .int v_power, .int v_good])), (h_v_text, .inl (cI, n_v_text, .inl v_text_a))]) (w' := [(h_v, .inr (7, [.ref h_v_text, .ref h_v_written, .int v_length, .int v_laid, .int v_gone, .int v_thrown, .int v_were, .int v_none, .int v_beyond, .ref h_v_a, .ref h_v_b, .ref h_v_five, .ref h_v_left, .ref h_v_right, .ref h_v_part, .int v_aMany, .int v_bMany, .int v_fiveMany, .int v_leftMany, .int v_rightMany, .int v_partMany, .int v_twos, .int v_at, .int v_digits, .int v_power, .int v_good])), (h_v_text, .inl (cI, n_v_text, .inl v_text_a))]) hP hD hS hA [0, 1] [2] [1, 2, 0] rfl rfl (by decide) (by decide) rfl (by decide) (va_runV (As := []) (rest := []) ⟨hx, hb, hml, hown, hw⟩ (c_Mod_look l dC dI cI cC cB cJ _ h_v h_v_text h_v_written h_v_a h_v_b h_v_five h_v_left h_v_right h_v_part n_v_text v_length v_laid v_gone v_thrown v_were v_none v_beyond v_aMany v_bMany v_fiveMany v_leftMany v_rightMany v_partMany v_twos v_at v_digits v_power v_good v_text_a u_1 hu_1) (cwV 0 hw (zg_V wd_783 wd_785 we_1_13 wd_8 wd_786) rfl rfl rfl hd_Mod_look ⟨Nat.le_of_ble_eq_true rfl, Nat.le_of_ble_eq_true rfl⟩) (zz_preV zz_TE (va_recv (q0 := 0) (ci := 7) hK hP rfl rfl) hP hD hK hS hA trivial [0, 1] rfl (by decide)) rfl rfl hl.1 rfl (lv_room (Nat.le_of_ble_eq_true rfl)) d_Mod_row_5 ⟨Nat.zero_le _, Nat.zero_le _⟩) (fun H locs hP hD hS => ?_)
      refine lv_iload_n hx hb d_Mod_row_8 rfl (lv_at hl 1 rfl) ?_
      obtain ⟨u_2, hu_2, hf⟩ := zz_bd hf
      refine zz_ci (ws' := [(h_v, .inr (7, [.ref h_v_text, .ref h_v_written, .int v_length, .int v_laid, .int v_gone, .int v_thrown, .int v_were, .int v_none, .int v_beyond, .ref h_v_a, .ref h_v_b, .ref h_v_five, .ref h_v_left, .ref h_v_right, .ref h_v_part, .int v_aMany, .int v_bMany, .int v_fiveMany, .int v_leftMany, .int v_rightMany, .int v_partMany, .int v_twos, .int v_at, .int v_digits, .int v_power, .int v_good])), (h_v_text, .inl (cI, n_v_text, .inl v_text_a)), (h_v_a, .inl (cI, n_v_a, .inl v_a_a))]) (wc := []) (w' := []) hP hD hS hA [] [0, 1, 2] [0, 1, 2] rfl rfl (by decide) (by decide) rfl (by decide) (va_runS (As := [.int u_1, .int x1]) (rest := []) ⟨hx, hb, hml, hown, hw⟩ (c_Mod_digit l dC dI cI cC cB cJ _ u_1 x1 u_2 hu_2) (va_cwS 2 hw (zg_S wd_787 wd_788 wd_8 wd_789) rfl rfl rfl hd_Mod_digit ⟨Nat.le_of_ble_eq_true rfl, Nat.le_of_ble_eq_true rfl⟩) (zz_preS zz_TE hP hD hK hS hA trivial [] rfl (by decide)) rfl rfl hl.1 rfl (lv_room (Nat.le_of_ble_eq_true rfl)) d_Mod_row_9 ⟨Nat.zero_le _, Nat.zero_le _⟩) (fun H locs hP hD hS => ?_)
      refine lv_if_ge (tgt := 28) hx hb d_Mod_row_12 (by decide) (fun hc => ?_) (fun hc => ?_)
      · have hf := zz_ifp hc hf
        exact hL_28 _ ih y2 v_aMany v_at v_digits v_good v_a_a ls _ _ (lv_sub hl [0, 1, 2] rfl) hP hD hS hf
      · have hf := zz_ifn hc hf
        refine lv_iload_n hx hb d_Mod_row_15 rfl (lv_at hl 2 rfl) ?_
        refine lv_if_le (tgt := 124) hx hb d_Mod_row_16 (by decide) (fun hc => ?_) (fun hc => ?_)
        · have hf := zz_ifp hc hf
          exact hL_124 y2 y3 v_aMany v_at v_digits v_good v_a_a ls _ _ (lv_sub hl [0, 2, 3] rfl) hP hD hS hf
        · have hf := zz_ifn hc hf
          refine lv_aload_n hx hb d_Mod_row_19 rfl (lv_at hl 0 rfl) ?_
          obtain ⟨u_7, hu_7, hf⟩ := zz_bd hf
          refine zz_ci (ws' := [(h_v, .inr (7, [.ref h_v_text, .ref h_v_written, .int v_length, .int v_laid, .int v_gone, .int v_thrown, .int v_were, .int v_none, .int v_beyond, .ref h_v_a, .ref h_v_b, .ref h_v_five, .ref h_v_left, .ref h_v_right, .ref h_v_part, .int v_aMany, .int v_bMany, .int v_fiveMany, .int v_leftMany, .int v_rightMany, .int v_partMany, .int v_twos, .int v_at, .int v_digits, .int v_power, .int v_good])), (h_v_text, .inl (cI, n_v_text, .inl v_text_a)), (h_v_a, .inl (cI, n_v_a, .inl v_a_a))]) (wc := [(h_v, .inr (7, [.ref h_v_text, .ref h_v_written, .int v_length, .int v_laid, .int v_gone, .int v_thrown, .int v_were, .int v_none, .int v_beyond, .ref h_v_a, .ref h_v_b, .ref h_v_five, .ref h_v_left, .ref h_v_right, .ref h_v_part, .int v_aMany, .int v_bMany, .int v_fiveMany, .int v_leftMany, .int v_rightMany, .int v_partMany, .int v_twos, .int v_at, .int v_digits, .int v_power, .int v_good])), (h_v_text, .inl (cI, n_v_text, .inl v_text_a))]) (w' := [(h_v, .inr (7, [.ref h_v_text, .ref h_v_written, .int v_length, .int v_laid, .int v_gone, .int v_thrown, .int v_were, .int v_none, .int v_beyond, .ref h_v_a, .ref h_v_b, .ref h_v_five, .ref h_v_left, .ref h_v_right, .ref h_v_part, .int v_aMany, .int v_bMany, .int v_fiveMany, .int v_leftMany, .int v_rightMany, .int v_partMany, .int v_twos, .int v_at, .int v_digits, .int v_power, .int v_good])), (h_v_text, .inl (cI, n_v_text, .inl v_text_a))]) hP hD hS hA [0, 1] [2] [1, 2, 0] rfl rfl (by decide) (by decide) rfl (by decide) (va_runV (As := []) (rest := []) ⟨hx, hb, hml, hown, hw⟩ (c_Mod_look l dC dI cI cC cB cJ _ h_v h_v_text h_v_written h_v_a h_v_b h_v_five h_v_left h_v_right h_v_part n_v_text v_length v_laid v_gone v_thrown v_were v_none v_beyond v_aMany v_bMany v_fiveMany v_leftMany v_rightMany v_partMany v_twos v_at v_digits v_power v_good v_text_a u_7 hu_7) (cwV 0 hw (zg_V wd_783 wd_785 we_1_13 wd_8 wd_786) rfl rfl rfl hd_Mod_look ⟨Nat.le_of_ble_eq_true rfl, Nat.le_of_ble_eq_true rfl⟩) (zz_preV zz_TE (va_recv (q0 := 0) (ci := 7) hK hP rfl rfl) hP hD hK hS hA trivial [0, 1] rfl (by decide)) rfl rfl hl.1 rfl (lv_room (Nat.le_of_ble_eq_true rfl)) d_Mod_row_20 ⟨Nat.zero_le _, Nat.zero_le _⟩) (fun H locs hP hD hS => ?_)
          refine lv_bipush (v := 95) hx hb d_Mod_row_23 (by decide) ?_
          refine lv_icmp_ne (tgt := 124) hx hb d_Mod_row_25 (by decide) (fun hc => ?_) (fun hc => ?_)
          · have hf := zz_ifn hc hf
            exact hL_124 y2 y3 v_aMany v_at v_digits v_good v_a_a ls _ _ (lv_sub hl [0, 2, 3] rfl) hP hD hS hf
          · have hf := zz_ifp hc hf
            exact hL_28 _ ih y2 v_aMany v_at v_digits v_good v_a_a ls _ _ (lv_sub hl [0, 1, 2] rfl) hP hD hS hf
  unfold f_Mod_row at hf
  refine lv_iconst (v := 0) hx hb d_Mod_row_0 (by decide) ?_
  refine lv_istore_n hx hb d_Mod_row_1 rfl hl (by decide) rfl (fun ls hl => ?_)
  have hl : lv_has ls 4 [(2, .int 0), (0, .ref h_v), (1, .int x1)] := hl
  refine lv_iconst (v := 0) hx hb d_Mod_row_2 (by decide) ?_
  refine lv_istore_n hx hb d_Mod_row_3 rfl hl (by decide) rfl (fun ls hl => ?_)
  have hl : lv_has ls 4 [(3, .int 0), (2, .int 0), (0, .ref h_v), (1, .int x1)] := hl
  exact hL_4 fu 0 0 v_aMany v_at v_digits v_good v_a_a ls _ _ (lv_sub hl [2, 3, 1, 0] rfl) hP hD hS hf
abbrev ws_Mod_exponentRow : List Cond := .code y_Mod_exponentRow prog_10_method_21_code 5 none :: zw
abbrev rm_Mod_exponentRow : Room := { frames := 2, cells := 0, slots := 0, locals := 43 }
theorem hd_Mod_exponentRow : y_Mod_exponentRow.cls = "RealTextModel" ∧ y_Mod_exponentRow.cls ≠ "java/lang/invoke/MethodHandle" ∧ y_Mod_exponentRow.cls ≠ "java/lang/invoke/VarHandle" ∧ (parseMethodDescriptor y_Mod_exponentRow.desc).map (fun d => d.parameters.length) = some 0 := by decide +kernel
theorem d_Mod_exponentRow_0 : decode prog_10_method_21_code 0 = .ok (.aload_n 0, 1) := by decide +kernel
theorem d_Mod_exponentRow_1 : decode prog_10_method_21_code 1 = .ok (.dup, 1) := by decide +kernel
theorem d_Mod_exponentRow_2 : decode prog_10_method_21_code 2 = .ok (.getfield 107, 3) := by decide +kernel
theorem d_Mod_exponentRow_5 : decode prog_10_method_21_code 5 = .ok (.iconst 1, 1) := by decide +kernel
theorem d_Mod_exponentRow_6 : decode prog_10_method_21_code 6 = .ok (.iadd, 1) := by decide +kernel
theorem d_Mod_exponentRow_7 : decode prog_10_method_21_code 7 = .ok (.putfield 107, 3) := by decide +kernel
theorem d_Mod_exponentRow_10 : decode prog_10_method_21_code 10 = .ok (.aload_n 0, 1) := by decide +kernel
theorem d_Mod_exponentRow_11 : decode prog_10_method_21_code 11 = .ok (.invokevirtual 110, 3) := by decide +kernel
theorem d_Mod_exponentRow_14 : decode prog_10_method_21_code 14 = .ok (.bipush 45, 2) := by decide +kernel
theorem d_Mod_exponentRow_16 : decode prog_10_method_21_code 16 = .ok (.if_icmp .ne 7, 3) := by decide +kernel
theorem d_Mod_exponentRow_19 : decode prog_10_method_21_code 19 = .ok (.iconst 1, 1) := by decide +kernel
theorem d_Mod_exponentRow_20 : decode prog_10_method_21_code 20 = .ok (.goto 4, 3) := by decide +kernel
theorem d_Mod_exponentRow_23 : decode prog_10_method_21_code 23 = .ok (.iconst 0, 1) := by decide +kernel
theorem d_Mod_exponentRow_24 : decode prog_10_method_21_code 24 = .ok (.istore_n 1, 1) := by decide +kernel
theorem d_Mod_exponentRow_25 : decode prog_10_method_21_code 25 = .ok (.iload_n 1, 1) := by decide +kernel
theorem d_Mod_exponentRow_26 : decode prog_10_method_21_code 26 = .ok (.ifCond .ne 12, 3) := by decide +kernel
theorem d_Mod_exponentRow_29 : decode prog_10_method_21_code 29 = .ok (.aload_n 0, 1) := by decide +kernel
theorem d_Mod_exponentRow_30 : decode prog_10_method_21_code 30 = .ok (.invokevirtual 110, 3) := by decide +kernel
theorem d_Mod_exponentRow_33 : decode prog_10_method_21_code 33 = .ok (.bipush 43, 2) := by decide +kernel
theorem d_Mod_exponentRow_35 : decode prog_10_method_21_code 35 = .ok (.if_icmp .ne 13, 3) := by decide +kernel
theorem d_Mod_exponentRow_38 : decode prog_10_method_21_code 38 = .ok (.aload_n 0, 1) := by decide +kernel
theorem d_Mod_exponentRow_39 : decode prog_10_method_21_code 39 = .ok (.dup, 1) := by decide +kernel
theorem d_Mod_exponentRow_40 : decode prog_10_method_21_code 40 = .ok (.getfield 107, 3) := by decide +kernel
theorem d_Mod_exponentRow_43 : decode prog_10_method_21_code 43 = .ok (.iconst 1, 1) := by decide +kernel
theorem d_Mod_exponentRow_44 : decode prog_10_method_21_code 44 = .ok (.iadd, 1) := by decide +kernel
theorem d_Mod_exponentRow_45 : decode prog_10_method_21_code 45 = .ok (.putfield 107, 3) := by decide +kernel
theorem d_Mod_exponentRow_48 : decode prog_10_method_21_code 48 = .ok (.iconst 0, 1) := by decide +kernel
theorem d_Mod_exponentRow_49 : decode prog_10_method_21_code 49 = .ok (.istore_n 2, 1) := by decide +kernel
theorem d_Mod_exponentRow_50 : decode prog_10_method_21_code 50 = .ok (.iconst 0, 1) := by decide +kernel
theorem d_Mod_exponentRow_51 : decode prog_10_method_21_code 51 = .ok (.istore_n 3, 1) := by decide +kernel
theorem d_Mod_exponentRow_52 : decode prog_10_method_21_code 52 = .ok (.iconst 0, 1) := by decide +kernel
theorem d_Mod_exponentRow_53 : decode prog_10_method_21_code 53 = .ok (.istore 4, 2) := by decide +kernel
theorem d_Mod_exponentRow_55 : decode prog_10_method_21_code 55 = .ok (.aload_n 0, 1) := by decide +kernel
theorem d_Mod_exponentRow_56 : decode prog_10_method_21_code 56 = .ok (.invokevirtual 110, 3) := by decide +kernel
theorem d_Mod_exponentRow_59 : decode prog_10_method_21_code 59 = .ok (.iconst 0, 1) := by decide +kernel
theorem d_Mod_exponentRow_60 : decode prog_10_method_21_code 60 = .ok (.invokestatic 114, 3) := by decide +kernel
theorem d_Mod_exponentRow_63 : decode prog_10_method_21_code 63 = .ok (.ifCond .ge 16, 3) := by decide +kernel
theorem d_Mod_exponentRow_66 : decode prog_10_method_21_code 66 = .ok (.iload_n 2, 1) := by decide +kernel
theorem d_Mod_exponentRow_67 : decode prog_10_method_21_code 67 = .ok (.ifCond .le 74, 3) := by decide +kernel
theorem d_Mod_exponentRow_70 : decode prog_10_method_21_code 70 = .ok (.aload_n 0, 1) := by decide +kernel
theorem d_Mod_exponentRow_71 : decode prog_10_method_21_code 71 = .ok (.invokevirtual 110, 3) := by decide +kernel
theorem d_Mod_exponentRow_74 : decode prog_10_method_21_code 74 = .ok (.bipush 95, 2) := by decide +kernel
theorem d_Mod_exponentRow_76 : decode prog_10_method_21_code 76 = .ok (.if_icmp .ne 65, 3) := by decide +kernel
theorem d_Mod_exponentRow_79 : decode prog_10_method_21_code 79 = .ok (.aload_n 0, 1) := by decide +kernel
theorem d_Mod_exponentRow_80 : decode prog_10_method_21_code 80 = .ok (.invokevirtual 110, 3) := by decide +kernel
theorem d_Mod_exponentRow_83 : decode prog_10_method_21_code 83 = .ok (.bipush 95, 2) := by decide +kernel
theorem d_Mod_exponentRow_85 : decode prog_10_method_21_code 85 = .ok (.if_icmp .eq 7, 3) := by decide +kernel
theorem d_Mod_exponentRow_88 : decode prog_10_method_21_code 88 = .ok (.iconst 1, 1) := by decide +kernel
theorem d_Mod_exponentRow_89 : decode prog_10_method_21_code 89 = .ok (.goto 4, 3) := by decide +kernel
theorem d_Mod_exponentRow_92 : decode prog_10_method_21_code 92 = .ok (.iconst 0, 1) := by decide +kernel
theorem d_Mod_exponentRow_93 : decode prog_10_method_21_code 93 = .ok (.istore 4, 2) := by decide +kernel
theorem d_Mod_exponentRow_95 : decode prog_10_method_21_code 95 = .ok (.iload 4, 2) := by decide +kernel
theorem d_Mod_exponentRow_97 : decode prog_10_method_21_code 97 = .ok (.ifCond .eq 31, 3) := by decide +kernel
theorem d_Mod_exponentRow_100 : decode prog_10_method_21_code 100 = .ok (.iload_n 3, 1) := by decide +kernel
theorem d_Mod_exponentRow_101 : decode prog_10_method_21_code 101 = .ok (.ldc 125, 2) := by decide +kernel
theorem d_Mod_exponentRow_103 : decode prog_10_method_21_code 103 = .ok (.if_icmp .le 8, 3) := by decide +kernel
theorem d_Mod_exponentRow_106 : decode prog_10_method_21_code 106 = .ok (.ldc 126, 2) := by decide +kernel
theorem d_Mod_exponentRow_108 : decode prog_10_method_21_code 108 = .ok (.goto 16, 3) := by decide +kernel
theorem d_Mod_exponentRow_111 : decode prog_10_method_21_code 111 = .ok (.bipush 10, 2) := by decide +kernel
theorem d_Mod_exponentRow_113 : decode prog_10_method_21_code 113 = .ok (.iload_n 3, 1) := by decide +kernel
theorem d_Mod_exponentRow_114 : decode prog_10_method_21_code 114 = .ok (.imul, 1) := by decide +kernel
theorem d_Mod_exponentRow_115 : decode prog_10_method_21_code 115 = .ok (.aload_n 0, 1) := by decide +kernel
theorem d_Mod_exponentRow_116 : decode prog_10_method_21_code 116 = .ok (.invokevirtual 110, 3) := by decide +kernel
theorem d_Mod_exponentRow_119 : decode prog_10_method_21_code 119 = .ok (.iconst 0, 1) := by decide +kernel
theorem d_Mod_exponentRow_120 : decode prog_10_method_21_code 120 = .ok (.invokestatic 114, 3) := by decide +kernel
theorem d_Mod_exponentRow_123 : decode prog_10_method_21_code 123 = .ok (.iadd, 1) := by decide +kernel
theorem d_Mod_exponentRow_124 : decode prog_10_method_21_code 124 = .ok (.istore_n 3, 1) := by decide +kernel
theorem d_Mod_exponentRow_125 : decode prog_10_method_21_code 125 = .ok (.iinc 2 1, 3) := by decide +kernel
theorem d_Mod_exponentRow_128 : decode prog_10_method_21_code 128 = .ok (.aload_n 0, 1) := by decide +kernel
theorem d_Mod_exponentRow_129 : decode prog_10_method_21_code 129 = .ok (.dup, 1) := by decide +kernel
theorem d_Mod_exponentRow_130 : decode prog_10_method_21_code 130 = .ok (.getfield 107, 3) := by decide +kernel
theorem d_Mod_exponentRow_133 : decode prog_10_method_21_code 133 = .ok (.iconst 1, 1) := by decide +kernel
theorem d_Mod_exponentRow_134 : decode prog_10_method_21_code 134 = .ok (.iadd, 1) := by decide +kernel
theorem d_Mod_exponentRow_135 : decode prog_10_method_21_code 135 = .ok (.putfield 107, 3) := by decide +kernel
theorem d_Mod_exponentRow_138 : decode prog_10_method_21_code 138 = .ok (.goto (-83), 3) := by decide +kernel
theorem d_Mod_exponentRow_141 : decode prog_10_method_21_code 141 = .ok (.iload_n 2, 1) := by decide +kernel
theorem d_Mod_exponentRow_142 : decode prog_10_method_21_code 142 = .ok (.ifCond .eq 8, 3) := by decide +kernel
theorem d_Mod_exponentRow_145 : decode prog_10_method_21_code 145 = .ok (.iload 4, 2) := by decide +kernel
theorem d_Mod_exponentRow_147 : decode prog_10_method_21_code 147 = .ok (.ifCond .ne 8, 3) := by decide +kernel
theorem d_Mod_exponentRow_150 : decode prog_10_method_21_code 150 = .ok (.aload_n 0, 1) := by decide +kernel
theorem d_Mod_exponentRow_151 : decode prog_10_method_21_code 151 = .ok (.iconst 0, 1) := by decide +kernel
theorem d_Mod_exponentRow_152 : decode prog_10_method_21_code 152 = .ok (.putfield 121, 3) := by decide +kernel
theorem d_Mod_exponentRow_155 : decode prog_10_method_21_code 155 = .ok (.aload_n 0, 1) := by decide +kernel
theorem d_Mod_exponentRow_156 : decode prog_10_method_21_code 156 = .ok (.dup, 1) := by decide +kernel
theorem d_Mod_exponentRow_157 : decode prog_10_method_21_code 157 = .ok (.getfield 127, 3) := by decide +kernel
theorem d_Mod_exponentRow_160 : decode prog_10_method_21_code 160 = .ok (.iload_n 1, 1) := by decide +kernel
theorem d_Mod_exponentRow_161 : decode prog_10_method_21_code 161 = .ok (.ifCond .eq 8, 3) := by decide +kernel
theorem d_Mod_exponentRow_164 : decode prog_10_method_21_code 164 = .ok (.iload_n 3, 1) := by decide +kernel
theorem d_Mod_exponentRow_165 : decode prog_10_method_21_code 165 = .ok (.ineg, 1) := by decide +kernel
theorem d_Mod_exponentRow_166 : decode prog_10_method_21_code 166 = .ok (.goto 4, 3) := by decide +kernel
theorem d_Mod_exponentRow_169 : decode prog_10_method_21_code 169 = .ok (.iload_n 3, 1) := by decide +kernel
theorem d_Mod_exponentRow_170 : decode prog_10_method_21_code 170 = .ok (.iadd, 1) := by decide +kernel
theorem d_Mod_exponentRow_171 : decode prog_10_method_21_code 171 = .ok (.putfield 127, 3) := by decide +kernel
theorem d_Mod_exponentRow_174 : decode prog_10_method_21_code 174 = .ok (.return_, 1) := by decide +kernel
def f_Mod_exponentRow_128 (fu : Nat) (n_v_text : Nat) (v_length : Int32) (v_text_a : Nat → Int32) (self55 : Int32 → Int32 → Int32 → Int32 → Int32 → Int32 → Int32 → Option (Int32 × Int32 × Int32)) (y1 : Int32) (y2 : Int32) (y3 : Int32) (y4 : Int32) (v_at : Int32) (v_power : Int32) (v_good : Int32) : Option (Int32 × Int32 × Int32) :=
  self55 y1 y2 y3 y4 (v_at + 1) v_power v_good
def f_Mod_exponentRow_124 (fu : Nat) (n_v_text : Nat) (v_length : Int32) (v_text_a : Nat → Int32) (self55 : Int32 → Int32 → Int32 → Int32 → Int32 → Int32 → Int32 → Option (Int32 × Int32 × Int32)) (y1 : Int32) (y2 : Int32) (y4 : Int32) (k0 : Int32) (v_at : Int32) (v_power : Int32) (v_good : Int32) : Option (Int32 × Int32 × Int32) :=
  f_Mod_exponentRow_128 fu n_v_text v_length v_text_a self55 y1 (y2 + 1) k0 y4 v_at v_power v_good
def f_Mod_exponentRow_93 (fu : Nat) (n_v_text : Nat) (v_length : Int32) (v_text_a : Nat → Int32) (self55 : Int32 → Int32 → Int32 → Int32 → Int32 → Int32 → Int32 → Option (Int32 × Int32 × Int32)) (y1 : Int32) (y2 : Int32) (y3 : Int32) (k0 : Int32) (v_at : Int32) (v_power : Int32) (v_good : Int32) : Option (Int32 × Int32 × Int32) :=
  (if k0 = 0 then
  f_Mod_exponentRow_128 fu n_v_text v_length v_text_a self55 y1 y2 y3 k0 v_at v_power v_good
  else
  (if y3 ≤ 10000000 then
  (f_Mod_look n_v_text v_length v_at v_text_a).bind fun u_5 =>
  (f_Mod_digit u_5 0).bind fun u_6 =>
  f_Mod_exponentRow_124 fu n_v_text v_length v_text_a self55 y1 y2 k0 ((10 * y3) + u_6) v_at v_power v_good
  else
  f_Mod_exponentRow_124 fu n_v_text v_length v_text_a self55 y1 y2 k0 100000000 v_at v_power v_good))
def f_Mod_exponentRow_79 (fu : Nat) (n_v_text : Nat) (v_length : Int32) (v_text_a : Nat → Int32) (self55 : Int32 → Int32 → Int32 → Int32 → Int32 → Int32 → Int32 → Option (Int32 × Int32 × Int32)) (y1 : Int32) (y2 : Int32) (y3 : Int32) (v_at : Int32) (v_power : Int32) (v_good : Int32) : Option (Int32 × Int32 × Int32) :=
  (f_Mod_look n_v_text v_length v_at v_text_a).bind fun u_4 =>
  (if u_4 = 95 then
  f_Mod_exponentRow_93 fu n_v_text v_length v_text_a self55 y1 y2 y3 0 v_at v_power v_good
  else
  f_Mod_exponentRow_93 fu n_v_text v_length v_text_a self55 y1 y2 y3 1 v_at v_power v_good)
def f_Mod_exponentRow_155 (fu : Nat) (n_v_text : Nat) (v_length : Int32) (v_text_a : Nat → Int32)  (y1 : Int32) (y3 : Int32) (v_at : Int32) (v_power : Int32) (v_good : Int32) : Option (Int32 × Int32 × Int32) :=
  (if y1 = 0 then
  some (v_at, v_power + y3, v_good)
  else
  some (v_at, v_power + (-y3), v_good))
def f_Mod_exponentRow_150 (fu : Nat) (n_v_text : Nat) (v_length : Int32) (v_text_a : Nat → Int32)  (y1 : Int32) (y3 : Int32) (v_at : Int32) (v_power : Int32) (v_good : Int32) : Option (Int32 × Int32 × Int32) :=
  f_Mod_exponentRow_155 fu n_v_text v_length v_text_a y1 y3 v_at v_power 0
def f_Mod_exponentRow_141 (fu : Nat) (n_v_text : Nat) (v_length : Int32) (v_text_a : Nat → Int32)  (y1 : Int32) (y2 : Int32) (y3 : Int32) (y4 : Int32) (v_at : Int32) (v_power : Int32) (v_good : Int32) : Option (Int32 × Int32 × Int32) :=
  (if y2 = 0 then
  f_Mod_exponentRow_150 fu n_v_text v_length v_text_a y1 y3 v_at v_power v_good
  else
  (if y4 = 0 then
  f_Mod_exponentRow_150 fu n_v_text v_length v_text_a y1 y3 v_at v_power v_good
  else
  f_Mod_exponentRow_155 fu n_v_text v_length v_text_a y1 y3 v_at v_power v_good))
def f_Mod_exponentRow_55 (fu : Nat) (n_v_text : Nat) (v_length : Int32) (v_text_a : Nat → Int32)  : Nat → Int32 → Int32 → Int32 → Int32 → Int32 → Int32 → Int32 → Option (Int32 × Int32 × Int32)
  | 0, _, _, _, _, _, _, _ => none
  | n + 1, y1, y2, y3, y4, v_at, v_power, v_good =>
  (f_Mod_look n_v_text v_length v_at v_text_a).bind fun u_2 =>
  (f_Mod_digit u_2 0).bind fun u_3 =>
  (if 0 ≤ u_3 then
  f_Mod_exponentRow_79 fu n_v_text v_length v_text_a (f_Mod_exponentRow_55 fu n_v_text v_length v_text_a n) y1 y2 y3 v_at v_power v_good
  else
  (if y2 ≤ 0 then
  f_Mod_exponentRow_141 fu n_v_text v_length v_text_a y1 y2 y3 y4 v_at v_power v_good
  else
  (f_Mod_look n_v_text v_length v_at v_text_a).bind fun u_7 =>
  (if u_7 = 95 then
  f_Mod_exponentRow_79 fu n_v_text v_length v_text_a (f_Mod_exponentRow_55 fu n_v_text v_length v_text_a n) y1 y2 y3 v_at v_power v_good
  else
  f_Mod_exponentRow_141 fu n_v_text v_length v_text_a y1 y2 y3 y4 v_at v_power v_good)))
theorem f_Mod_exponentRow_55_s (fu : Nat) (n_v_text : Nat) (v_length : Int32) (v_text_a : Nat → Int32)  (n : Nat) (y1 : Int32) (y2 : Int32) (y3 : Int32) (y4 : Int32) (v_at : Int32) (v_power : Int32) (v_good : Int32) : f_Mod_exponentRow_55 fu n_v_text v_length v_text_a (n + 1) y1 y2 y3 y4 v_at v_power v_good =
  (f_Mod_look n_v_text v_length v_at v_text_a).bind fun u_2 =>
  (f_Mod_digit u_2 0).bind fun u_3 =>
  (if 0 ≤ u_3 then
  f_Mod_exponentRow_79 fu n_v_text v_length v_text_a (f_Mod_exponentRow_55 fu n_v_text v_length v_text_a n) y1 y2 y3 v_at v_power v_good
  else
  (if y2 ≤ 0 then
  f_Mod_exponentRow_141 fu n_v_text v_length v_text_a y1 y2 y3 y4 v_at v_power v_good
  else
  (f_Mod_look n_v_text v_length v_at v_text_a).bind fun u_7 =>
  (if u_7 = 95 then
  f_Mod_exponentRow_79 fu n_v_text v_length v_text_a (f_Mod_exponentRow_55 fu n_v_text v_length v_text_a n) y1 y2 y3 v_at v_power v_good
  else
  f_Mod_exponentRow_141 fu n_v_text v_length v_text_a y1 y2 y3 y4 v_at v_power v_good))) := rfl
def f_Mod_exponentRow_48 (fu : Nat) (n_v_text : Nat) (v_length : Int32) (v_text_a : Nat → Int32)  (y1 : Int32) (v_at : Int32) (v_power : Int32) (v_good : Int32) : Option (Int32 × Int32 × Int32) :=
  f_Mod_exponentRow_55 fu n_v_text v_length v_text_a fu y1 0 0 0 v_at v_power v_good
def f_Mod_exponentRow_38 (fu : Nat) (n_v_text : Nat) (v_length : Int32) (v_text_a : Nat → Int32)  (y1 : Int32) (v_at : Int32) (v_power : Int32) (v_good : Int32) : Option (Int32 × Int32 × Int32) :=
  f_Mod_exponentRow_48 fu n_v_text v_length v_text_a y1 (v_at + 1) v_power v_good
def f_Mod_exponentRow_24 (fu : Nat) (n_v_text : Nat) (v_length : Int32) (v_text_a : Nat → Int32)  (k0 : Int32) (v_at : Int32) (v_power : Int32) (v_good : Int32) : Option (Int32 × Int32 × Int32) :=
  (if k0 = 0 then
  (f_Mod_look n_v_text v_length v_at v_text_a).bind fun u_8 =>
  (if u_8 = 43 then
  f_Mod_exponentRow_38 fu n_v_text v_length v_text_a k0 v_at v_power v_good
  else
  f_Mod_exponentRow_48 fu n_v_text v_length v_text_a k0 v_at v_power v_good)
  else
  f_Mod_exponentRow_38 fu n_v_text v_length v_text_a k0 v_at v_power v_good)
def f_Mod_exponentRow (fu : Nat) (n_v_text : Nat) (v_length : Int32) (v_at : Int32) (v_power : Int32) (v_good : Int32) (v_text_a : Nat → Int32) : Option (Int32 × Int32 × Int32) :=
  (f_Mod_look n_v_text v_length (v_at + 1) v_text_a).bind fun u_1 =>
  (if u_1 = 45 then
  f_Mod_exponentRow_24 fu n_v_text v_length v_text_a 1 (v_at + 1) v_power v_good
  else
  f_Mod_exponentRow_24 fu n_v_text v_length v_text_a 0 (v_at + 1) v_power v_good)
set_option maxHeartbeats 4000000 in
set_option maxRecDepth 100000 in
theorem c_Mod_exponentRow (l : Launch) (dC : Nat → ClassId) (dI : Nat → Nat → Nat) (cI cC cB cJ : ClassId) (fu : Nat) (sz : Nat) (h_v : Nat) (h_v_text : Nat) (h_v_written : Nat) (h_v_a : Nat) (h_v_b : Nat) (h_v_five : Nat) (h_v_left : Nat) (h_v_right : Nat) (h_v_part : Nat) (n_v_text : Nat) (v_length : Int32) (v_laid : Int32) (v_gone : Int32) (v_thrown : Int32) (v_were : Int32) (v_none : Int32) (v_beyond : Int32) (v_aMany : Int32) (v_bMany : Int32) (v_fiveMany : Int32) (v_leftMany : Int32) (v_rightMany : Int32) (v_partMany : Int32) (v_twos : Int32) (v_at : Int32) (v_digits : Int32) (v_power : Int32) (v_good : Int32) (v_text_a : Nat → Int32) (u : Int32 × Int32 × Int32) (hf : f_Mod_exponentRow fu n_v_text v_length v_at v_power v_good v_text_a = some u) : Met l y_Mod_exponentRow ws_Mod_exponentRow rm_Mod_exponentRow (zz_P zz_T (dC, dI) vwCl (zz_tys cI cC cB cJ) [.ref h_v] [(h_v, .inr (7, [.ref h_v_text, .ref h_v_written, .int v_length, .int v_laid, .int v_gone, .int v_thrown, .int v_were, .int v_none, .int v_beyond, .ref h_v_a, .ref h_v_b, .ref h_v_five, .ref h_v_left, .ref h_v_right, .ref h_v_part, .int v_aMany, .int v_bMany, .int v_fiveMany, .int v_leftMany, .int v_rightMany, .int v_partMany, .int v_twos, .int v_at, .int v_digits, .int v_power, .int v_good])), (h_v_text, .inl (cI, n_v_text, .inl v_text_a))] sz) (zz_Qv (dC, dI) vwCl [(h_v, .inr (7, [.ref h_v_text, .ref h_v_written, .int v_length, .int v_laid, .int v_gone, .int v_thrown, .int v_were, .int v_none, .int v_beyond, .ref h_v_a, .ref h_v_b, .ref h_v_five, .ref h_v_left, .ref h_v_right, .ref h_v_part, .int v_aMany, .int v_bMany, .int v_fiveMany, .int v_leftMany, .int v_rightMany, .int v_partMany, .int v_twos, .int u.1, .int v_digits, .int u.2.1, .int u.2.2])), (h_v_text, .inl (cI, n_v_text, .inl v_text_a))] (va_A [(h_v, .inr (7, [.ref h_v_text, .ref h_v_written, .int v_length, .int v_laid, .int v_gone, .int v_thrown, .int v_were, .int v_none, .int v_beyond, .ref h_v_a, .ref h_v_b, .ref h_v_five, .ref h_v_left, .ref h_v_right, .ref h_v_part, .int v_aMany, .int v_bMany, .int v_fiveMany, .int v_leftMany, .int v_rightMany, .int v_partMany, .int v_twos, .int v_at, .int v_digits, .int v_power, .int v_good])), (h_v_text, .inl (cI, n_v_text, .inl v_text_a))] sz)) 0 0 (va_A [(h_v, .inr (7, [.ref h_v_text, .ref h_v_written, .int v_length, .int v_laid, .int v_gone, .int v_thrown, .int v_were, .int v_none, .int v_beyond, .ref h_v_a, .ref h_v_b, .ref h_v_five, .ref h_v_left, .ref h_v_right, .ref h_v_part, .int v_aMany, .int v_bMany, .int v_fiveMany, .int v_leftMany, .int v_rightMany, .int v_partMany, .int v_twos, .int v_at, .int v_digits, .int v_power, .int v_good])), (h_v_text, .inl (cI, n_v_text, .inl v_text_a))] sz) := by
  refine Met.ofW (cc := prog_10_method_21_code) (maxL := 5) (ret := none) (by decide +kernel) rfl ?_
  intro p e s m args below meth c s₁ B hml hv
  obtain ⟨rfl, hsz, hP, hK, hD0, hX⟩ := hv
  have hx := B.exec
  have hb := B.bytes
  have hr := B.returns
  have hts := atoms_spec (ws := ws_Mod_exponentRow) B.pre
  have hw : ∀ w ∈ zw, w.before [.ref h_v].toArray s = true := fun w h => hts w (List.mem_cons_of_mem _ h)
  have hown : s.vm.findClass R_Mod = some m.cls := findClass_of_methodNamed B.named
  have hlocks := B.notSynchronized
  subst hsz
  have hD := hD0.self (sz := s.heap.size)
  generalize hAe : va_A [(h_v, .inr (7, [.ref h_v_text, .ref h_v_written, .int v_length, .int v_laid, .int v_gone, .int v_thrown, .int v_were, .int v_none, .int v_beyond, .ref h_v_a, .ref h_v_b, .ref h_v_five, .ref h_v_left, .ref h_v_right, .ref h_v_part, .int v_aMany, .int v_bMany, .int v_fiveMany, .int v_leftMany, .int v_rightMany, .int v_partMany, .int v_twos, .int v_at, .int v_digits, .int v_power, .int v_good])), (h_v_text, .inl (cI, n_v_text, .inl v_text_a))] s.heap.size = A at hD hX ⊢
  have hA : ∀ q : Nat, s.heap.size ≤ q → A q := fun q h => by rw [← hAe]; exact Or.inr h
  have hS : va_S A s.heap s.heap [] := va_S.rf
  have hl := lv_entry [.ref h_v] (n := 5) (Nat.le_of_ble_eq_true rfl)
  rw [lg_entry_eq]
  generalize (lg_sl [.ref h_v] ++ List.replicate (5 - (lg_sl [.ref h_v]).length) Slot.unset).toArray = ls at hl ⊢
  have hl : lv_has ls 5 [(0, .ref h_v)] := hl
  refine zz_endv hx hb hr hlocks (fun Qq hend => ?_)
  have hL_128 : ∀ (self55 : Int32 → Int32 → Int32 → Int32 → Int32 → Int32 → Int32 → Option (Int32 × Int32 × Int32)), (∀ (y1 : Int32) (y2 : Int32) (y3 : Int32) (y4 : Int32) (v_at : Int32) (v_power : Int32) (v_good : Int32) (ls : Array Slot) (H : Heap) (locs : List Loc), lv_has ls 5 [(0, .ref h_v), (1, .int y1), (2, .int y2), (3, .int y3), (4, .int y4)] → va_P (dC, dI) vwCl [(h_v, .inr (7, [.ref h_v_text, .ref h_v_written, .int v_length, .int v_laid, .int v_gone, .int v_thrown, .int v_were, .int v_none, .int v_beyond, .ref h_v_a, .ref h_v_b, .ref h_v_five, .ref h_v_left, .ref h_v_right, .ref h_v_part, .int v_aMany, .int v_bMany, .int v_fiveMany, .int v_leftMany, .int v_rightMany, .int v_partMany, .int v_twos, .int v_at, .int v_digits, .int v_power, .int v_good])), (h_v_text, .inl (cI, n_v_text, .inl v_text_a))] H → va_D A [(h_v, .inr (7, [.ref h_v_text, .ref h_v_written, .int v_length, .int v_laid, .int v_gone, .int v_thrown, .int v_were, .int v_none, .int v_beyond, .ref h_v_a, .ref h_v_b, .ref h_v_five, .ref h_v_left, .ref h_v_right, .ref h_v_part, .int v_aMany, .int v_bMany, .int v_fiveMany, .int v_leftMany, .int v_rightMany, .int v_partMany, .int v_twos, .int v_at, .int v_digits, .int v_power, .int v_good])), (h_v_text, .inl (cI, n_v_text, .inl v_text_a))] → va_S A s.heap H locs → self55 y1 y2 y3 y4 v_at v_power v_good = some u → W p l e (headSpec ws_Mod_exponentRow rm_Mod_exponentRow).room s m [.ref h_v].toArray below meth c H locs 0 0 Qq (F0 m 55 ls [])) → ∀ (y1 : Int32) (y2 : Int32) (y3 : Int32) (y4 : Int32) (v_at : Int32) (v_power : Int32) (v_good : Int32) (ls : Array Slot) (H : Heap) (locs : List Loc), lv_has ls 5 [(0, .ref h_v), (1, .int y1), (2, .int y2), (3, .int y3), (4, .int y4)] → va_P (dC, dI) vwCl [(h_v, .inr (7, [.ref h_v_text, .ref h_v_written, .int v_length, .int v_laid, .int v_gone, .int v_thrown, .int v_were, .int v_none, .int v_beyond, .ref h_v_a, .ref h_v_b, .ref h_v_five, .ref h_v_left, .ref h_v_right, .ref h_v_part, .int v_aMany, .int v_bMany, .int v_fiveMany, .int v_leftMany, .int v_rightMany, .int v_partMany, .int v_twos, .int v_at, .int v_digits, .int v_power, .int v_good])), (h_v_text, .inl (cI, n_v_text, .inl v_text_a))] H → va_D A [(h_v, .inr (7, [.ref h_v_text, .ref h_v_written, .int v_length, .int v_laid, .int v_gone, .int v_thrown, .int v_were, .int v_none, .int v_beyond, .ref h_v_a, .ref h_v_b, .ref h_v_five, .ref h_v_left, .ref h_v_right, .ref h_v_part, .int v_aMany, .int v_bMany, .int v_fiveMany, .int v_leftMany, .int v_rightMany, .int v_partMany, .int v_twos, .int v_at, .int v_digits, .int v_power, .int v_good])), (h_v_text, .inl (cI, n_v_text, .inl v_text_a))] → va_S A s.heap H locs → f_Mod_exponentRow_128 fu n_v_text v_length v_text_a self55 y1 y2 y3 y4 v_at v_power v_good = some u → W p l e (headSpec ws_Mod_exponentRow rm_Mod_exponentRow).room s m [.ref h_v].toArray below meth c H locs 0 0 Qq (F0 m 128 ls []) := by
    intro self55 hs55
    intro y1 y2 y3 y4 v_at v_power v_good ls H locs hl hP hD hS hf
    unfold f_Mod_exponentRow_128 at hf
    refine lv_aload_n hx hb d_Mod_exponentRow_128 rfl (lv_at hl 0 rfl) ?_
    refine lv_dup hx hb d_Mod_exponentRow_129 rfl ?_
    refine va_get (D := (dC, dI)) (ci := 7) (v := .int v_at) (C := R_Mod) (T := T_Mod) (N := 26) hx hb hw in_Mod hown hK hP 0 rfl rfl 22 (by decide) (hw _ wd_695) (fun _ h9 => h9) rfl d_Mod_exponentRow_130 ?_
    refine lv_iconst (v := 1) hx hb d_Mod_exponentRow_133 (by decide) ?_
    refine lv_iadd hx hb d_Mod_exponentRow_134 ?_
    refine va_put (D := (dC, dI)) (ci := 7) (v := .int (v_at + 1)) (ty := .int) (C := R_Mod) (T := T_Mod) (N := 26) hx hb hw in_Mod ty_Mod tyok_Mod nm_Mod hown hK hP hD hS 0 rfl rfl 22 (by decide) (hw _ wd_695) (fun _ h9 => h9) rfl (tyok_Mod 22 (by decide)) rfl rfl (Nat.le_of_ble_eq_true rfl) d_Mod_exponentRow_135 (fun H locs hP hD hS => ?_)
    have hP : va_P (dC, dI) vwCl [(h_v, .inr (7, [.ref h_v_text, .ref h_v_written, .int v_length, .int v_laid, .int v_gone, .int v_thrown, .int v_were, .int v_none, .int v_beyond, .ref h_v_a, .ref h_v_b, .ref h_v_five, .ref h_v_left, .ref h_v_right, .ref h_v_part, .int v_aMany, .int v_bMany, .int v_fiveMany, .int v_leftMany, .int v_rightMany, .int v_partMany, .int v_twos, .int (v_at + 1), .int v_digits, .int v_power, .int v_good])), (h_v_text, .inl (cI, n_v_text, .inl v_text_a))] H := hP
    have hD : va_D A [(h_v, .inr (7, [.ref h_v_text, .ref h_v_written, .int v_length, .int v_laid, .int v_gone, .int v_thrown, .int v_were, .int v_none, .int v_beyond, .ref h_v_a, .ref h_v_b, .ref h_v_five, .ref h_v_left, .ref h_v_right, .ref h_v_part, .int v_aMany, .int v_bMany, .int v_fiveMany, .int v_leftMany, .int v_rightMany, .int v_partMany, .int v_twos, .int (v_at + 1), .int v_digits, .int v_power, .int v_good])), (h_v_text, .inl (cI, n_v_text, .inl v_text_a))] := hD
    refine lv_goto (tgt := 55) hx hb d_Mod_exponentRow_138 (by decide) ?_
    exact hs55 y1 y2 y3 y4 (v_at + 1) v_power v_good ls _ _ (lv_sub hl [0, 1, 2, 3, 4] rfl) hP hD hS hf
  have hL_124 : ∀ (self55 : Int32 → Int32 → Int32 → Int32 → Int32 → Int32 → Int32 → Option (Int32 × Int32 × Int32)), (∀ (y1 : Int32) (y2 : Int32) (y3 : Int32) (y4 : Int32) (v_at : Int32) (v_power : Int32) (v_good : Int32) (ls : Array Slot) (H : Heap) (locs : List Loc), lv_has ls 5 [(0, .ref h_v), (1, .int y1), (2, .int y2), (3, .int y3), (4, .int y4)] → va_P (dC, dI) vwCl [(h_v, .inr (7, [.ref h_v_text, .ref h_v_written, .int v_length, .int v_laid, .int v_gone, .int v_thrown, .int v_were, .int v_none, .int v_beyond, .ref h_v_a, .ref h_v_b, .ref h_v_five, .ref h_v_left, .ref h_v_right, .ref h_v_part, .int v_aMany, .int v_bMany, .int v_fiveMany, .int v_leftMany, .int v_rightMany, .int v_partMany, .int v_twos, .int v_at, .int v_digits, .int v_power, .int v_good])), (h_v_text, .inl (cI, n_v_text, .inl v_text_a))] H → va_D A [(h_v, .inr (7, [.ref h_v_text, .ref h_v_written, .int v_length, .int v_laid, .int v_gone, .int v_thrown, .int v_were, .int v_none, .int v_beyond, .ref h_v_a, .ref h_v_b, .ref h_v_five, .ref h_v_left, .ref h_v_right, .ref h_v_part, .int v_aMany, .int v_bMany, .int v_fiveMany, .int v_leftMany, .int v_rightMany, .int v_partMany, .int v_twos, .int v_at, .int v_digits, .int v_power, .int v_good])), (h_v_text, .inl (cI, n_v_text, .inl v_text_a))] → va_S A s.heap H locs → self55 y1 y2 y3 y4 v_at v_power v_good = some u → W p l e (headSpec ws_Mod_exponentRow rm_Mod_exponentRow).room s m [.ref h_v].toArray below meth c H locs 0 0 Qq (F0 m 55 ls [])) → ∀ (y1 : Int32) (y2 : Int32) (y4 : Int32) (k0 : Int32) (v_at : Int32) (v_power : Int32) (v_good : Int32) (ls : Array Slot) (H : Heap) (locs : List Loc), lv_has ls 5 [(0, .ref h_v), (1, .int y1), (2, .int y2), (4, .int y4)] → va_P (dC, dI) vwCl [(h_v, .inr (7, [.ref h_v_text, .ref h_v_written, .int v_length, .int v_laid, .int v_gone, .int v_thrown, .int v_were, .int v_none, .int v_beyond, .ref h_v_a, .ref h_v_b, .ref h_v_five, .ref h_v_left, .ref h_v_right, .ref h_v_part, .int v_aMany, .int v_bMany, .int v_fiveMany, .int v_leftMany, .int v_rightMany, .int v_partMany, .int v_twos, .int v_at, .int v_digits, .int v_power, .int v_good])), (h_v_text, .inl (cI, n_v_text, .inl v_text_a))] H → va_D A [(h_v, .inr (7, [.ref h_v_text, .ref h_v_written, .int v_length, .int v_laid, .int v_gone, .int v_thrown, .int v_were, .int v_none, .int v_beyond, .ref h_v_a, .ref h_v_b, .ref h_v_five, .ref h_v_left, .ref h_v_right, .ref h_v_part, .int v_aMany, .int v_bMany, .int v_fiveMany, .int v_leftMany, .int v_rightMany, .int v_partMany, .int v_twos, .int v_at, .int v_digits, .int v_power, .int v_good])), (h_v_text, .inl (cI, n_v_text, .inl v_text_a))] → va_S A s.heap H locs → f_Mod_exponentRow_124 fu n_v_text v_length v_text_a self55 y1 y2 y4 k0 v_at v_power v_good = some u → W p l e (headSpec ws_Mod_exponentRow rm_Mod_exponentRow).room s m [.ref h_v].toArray below meth c H locs 0 0 Qq (F0 m 124 ls [.int k0]) := by
    intro self55 hs55
    intro y1 y2 y4 k0 v_at v_power v_good ls H locs hl hP hD hS hf
    unfold f_Mod_exponentRow_124 at hf
    refine lv_istore_n hx hb d_Mod_exponentRow_124 rfl hl (by decide) rfl (fun ls hl => ?_)
    have hl : lv_has ls 5 [(3, .int k0), (0, .ref h_v), (1, .int y1), (2, .int y2), (4, .int y4)] := hl
    refine lv_iinc (k := 3) (v := y2 + 1) hx hb d_Mod_exponentRow_125 hl rfl rfl (by decide) rfl (fun ls hl => ?_)
    have hl : lv_has ls 5 [(2, .int (y2 + 1)), (3, .int k0), (0, .ref h_v), (1, .int y1), (4, .int y4)] := hl
    exact hL_128 _ hs55 y1 (y2 + 1) k0 y4 v_at v_power v_good ls _ _ (lv_sub hl [2, 3, 0, 1, 4] rfl) hP hD hS hf
  have hL_93 : ∀ (self55 : Int32 → Int32 → Int32 → Int32 → Int32 → Int32 → Int32 → Option (Int32 × Int32 × Int32)), (∀ (y1 : Int32) (y2 : Int32) (y3 : Int32) (y4 : Int32) (v_at : Int32) (v_power : Int32) (v_good : Int32) (ls : Array Slot) (H : Heap) (locs : List Loc), lv_has ls 5 [(0, .ref h_v), (1, .int y1), (2, .int y2), (3, .int y3), (4, .int y4)] → va_P (dC, dI) vwCl [(h_v, .inr (7, [.ref h_v_text, .ref h_v_written, .int v_length, .int v_laid, .int v_gone, .int v_thrown, .int v_were, .int v_none, .int v_beyond, .ref h_v_a, .ref h_v_b, .ref h_v_five, .ref h_v_left, .ref h_v_right, .ref h_v_part, .int v_aMany, .int v_bMany, .int v_fiveMany, .int v_leftMany, .int v_rightMany, .int v_partMany, .int v_twos, .int v_at, .int v_digits, .int v_power, .int v_good])), (h_v_text, .inl (cI, n_v_text, .inl v_text_a))] H → va_D A [(h_v, .inr (7, [.ref h_v_text, .ref h_v_written, .int v_length, .int v_laid, .int v_gone, .int v_thrown, .int v_were, .int v_none, .int v_beyond, .ref h_v_a, .ref h_v_b, .ref h_v_five, .ref h_v_left, .ref h_v_right, .ref h_v_part, .int v_aMany, .int v_bMany, .int v_fiveMany, .int v_leftMany, .int v_rightMany, .int v_partMany, .int v_twos, .int v_at, .int v_digits, .int v_power, .int v_good])), (h_v_text, .inl (cI, n_v_text, .inl v_text_a))] → va_S A s.heap H locs → self55 y1 y2 y3 y4 v_at v_power v_good = some u → W p l e (headSpec ws_Mod_exponentRow rm_Mod_exponentRow).room s m [.ref h_v].toArray below meth c H locs 0 0 Qq (F0 m 55 ls [])) → ∀ (y1 : Int32) (y2 : Int32) (y3 : Int32) (k0 : Int32) (v_at : Int32) (v_power : Int32) (v_good : Int32) (ls : Array Slot) (H : Heap) (locs : List Loc), lv_has ls 5 [(0, .ref h_v), (1, .int y1), (2, .int y2), (3, .int y3)] → va_P (dC, dI) vwCl [(h_v, .inr (7, [.ref h_v_text, .ref h_v_written, .int v_length, .int v_laid, .int v_gone, .int v_thrown, .int v_were, .int v_none, .int v_beyond, .ref h_v_a, .ref h_v_b, .ref h_v_five, .ref h_v_left, .ref h_v_right, .ref h_v_part, .int v_aMany, .int v_bMany, .int v_fiveMany, .int v_leftMany, .int v_rightMany, .int v_partMany, .int v_twos, .int v_at, .int v_digits, .int v_power, .int v_good])), (h_v_text, .inl (cI, n_v_text, .inl v_text_a))] H → va_D A [(h_v, .inr (7, [.ref h_v_text, .ref h_v_written, .int v_length, .int v_laid, .int v_gone, .int v_thrown, .int v_were, .int v_none, .int v_beyond, .ref h_v_a, .ref h_v_b, .ref h_v_five, .ref h_v_left, .ref h_v_right, .ref h_v_part, .int v_aMany, .int v_bMany, .int v_fiveMany, .int v_leftMany, .int v_rightMany, .int v_partMany, .int v_twos, .int v_at, .int v_digits, .int v_power, .int v_good])), (h_v_text, .inl (cI, n_v_text, .inl v_text_a))] → va_S A s.heap H locs → f_Mod_exponentRow_93 fu n_v_text v_length v_text_a self55 y1 y2 y3 k0 v_at v_power v_good = some u → W p l e (headSpec ws_Mod_exponentRow rm_Mod_exponentRow).room s m [.ref h_v].toArray below meth c H locs 0 0 Qq (F0 m 93 ls [.int k0]) := by
    intro self55 hs55
    intro y1 y2 y3 k0 v_at v_power v_good ls H locs hl hP hD hS hf
    unfold f_Mod_exponentRow_93 at hf
    refine lv_istore hx hb d_Mod_exponentRow_93 hl (by decide) rfl (fun ls hl => ?_)
    have hl : lv_has ls 5 [(4, .int k0), (0, .ref h_v), (1, .int y1), (2, .int y2), (3, .int y3)] := hl
    refine lv_iload hx hb d_Mod_exponentRow_95 (lv_at hl 0 rfl) ?_
    refine lv_if_eq (tgt := 128) hx hb d_Mod_exponentRow_97 (by decide) (fun hc => ?_) (fun hc => ?_)
    · have hf := zz_ifp hc hf
      exact hL_128 _ hs55 y1 y2 y3 k0 v_at v_power v_good ls _ _ (lv_sub hl [1, 2, 3, 4, 0] rfl) hP hD hS hf
    · have hf := zz_ifn hc hf
      refine lv_iload_n hx hb d_Mod_exponentRow_100 rfl (lv_at hl 4 rfl) ?_
      refine lv_ldc (v := 10000000) hx hb hown (hw _ wd_801) d_Mod_exponentRow_101 ?_
      refine lv_icmp_le (tgt := 111) hx hb d_Mod_exponentRow_103 (by decide) (fun hc => ?_) (fun hc => ?_)
      · have hf := zz_ifp hc hf
        refine lv_bipush (v := 10) hx hb d_Mod_exponentRow_111 (by decide) ?_
        refine lv_iload_n hx hb d_Mod_exponentRow_113 rfl (lv_at hl 4 rfl) ?_
        refine lv_imul hx hb d_Mod_exponentRow_114 ?_
        refine lv_aload_n hx hb d_Mod_exponentRow_115 rfl (lv_at hl 1 rfl) ?_
        obtain ⟨u_5, hu_5, hf⟩ := zz_bd hf
        refine zz_ci (ws' := [(h_v, .inr (7, [.ref h_v_text, .ref h_v_written, .int v_length, .int v_laid, .int v_gone, .int v_thrown, .int v_were, .int v_none, .int v_beyond, .ref h_v_a, .ref h_v_b, .ref h_v_five, .ref h_v_left, .ref h_v_right, .ref h_v_part, .int v_aMany, .int v_bMany, .int v_fiveMany, .int v_leftMany, .int v_rightMany, .int v_partMany, .int v_twos, .int v_at, .int v_digits, .int v_power, .int v_good])), (h_v_text, .inl (cI, n_v_text, .inl v_text_a))]) (wc := [(h_v, .inr (7, [.ref h_v_text, .ref h_v_written, .int v_length, .int v_laid, .int v_gone, .int v_thrown, .int v_were, .int v_none, .int v_beyond, .ref h_v_a, .ref h_v_b, .ref h_v_five, .ref h_v_left, .ref h_v_right, .ref h_v_part, .int v_aMany, .int v_bMany, .int v_fiveMany, .int v_leftMany, .int v_rightMany, .int v_partMany, .int v_twos, .int v_at, .int v_digits, .int v_power, .int v_good])), (h_v_text, .inl (cI, n_v_text, .inl v_text_a))]) (w' := [(h_v, .inr (7, [.ref h_v_text, .ref h_v_written, .int v_length, .int v_laid, .int v_gone, .int v_thrown, .int v_were, .int v_none, .int v_beyond, .ref h_v_a, .ref h_v_b, .ref h_v_five, .ref h_v_left, .ref h_v_right, .ref h_v_part, .int v_aMany, .int v_bMany, .int v_fiveMany, .int v_leftMany, .int v_rightMany, .int v_partMany, .int v_twos, .int v_at, .int v_digits, .int v_power, .int v_good])), (h_v_text, .inl (cI, n_v_text, .inl v_text_a))]) hP hD hS hA [0, 1] [] [0, 1] rfl rfl (by decide) (by decide) rfl (by decide) (va_runV (As := []) (rest := [.int (10 * y3)]) ⟨hx, hb, hml, hown, hw⟩ (c_Mod_look l dC dI cI cC cB cJ _ h_v h_v_text h_v_written h_v_a h_v_b h_v_five h_v_left h_v_right h_v_part n_v_text v_length v_laid v_gone v_thrown v_were v_none v_beyond v_aMany v_bMany v_fiveMany v_leftMany v_rightMany v_partMany v_twos v_at v_digits v_power v_good v_text_a u_5 hu_5) (cwV 0 hw (zg_V wd_783 wd_785 we_1_13 wd_8 wd_786) rfl rfl rfl hd_Mod_look ⟨Nat.le_of_ble_eq_true rfl, Nat.le_of_ble_eq_true rfl⟩) (zz_preV zz_TE (va_recv (q0 := 0) (ci := 7) hK hP rfl rfl) hP hD hK hS hA trivial [0, 1] rfl (by decide)) rfl rfl hl.1 rfl (lv_room (Nat.le_of_ble_eq_true rfl)) d_Mod_exponentRow_116 ⟨Nat.zero_le _, Nat.zero_le _⟩) (fun H locs hP hD hS => ?_)
        refine lv_iconst (v := 0) hx hb d_Mod_exponentRow_119 (by decide) ?_
        obtain ⟨u_6, hu_6, hf⟩ := zz_bd hf
        refine zz_ci (ws' := [(h_v, .inr (7, [.ref h_v_text, .ref h_v_written, .int v_length, .int v_laid, .int v_gone, .int v_thrown, .int v_were, .int v_none, .int v_beyond, .ref h_v_a, .ref h_v_b, .ref h_v_five, .ref h_v_left, .ref h_v_right, .ref h_v_part, .int v_aMany, .int v_bMany, .int v_fiveMany, .int v_leftMany, .int v_rightMany, .int v_partMany, .int v_twos, .int v_at, .int v_digits, .int v_power, .int v_good])), (h_v_text, .inl (cI, n_v_text, .inl v_text_a))]) (wc := []) (w' := []) hP hD hS hA [] [0, 1] [0, 1] rfl rfl (by decide) (by decide) rfl (by decide) (va_runS (As := [.int u_5, .int 0]) (rest := [.int (10 * y3)]) ⟨hx, hb, hml, hown, hw⟩ (c_Mod_digit l dC dI cI cC cB cJ _ u_5 0 u_6 hu_6) (va_cwS 2 hw (zg_S wd_787 wd_788 wd_8 wd_789) rfl rfl rfl hd_Mod_digit ⟨Nat.le_of_ble_eq_true rfl, Nat.le_of_ble_eq_true rfl⟩) (zz_preS zz_TE hP hD hK hS hA trivial [] rfl (by decide)) rfl rfl hl.1 rfl (lv_room (Nat.le_of_ble_eq_true rfl)) d_Mod_exponentRow_120 ⟨Nat.zero_le _, Nat.zero_le _⟩) (fun H locs hP hD hS => ?_)
        refine lv_iadd hx hb d_Mod_exponentRow_123 ?_
        exact hL_124 _ hs55 y1 y2 k0 ((10 * y3) + u_6) v_at v_power v_good ls _ _ (lv_sub hl [1, 2, 3, 0] rfl) hP hD hS hf
      · have hf := zz_ifn hc hf
        refine lv_ldc (v := 100000000) hx hb hown (hw _ wd_802) d_Mod_exponentRow_106 ?_
        refine lv_goto (tgt := 124) hx hb d_Mod_exponentRow_108 (by decide) ?_
        exact hL_124 _ hs55 y1 y2 k0 100000000 v_at v_power v_good ls _ _ (lv_sub hl [1, 2, 3, 0] rfl) hP hD hS hf
  have hL_79 : ∀ (self55 : Int32 → Int32 → Int32 → Int32 → Int32 → Int32 → Int32 → Option (Int32 × Int32 × Int32)), (∀ (y1 : Int32) (y2 : Int32) (y3 : Int32) (y4 : Int32) (v_at : Int32) (v_power : Int32) (v_good : Int32) (ls : Array Slot) (H : Heap) (locs : List Loc), lv_has ls 5 [(0, .ref h_v), (1, .int y1), (2, .int y2), (3, .int y3), (4, .int y4)] → va_P (dC, dI) vwCl [(h_v, .inr (7, [.ref h_v_text, .ref h_v_written, .int v_length, .int v_laid, .int v_gone, .int v_thrown, .int v_were, .int v_none, .int v_beyond, .ref h_v_a, .ref h_v_b, .ref h_v_five, .ref h_v_left, .ref h_v_right, .ref h_v_part, .int v_aMany, .int v_bMany, .int v_fiveMany, .int v_leftMany, .int v_rightMany, .int v_partMany, .int v_twos, .int v_at, .int v_digits, .int v_power, .int v_good])), (h_v_text, .inl (cI, n_v_text, .inl v_text_a))] H → va_D A [(h_v, .inr (7, [.ref h_v_text, .ref h_v_written, .int v_length, .int v_laid, .int v_gone, .int v_thrown, .int v_were, .int v_none, .int v_beyond, .ref h_v_a, .ref h_v_b, .ref h_v_five, .ref h_v_left, .ref h_v_right, .ref h_v_part, .int v_aMany, .int v_bMany, .int v_fiveMany, .int v_leftMany, .int v_rightMany, .int v_partMany, .int v_twos, .int v_at, .int v_digits, .int v_power, .int v_good])), (h_v_text, .inl (cI, n_v_text, .inl v_text_a))] → va_S A s.heap H locs → self55 y1 y2 y3 y4 v_at v_power v_good = some u → W p l e (headSpec ws_Mod_exponentRow rm_Mod_exponentRow).room s m [.ref h_v].toArray below meth c H locs 0 0 Qq (F0 m 55 ls [])) → ∀ (y1 : Int32) (y2 : Int32) (y3 : Int32) (v_at : Int32) (v_power : Int32) (v_good : Int32) (ls : Array Slot) (H : Heap) (locs : List Loc), lv_has ls 5 [(0, .ref h_v), (1, .int y1), (2, .int y2), (3, .int y3)] → va_P (dC, dI) vwCl [(h_v, .inr (7, [.ref h_v_text, .ref h_v_written, .int v_length, .int v_laid, .int v_gone, .int v_thrown, .int v_were, .int v_none, .int v_beyond, .ref h_v_a, .ref h_v_b, .ref h_v_five, .ref h_v_left, .ref h_v_right, .ref h_v_part, .int v_aMany, .int v_bMany, .int v_fiveMany, .int v_leftMany, .int v_rightMany, .int v_partMany, .int v_twos, .int v_at, .int v_digits, .int v_power, .int v_good])), (h_v_text, .inl (cI, n_v_text, .inl v_text_a))] H → va_D A [(h_v, .inr (7, [.ref h_v_text, .ref h_v_written, .int v_length, .int v_laid, .int v_gone, .int v_thrown, .int v_were, .int v_none, .int v_beyond, .ref h_v_a, .ref h_v_b, .ref h_v_five, .ref h_v_left, .ref h_v_right, .ref h_v_part, .int v_aMany, .int v_bMany, .int v_fiveMany, .int v_leftMany, .int v_rightMany, .int v_partMany, .int v_twos, .int v_at, .int v_digits, .int v_power, .int v_good])), (h_v_text, .inl (cI, n_v_text, .inl v_text_a))] → va_S A s.heap H locs → f_Mod_exponentRow_79 fu n_v_text v_length v_text_a self55 y1 y2 y3 v_at v_power v_good = some u → W p l e (headSpec ws_Mod_exponentRow rm_Mod_exponentRow).room s m [.ref h_v].toArray below meth c H locs 0 0 Qq (F0 m 79 ls []) := by
    intro self55 hs55
    intro y1 y2 y3 v_at v_power v_good ls H locs hl hP hD hS hf
    unfold f_Mod_exponentRow_79 at hf
    refine lv_aload_n hx hb d_Mod_exponentRow_79 rfl (lv_at hl 0 rfl) ?_
    obtain ⟨u_4, hu_4, hf⟩ := zz_bd hf
    refine zz_ci (ws' := [(h_v, .inr (7, [.ref h_v_text, .ref h_v_written, .int v_length, .int v_laid, .int v_gone, .int v_thrown, .int v_were, .int v_none, .int v_beyond, .ref h_v_a, .ref h_v_b, .ref h_v_five, .ref h_v_left, .ref h_v_right, .ref h_v_part, .int v_aMany, .int v_bMany, .int v_fiveMany, .int v_leftMany, .int v_rightMany, .int v_partMany, .int v_twos, .int v_at, .int v_digits, .int v_power, .int v_good])), (h_v_text, .inl (cI, n_v_text, .inl v_text_a))]) (wc := [(h_v, .inr (7, [.ref h_v_text, .ref h_v_written, .int v_length, .int v_laid, .int v_gone, .int v_thrown, .int v_were, .int v_none, .int v_beyond, .ref h_v_a, .ref h_v_b, .ref h_v_five, .ref h_v_left, .ref h_v_right, .ref h_v_part, .int v_aMany, .int v_bMany, .int v_fiveMany, .int v_leftMany, .int v_rightMany, .int v_partMany, .int v_twos, .int v_at, .int v_digits, .int v_power, .int v_good])), (h_v_text, .inl (cI, n_v_text, .inl v_text_a))]) (w' := [(h_v, .inr (7, [.ref h_v_text, .ref h_v_written, .int v_length, .int v_laid, .int v_gone, .int v_thrown, .int v_were, .int v_none, .int v_beyond, .ref h_v_a, .ref h_v_b, .ref h_v_five, .ref h_v_left, .ref h_v_right, .ref h_v_part, .int v_aMany, .int v_bMany, .int v_fiveMany, .int v_leftMany, .int v_rightMany, .int v_partMany, .int v_twos, .int v_at, .int v_digits, .int v_power, .int v_good])), (h_v_text, .inl (cI, n_v_text, .inl v_text_a))]) hP hD hS hA [0, 1] [] [0, 1] rfl rfl (by decide) (by decide) rfl (by decide) (va_runV (As := []) (rest := []) ⟨hx, hb, hml, hown, hw⟩ (c_Mod_look l dC dI cI cC cB cJ _ h_v h_v_text h_v_written h_v_a h_v_b h_v_five h_v_left h_v_right h_v_part n_v_text v_length v_laid v_gone v_thrown v_were v_none v_beyond v_aMany v_bMany v_fiveMany v_leftMany v_rightMany v_partMany v_twos v_at v_digits v_power v_good v_text_a u_4 hu_4) (cwV 0 hw (zg_V wd_783 wd_785 we_1_13 wd_8 wd_786) rfl rfl rfl hd_Mod_look ⟨Nat.le_of_ble_eq_true rfl, Nat.le_of_ble_eq_true rfl⟩) (zz_preV zz_TE (va_recv (q0 := 0) (ci := 7) hK hP rfl rfl) hP hD hK hS hA trivial [0, 1] rfl (by decide)) rfl rfl hl.1 rfl (lv_room (Nat.le_of_ble_eq_true rfl)) d_Mod_exponentRow_80 ⟨Nat.zero_le _, Nat.zero_le _⟩) (fun H locs hP hD hS => ?_)
    refine lv_bipush (v := 95) hx hb d_Mod_exponentRow_83 (by decide) ?_
    refine lv_icmp_eq (tgt := 92) hx hb d_Mod_exponentRow_85 (by decide) (fun hc => ?_) (fun hc => ?_)
    · have hf := zz_ifp hc hf
      refine lv_iconst (v := 0) hx hb d_Mod_exponentRow_92 (by decide) ?_
      exact hL_93 _ hs55 y1 y2 y3 0 v_at v_power v_good ls _ _ (lv_sub hl [0, 1, 2, 3] rfl) hP hD hS hf
    · have hf := zz_ifn hc hf
      refine lv_iconst (v := 1) hx hb d_Mod_exponentRow_88 (by decide) ?_
      refine lv_goto (tgt := 93) hx hb d_Mod_exponentRow_89 (by decide) ?_
      exact hL_93 _ hs55 y1 y2 y3 1 v_at v_power v_good ls _ _ (lv_sub hl [0, 1, 2, 3] rfl) hP hD hS hf
  have hL_155 : ∀ (y1 : Int32) (y3 : Int32) (v_at : Int32) (v_power : Int32) (v_good : Int32) (ls : Array Slot) (H : Heap) (locs : List Loc), lv_has ls 5 [(0, .ref h_v), (1, .int y1), (3, .int y3)] → va_P (dC, dI) vwCl [(h_v, .inr (7, [.ref h_v_text, .ref h_v_written, .int v_length, .int v_laid, .int v_gone, .int v_thrown, .int v_were, .int v_none, .int v_beyond, .ref h_v_a, .ref h_v_b, .ref h_v_five, .ref h_v_left, .ref h_v_right, .ref h_v_part, .int v_aMany, .int v_bMany, .int v_fiveMany, .int v_leftMany, .int v_rightMany, .int v_partMany, .int v_twos, .int v_at, .int v_digits, .int v_power, .int v_good])), (h_v_text, .inl (cI, n_v_text, .inl v_text_a))] H → va_D A [(h_v, .inr (7, [.ref h_v_text, .ref h_v_written, .int v_length, .int v_laid, .int v_gone, .int v_thrown, .int v_were, .int v_none, .int v_beyond, .ref h_v_a, .ref h_v_b, .ref h_v_five, .ref h_v_left, .ref h_v_right, .ref h_v_part, .int v_aMany, .int v_bMany, .int v_fiveMany, .int v_leftMany, .int v_rightMany, .int v_partMany, .int v_twos, .int v_at, .int v_digits, .int v_power, .int v_good])), (h_v_text, .inl (cI, n_v_text, .inl v_text_a))] → va_S A s.heap H locs → f_Mod_exponentRow_155 fu n_v_text v_length v_text_a y1 y3 v_at v_power v_good = some u → W p l e (headSpec ws_Mod_exponentRow rm_Mod_exponentRow).room s m [.ref h_v].toArray below meth c H locs 0 0 Qq (F0 m 155 ls []) := by
    intro y1 y3 v_at v_power v_good ls H locs hl hP hD hS hf
    unfold f_Mod_exponentRow_155 at hf
    refine lv_aload_n hx hb d_Mod_exponentRow_155 rfl (lv_at hl 0 rfl) ?_
    refine lv_dup hx hb d_Mod_exponentRow_156 rfl ?_
    refine va_get (D := (dC, dI)) (ci := 7) (v := .int v_power) (C := R_Mod) (T := T_Mod) (N := 26) hx hb hw in_Mod hown hK hP 0 rfl rfl 24 (by decide) (hw _ wd_697) (fun _ h9 => h9) rfl d_Mod_exponentRow_157 ?_
    refine lv_iload_n hx hb d_Mod_exponentRow_160 rfl (lv_at hl 1 rfl) ?_
    refine lv_if_eq (tgt := 169) hx hb d_Mod_exponentRow_161 (by decide) (fun hc => ?_) (fun hc => ?_)
    · have hf := zz_ifp hc hf
      refine lv_iload_n hx hb d_Mod_exponentRow_169 rfl (lv_at hl 2 rfl) ?_
      refine lv_iadd hx hb d_Mod_exponentRow_170 ?_
      refine va_put (D := (dC, dI)) (ci := 7) (v := .int (v_power + y3)) (ty := .int) (C := R_Mod) (T := T_Mod) (N := 26) hx hb hw in_Mod ty_Mod tyok_Mod nm_Mod hown hK hP hD hS 0 rfl rfl 24 (by decide) (hw _ wd_697) (fun _ h9 => h9) rfl (tyok_Mod 24 (by decide)) rfl rfl (Nat.le_of_ble_eq_true rfl) d_Mod_exponentRow_171 (fun H locs hP hD hS => ?_)
      have hP : va_P (dC, dI) vwCl [(h_v, .inr (7, [.ref h_v_text, .ref h_v_written, .int v_length, .int v_laid, .int v_gone, .int v_thrown, .int v_were, .int v_none, .int v_beyond, .ref h_v_a, .ref h_v_b, .ref h_v_five, .ref h_v_left, .ref h_v_right, .ref h_v_part, .int v_aMany, .int v_bMany, .int v_fiveMany, .int v_leftMany, .int v_rightMany, .int v_partMany, .int v_twos, .int v_at, .int v_digits, .int (v_power + y3), .int v_good])), (h_v_text, .inl (cI, n_v_text, .inl v_text_a))] H := hP
      have hD : va_D A [(h_v, .inr (7, [.ref h_v_text, .ref h_v_written, .int v_length, .int v_laid, .int v_gone, .int v_thrown, .int v_were, .int v_none, .int v_beyond, .ref h_v_a, .ref h_v_b, .ref h_v_five, .ref h_v_left, .ref h_v_right, .ref h_v_part, .int v_aMany, .int v_bMany, .int v_fiveMany, .int v_leftMany, .int v_rightMany, .int v_partMany, .int v_twos, .int v_at, .int v_digits, .int (v_power + y3), .int v_good])), (h_v_text, .inl (cI, n_v_text, .inl v_text_a))] := hD
      cases hf
      exact hend 174 ls _ _ d_Mod_exponentRow_174 hP hD hS
    · have hf := zz_ifn hc hf
      refine lv_iload_n hx hb d_Mod_exponentRow_164 rfl (lv_at hl 2 rfl) ?_
      refine lv_ineg hx hb d_Mod_exponentRow_165 ?_
      refine lv_goto (tgt := 170) hx hb d_Mod_exponentRow_166 (by decide) ?_
      refine lv_iadd hx hb d_Mod_exponentRow_170 ?_
      refine va_put (D := (dC, dI)) (ci := 7) (v := .int (v_power + (-y3))) (ty := .int) (C := R_Mod) (T := T_Mod) (N := 26) hx hb hw in_Mod ty_Mod tyok_Mod nm_Mod hown hK hP hD hS 0 rfl rfl 24 (by decide) (hw _ wd_697) (fun _ h9 => h9) rfl (tyok_Mod 24 (by decide)) rfl rfl (Nat.le_of_ble_eq_true rfl) d_Mod_exponentRow_171 (fun H locs hP hD hS => ?_)
      have hP : va_P (dC, dI) vwCl [(h_v, .inr (7, [.ref h_v_text, .ref h_v_written, .int v_length, .int v_laid, .int v_gone, .int v_thrown, .int v_were, .int v_none, .int v_beyond, .ref h_v_a, .ref h_v_b, .ref h_v_five, .ref h_v_left, .ref h_v_right, .ref h_v_part, .int v_aMany, .int v_bMany, .int v_fiveMany, .int v_leftMany, .int v_rightMany, .int v_partMany, .int v_twos, .int v_at, .int v_digits, .int (v_power + (-y3)), .int v_good])), (h_v_text, .inl (cI, n_v_text, .inl v_text_a))] H := hP
      have hD : va_D A [(h_v, .inr (7, [.ref h_v_text, .ref h_v_written, .int v_length, .int v_laid, .int v_gone, .int v_thrown, .int v_were, .int v_none, .int v_beyond, .ref h_v_a, .ref h_v_b, .ref h_v_five, .ref h_v_left, .ref h_v_right, .ref h_v_part, .int v_aMany, .int v_bMany, .int v_fiveMany, .int v_leftMany, .int v_rightMany, .int v_partMany, .int v_twos, .int v_at, .int v_digits, .int (v_power + (-y3)), .int v_good])), (h_v_text, .inl (cI, n_v_text, .inl v_text_a))] := hD
      cases hf
      exact hend 174 ls _ _ d_Mod_exponentRow_174 hP hD hS
  have hL_150 : ∀ (y1 : Int32) (y3 : Int32) (v_at : Int32) (v_power : Int32) (v_good : Int32) (ls : Array Slot) (H : Heap) (locs : List Loc), lv_has ls 5 [(0, .ref h_v), (1, .int y1), (3, .int y3)] → va_P (dC, dI) vwCl [(h_v, .inr (7, [.ref h_v_text, .ref h_v_written, .int v_length, .int v_laid, .int v_gone, .int v_thrown, .int v_were, .int v_none, .int v_beyond, .ref h_v_a, .ref h_v_b, .ref h_v_five, .ref h_v_left, .ref h_v_right, .ref h_v_part, .int v_aMany, .int v_bMany, .int v_fiveMany, .int v_leftMany, .int v_rightMany, .int v_partMany, .int v_twos, .int v_at, .int v_digits, .int v_power, .int v_good])), (h_v_text, .inl (cI, n_v_text, .inl v_text_a))] H → va_D A [(h_v, .inr (7, [.ref h_v_text, .ref h_v_written, .int v_length, .int v_laid, .int v_gone, .int v_thrown, .int v_were, .int v_none, .int v_beyond, .ref h_v_a, .ref h_v_b, .ref h_v_five, .ref h_v_left, .ref h_v_right, .ref h_v_part, .int v_aMany, .int v_bMany, .int v_fiveMany, .int v_leftMany, .int v_rightMany, .int v_partMany, .int v_twos, .int v_at, .int v_digits, .int v_power, .int v_good])), (h_v_text, .inl (cI, n_v_text, .inl v_text_a))] → va_S A s.heap H locs → f_Mod_exponentRow_150 fu n_v_text v_length v_text_a y1 y3 v_at v_power v_good = some u → W p l e (headSpec ws_Mod_exponentRow rm_Mod_exponentRow).room s m [.ref h_v].toArray below meth c H locs 0 0 Qq (F0 m 150 ls []) := by
    intro y1 y3 v_at v_power v_good ls H locs hl hP hD hS hf
    unfold f_Mod_exponentRow_150 at hf
    refine lv_aload_n hx hb d_Mod_exponentRow_150 rfl (lv_at hl 0 rfl) ?_
    refine lv_iconst (v := 0) hx hb d_Mod_exponentRow_151 (by decide) ?_
    refine va_put (D := (dC, dI)) (ci := 7) (v := .int 0) (ty := .boolean) (C := R_Mod) (T := T_Mod) (N := 26) hx hb hw in_Mod ty_Mod tyok_Mod nm_Mod hown hK hP hD hS 0 rfl rfl 25 (by decide) (hw _ wd_698) (fun _ h9 => h9) rfl (tyok_Mod 25 (by decide)) rfl rfl (Nat.le_of_ble_eq_true rfl) d_Mod_exponentRow_152 (fun H locs hP hD hS => ?_)
    have hP : va_P (dC, dI) vwCl [(h_v, .inr (7, [.ref h_v_text, .ref h_v_written, .int v_length, .int v_laid, .int v_gone, .int v_thrown, .int v_were, .int v_none, .int v_beyond, .ref h_v_a, .ref h_v_b, .ref h_v_five, .ref h_v_left, .ref h_v_right, .ref h_v_part, .int v_aMany, .int v_bMany, .int v_fiveMany, .int v_leftMany, .int v_rightMany, .int v_partMany, .int v_twos, .int v_at, .int v_digits, .int v_power, .int 0])), (h_v_text, .inl (cI, n_v_text, .inl v_text_a))] H := hP
    have hD : va_D A [(h_v, .inr (7, [.ref h_v_text, .ref h_v_written, .int v_length, .int v_laid, .int v_gone, .int v_thrown, .int v_were, .int v_none, .int v_beyond, .ref h_v_a, .ref h_v_b, .ref h_v_five, .ref h_v_left, .ref h_v_right, .ref h_v_part, .int v_aMany, .int v_bMany, .int v_fiveMany, .int v_leftMany, .int v_rightMany, .int v_partMany, .int v_twos, .int v_at, .int v_digits, .int v_power, .int 0])), (h_v_text, .inl (cI, n_v_text, .inl v_text_a))] := hD
    exact hL_155 y1 y3 v_at v_power 0 ls _ _ (lv_sub hl [0, 1, 2] rfl) hP hD hS hf
  have hL_141 : ∀ (y1 : Int32) (y2 : Int32) (y3 : Int32) (y4 : Int32) (v_at : Int32) (v_power : Int32) (v_good : Int32) (ls : Array Slot) (H : Heap) (locs : List Loc), lv_has ls 5 [(0, .ref h_v), (1, .int y1), (2, .int y2), (3, .int y3), (4, .int y4)] → va_P (dC, dI) vwCl [(h_v, .inr (7, [.ref h_v_text, .ref h_v_written, .int v_length, .int v_laid, .int v_gone, .int v_thrown, .int v_were, .int v_none, .int v_beyond, .ref h_v_a, .ref h_v_b, .ref h_v_five, .ref h_v_left, .ref h_v_right, .ref h_v_part, .int v_aMany, .int v_bMany, .int v_fiveMany, .int v_leftMany, .int v_rightMany, .int v_partMany, .int v_twos, .int v_at, .int v_digits, .int v_power, .int v_good])), (h_v_text, .inl (cI, n_v_text, .inl v_text_a))] H → va_D A [(h_v, .inr (7, [.ref h_v_text, .ref h_v_written, .int v_length, .int v_laid, .int v_gone, .int v_thrown, .int v_were, .int v_none, .int v_beyond, .ref h_v_a, .ref h_v_b, .ref h_v_five, .ref h_v_left, .ref h_v_right, .ref h_v_part, .int v_aMany, .int v_bMany, .int v_fiveMany, .int v_leftMany, .int v_rightMany, .int v_partMany, .int v_twos, .int v_at, .int v_digits, .int v_power, .int v_good])), (h_v_text, .inl (cI, n_v_text, .inl v_text_a))] → va_S A s.heap H locs → f_Mod_exponentRow_141 fu n_v_text v_length v_text_a y1 y2 y3 y4 v_at v_power v_good = some u → W p l e (headSpec ws_Mod_exponentRow rm_Mod_exponentRow).room s m [.ref h_v].toArray below meth c H locs 0 0 Qq (F0 m 141 ls []) := by
    intro y1 y2 y3 y4 v_at v_power v_good ls H locs hl hP hD hS hf
    unfold f_Mod_exponentRow_141 at hf
    refine lv_iload_n hx hb d_Mod_exponentRow_141 rfl (lv_at hl 2 rfl) ?_
    refine lv_if_eq (tgt := 150) hx hb d_Mod_exponentRow_142 (by decide) (fun hc => ?_) (fun hc => ?_)
    · have hf := zz_ifp hc hf
      exact hL_150 y1 y3 v_at v_power v_good ls _ _ (lv_sub hl [0, 1, 3] rfl) hP hD hS hf
    · have hf := zz_ifn hc hf
      refine lv_iload hx hb d_Mod_exponentRow_145 (lv_at hl 4 rfl) ?_
      refine lv_if_ne (tgt := 155) hx hb d_Mod_exponentRow_147 (by decide) (fun hc => ?_) (fun hc => ?_)
      · have hf := zz_ifn hc hf
        exact hL_155 y1 y3 v_at v_power v_good ls _ _ (lv_sub hl [0, 1, 3] rfl) hP hD hS hf
      · have hf := zz_ifp hc hf
        exact hL_150 y1 y3 v_at v_power v_good ls _ _ (lv_sub hl [0, 1, 3] rfl) hP hD hS hf
  have hL_55 : ∀ (n : Nat), ∀ (y1 : Int32) (y2 : Int32) (y3 : Int32) (y4 : Int32) (v_at : Int32) (v_power : Int32) (v_good : Int32) (ls : Array Slot) (H : Heap) (locs : List Loc), lv_has ls 5 [(0, .ref h_v), (1, .int y1), (2, .int y2), (3, .int y3), (4, .int y4)] → va_P (dC, dI) vwCl [(h_v, .inr (7, [.ref h_v_text, .ref h_v_written, .int v_length, .int v_laid, .int v_gone, .int v_thrown, .int v_were, .int v_none, .int v_beyond, .ref h_v_a, .ref h_v_b, .ref h_v_five, .ref h_v_left, .ref h_v_right, .ref h_v_part, .int v_aMany, .int v_bMany, .int v_fiveMany, .int v_leftMany, .int v_rightMany, .int v_partMany, .int v_twos, .int v_at, .int v_digits, .int v_power, .int v_good])), (h_v_text, .inl (cI, n_v_text, .inl v_text_a))] H → va_D A [(h_v, .inr (7, [.ref h_v_text, .ref h_v_written, .int v_length, .int v_laid, .int v_gone, .int v_thrown, .int v_were, .int v_none, .int v_beyond, .ref h_v_a, .ref h_v_b, .ref h_v_five, .ref h_v_left, .ref h_v_right, .ref h_v_part, .int v_aMany, .int v_bMany, .int v_fiveMany, .int v_leftMany, .int v_rightMany, .int v_partMany, .int v_twos, .int v_at, .int v_digits, .int v_power, .int v_good])), (h_v_text, .inl (cI, n_v_text, .inl v_text_a))] → va_S A s.heap H locs → f_Mod_exponentRow_55 fu n_v_text v_length v_text_a n y1 y2 y3 y4 v_at v_power v_good = some u → W p l e (headSpec ws_Mod_exponentRow rm_Mod_exponentRow).room s m [.ref h_v].toArray below meth c H locs 0 0 Qq (F0 m 55 ls []) := by
    intro n
    induction n with
    | zero =>
      intro y1 y2 y3 y4 v_at v_power v_good ls H locs hl hP hD hS hf
      exact zz_no hf
    | succ n ih =>
      intro y1 y2 y3 y4 v_at v_power v_good ls H locs hl hP hD hS hf
      rw [f_Mod_exponentRow_55_s] at hf
      refine lv_aload_n hx hb d_Mod_exponentRow_55 rfl (lv_at hl 0 rfl) ?_
      obtain ⟨u_2, hu_2, hf⟩ := zz_bd hf
      refine zz_ci (ws' := [(h_v, .inr (7, [.ref h_v_text, .ref h_v_written, .int v_length, .int v_laid, .int v_gone, .int v_thrown, .int v_were, .int v_none, .int v_beyond, .ref h_v_a, .ref h_v_b, .ref h_v_five, .ref h_v_left, .ref h_v_right, .ref h_v_part, .int v_aMany, .int v_bMany, .int v_fiveMany, .int v_leftMany, .int v_rightMany, .int v_partMany, .int v_twos, .int v_at, .int v_digits, .int v_power, .int v_good])), (h_v_text, .inl (cI, n_v_text, .inl v_text_a))]) (wc := [(h_v, .inr (7, [.ref h_v_text, .ref h_v_written, .int v_length, .int v_laid, .int v_gone, .int v_thrown, .int v_were, .int v_none, .int v_beyond, .ref h_v_a, .ref h_v_b, .ref h_v_five, .ref h_v_left, .ref h_v_right, .ref h_v_part, .int v_aMany, .int v_bMany, .int v_fiveMany, .int v_leftMany, .int v_rightMany, .int v_partMany, .int v_twos, .int v_at, .int v_digits, .int v_power, .int v_good])), (h_v_text, .inl (cI, n_v_text, .inl v_text_a))]) (w' := [(h_v, .inr (7, [.ref h_v_text, .ref h_v_written, .int v_length, .int v_laid, .int v_gone, .int v_thrown, .int v_were, .int v_none, .int v_beyond, .ref h_v_a, .ref h_v_b, .ref h_v_five, .ref h_v_left, .ref h_v_right, .ref h_v_part, .int v_aMany, .int v_bMany, .int v_fiveMany, .int v_leftMany, .int v_rightMany, .int v_partMany, .int v_twos, .int v_at, .int v_digits, .int v_power, .int v_good])), (h_v_text, .inl (cI, n_v_text, .inl v_text_a))]) hP hD hS hA [0, 1] [] [0, 1] rfl rfl (by decide) (by decide) rfl (by decide) (va_runV (As := []) (rest := []) ⟨hx, hb, hml, hown, hw⟩ (c_Mod_look l dC dI cI cC cB cJ _ h_v h_v_text h_v_written h_v_a h_v_b h_v_five h_v_left h_v_right h_v_part n_v_text v_length v_laid v_gone v_thrown v_were v_none v_beyond v_aMany v_bMany v_fiveMany v_leftMany v_rightMany v_partMany v_twos v_at v_digits v_power v_good v_text_a u_2 hu_2) (cwV 0 hw (zg_V wd_783 wd_785 we_1_13 wd_8 wd_786) rfl rfl rfl hd_Mod_look ⟨Nat.le_of_ble_eq_true rfl, Nat.le_of_ble_eq_true rfl⟩) (zz_preV zz_TE (va_recv (q0 := 0) (ci := 7) hK hP rfl rfl) hP hD hK hS hA trivial [0, 1] rfl (by decide)) rfl rfl hl.1 rfl (lv_room (Nat.le_of_ble_eq_true rfl)) d_Mod_exponentRow_56 ⟨Nat.zero_le _, Nat.zero_le _⟩) (fun H locs hP hD hS => ?_)
      refine lv_iconst (v := 0) hx hb d_Mod_exponentRow_59 (by decide) ?_
      obtain ⟨u_3, hu_3, hf⟩ := zz_bd hf
      refine zz_ci (ws' := [(h_v, .inr (7, [.ref h_v_text, .ref h_v_written, .int v_length, .int v_laid, .int v_gone, .int v_thrown, .int v_were, .int v_none, .int v_beyond, .ref h_v_a, .ref h_v_b, .ref h_v_five, .ref h_v_left, .ref h_v_right, .ref h_v_part, .int v_aMany, .int v_bMany, .int v_fiveMany, .int v_leftMany, .int v_rightMany, .int v_partMany, .int v_twos, .int v_at, .int v_digits, .int v_power, .int v_good])), (h_v_text, .inl (cI, n_v_text, .inl v_text_a))]) (wc := []) (w' := []) hP hD hS hA [] [0, 1] [0, 1] rfl rfl (by decide) (by decide) rfl (by decide) (va_runS (As := [.int u_2, .int 0]) (rest := []) ⟨hx, hb, hml, hown, hw⟩ (c_Mod_digit l dC dI cI cC cB cJ _ u_2 0 u_3 hu_3) (va_cwS 2 hw (zg_S wd_787 wd_788 wd_8 wd_789) rfl rfl rfl hd_Mod_digit ⟨Nat.le_of_ble_eq_true rfl, Nat.le_of_ble_eq_true rfl⟩) (zz_preS zz_TE hP hD hK hS hA trivial [] rfl (by decide)) rfl rfl hl.1 rfl (lv_room (Nat.le_of_ble_eq_true rfl)) d_Mod_exponentRow_60 ⟨Nat.zero_le _, Nat.zero_le _⟩) (fun H locs hP hD hS => ?_)
      refine lv_if_ge (tgt := 79) hx hb d_Mod_exponentRow_63 (by decide) (fun hc => ?_) (fun hc => ?_)
      · have hf := zz_ifp hc hf
        exact hL_79 _ ih y1 y2 y3 v_at v_power v_good ls _ _ (lv_sub hl [0, 1, 2, 3] rfl) hP hD hS hf
      · have hf := zz_ifn hc hf
        refine lv_iload_n hx hb d_Mod_exponentRow_66 rfl (lv_at hl 2 rfl) ?_
        refine lv_if_le (tgt := 141) hx hb d_Mod_exponentRow_67 (by decide) (fun hc => ?_) (fun hc => ?_)
        · have hf := zz_ifp hc hf
          exact hL_141 y1 y2 y3 y4 v_at v_power v_good ls _ _ (lv_sub hl [0, 1, 2, 3, 4] rfl) hP hD hS hf
        · have hf := zz_ifn hc hf
          refine lv_aload_n hx hb d_Mod_exponentRow_70 rfl (lv_at hl 0 rfl) ?_
          obtain ⟨u_7, hu_7, hf⟩ := zz_bd hf
          refine zz_ci (ws' := [(h_v, .inr (7, [.ref h_v_text, .ref h_v_written, .int v_length, .int v_laid, .int v_gone, .int v_thrown, .int v_were, .int v_none, .int v_beyond, .ref h_v_a, .ref h_v_b, .ref h_v_five, .ref h_v_left, .ref h_v_right, .ref h_v_part, .int v_aMany, .int v_bMany, .int v_fiveMany, .int v_leftMany, .int v_rightMany, .int v_partMany, .int v_twos, .int v_at, .int v_digits, .int v_power, .int v_good])), (h_v_text, .inl (cI, n_v_text, .inl v_text_a))]) (wc := [(h_v, .inr (7, [.ref h_v_text, .ref h_v_written, .int v_length, .int v_laid, .int v_gone, .int v_thrown, .int v_were, .int v_none, .int v_beyond, .ref h_v_a, .ref h_v_b, .ref h_v_five, .ref h_v_left, .ref h_v_right, .ref h_v_part, .int v_aMany, .int v_bMany, .int v_fiveMany, .int v_leftMany, .int v_rightMany, .int v_partMany, .int v_twos, .int v_at, .int v_digits, .int v_power, .int v_good])), (h_v_text, .inl (cI, n_v_text, .inl v_text_a))]) (w' := [(h_v, .inr (7, [.ref h_v_text, .ref h_v_written, .int v_length, .int v_laid, .int v_gone, .int v_thrown, .int v_were, .int v_none, .int v_beyond, .ref h_v_a, .ref h_v_b, .ref h_v_five, .ref h_v_left, .ref h_v_right, .ref h_v_part, .int v_aMany, .int v_bMany, .int v_fiveMany, .int v_leftMany, .int v_rightMany, .int v_partMany, .int v_twos, .int v_at, .int v_digits, .int v_power, .int v_good])), (h_v_text, .inl (cI, n_v_text, .inl v_text_a))]) hP hD hS hA [0, 1] [] [0, 1] rfl rfl (by decide) (by decide) rfl (by decide) (va_runV (As := []) (rest := []) ⟨hx, hb, hml, hown, hw⟩ (c_Mod_look l dC dI cI cC cB cJ _ h_v h_v_text h_v_written h_v_a h_v_b h_v_five h_v_left h_v_right h_v_part n_v_text v_length v_laid v_gone v_thrown v_were v_none v_beyond v_aMany v_bMany v_fiveMany v_leftMany v_rightMany v_partMany v_twos v_at v_digits v_power v_good v_text_a u_7 hu_7) (cwV 0 hw (zg_V wd_783 wd_785 we_1_13 wd_8 wd_786) rfl rfl rfl hd_Mod_look ⟨Nat.le_of_ble_eq_true rfl, Nat.le_of_ble_eq_true rfl⟩) (zz_preV zz_TE (va_recv (q0 := 0) (ci := 7) hK hP rfl rfl) hP hD hK hS hA trivial [0, 1] rfl (by decide)) rfl rfl hl.1 rfl (lv_room (Nat.le_of_ble_eq_true rfl)) d_Mod_exponentRow_71 ⟨Nat.zero_le _, Nat.zero_le _⟩) (fun H locs hP hD hS => ?_)
          refine lv_bipush (v := 95) hx hb d_Mod_exponentRow_74 (by decide) ?_
          refine lv_icmp_ne (tgt := 141) hx hb d_Mod_exponentRow_76 (by decide) (fun hc => ?_) (fun hc => ?_)
          · have hf := zz_ifn hc hf
            exact hL_141 y1 y2 y3 y4 v_at v_power v_good ls _ _ (lv_sub hl [0, 1, 2, 3, 4] rfl) hP hD hS hf
          · have hf := zz_ifp hc hf
            exact hL_79 _ ih y1 y2 y3 v_at v_power v_good ls _ _ (lv_sub hl [0, 1, 2, 3] rfl) hP hD hS hf
  have hL_48 : ∀ (y1 : Int32) (v_at : Int32) (v_power : Int32) (v_good : Int32) (ls : Array Slot) (H : Heap) (locs : List Loc), lv_has ls 5 [(0, .ref h_v), (1, .int y1)] → va_P (dC, dI) vwCl [(h_v, .inr (7, [.ref h_v_text, .ref h_v_written, .int v_length, .int v_laid, .int v_gone, .int v_thrown, .int v_were, .int v_none, .int v_beyond, .ref h_v_a, .ref h_v_b, .ref h_v_five, .ref h_v_left, .ref h_v_right, .ref h_v_part, .int v_aMany, .int v_bMany, .int v_fiveMany, .int v_leftMany, .int v_rightMany, .int v_partMany, .int v_twos, .int v_at, .int v_digits, .int v_power, .int v_good])), (h_v_text, .inl (cI, n_v_text, .inl v_text_a))] H → va_D A [(h_v, .inr (7, [.ref h_v_text, .ref h_v_written, .int v_length, .int v_laid, .int v_gone, .int v_thrown, .int v_were, .int v_none, .int v_beyond, .ref h_v_a, .ref h_v_b, .ref h_v_five, .ref h_v_left, .ref h_v_right, .ref h_v_part, .int v_aMany, .int v_bMany, .int v_fiveMany, .int v_leftMany, .int v_rightMany, .int v_partMany, .int v_twos, .int v_at, .int v_digits, .int v_power, .int v_good])), (h_v_text, .inl (cI, n_v_text, .inl v_text_a))] → va_S A s.heap H locs → f_Mod_exponentRow_48 fu n_v_text v_length v_text_a y1 v_at v_power v_good = some u → W p l e (headSpec ws_Mod_exponentRow rm_Mod_exponentRow).room s m [.ref h_v].toArray below meth c H locs 0 0 Qq (F0 m 48 ls []) := by
    intro y1 v_at v_power v_good ls H locs hl hP hD hS hf
    unfold f_Mod_exponentRow_48 at hf
    refine lv_iconst (v := 0) hx hb d_Mod_exponentRow_48 (by decide) ?_
    refine lv_istore_n hx hb d_Mod_exponentRow_49 rfl hl (by decide) rfl (fun ls hl => ?_)
    have hl : lv_has ls 5 [(2, .int 0), (0, .ref h_v), (1, .int y1)] := hl
    refine lv_iconst (v := 0) hx hb d_Mod_exponentRow_50 (by decide) ?_
    refine lv_istore_n hx hb d_Mod_exponentRow_51 rfl hl (by decide) rfl (fun ls hl => ?_)
    have hl : lv_has ls 5 [(3, .int 0), (2, .int 0), (0, .ref h_v), (1, .int y1)] := hl
    refine lv_iconst (v := 0) hx hb d_Mod_exponentRow_52 (by decide) ?_
    refine lv_istore hx hb d_Mod_exponentRow_53 hl (by decide) rfl (fun ls hl => ?_)
    have hl : lv_has ls 5 [(4, .int 0), (3, .int 0), (2, .int 0), (0, .ref h_v), (1, .int y1)] := hl
    exact hL_55 fu y1 0 0 0 v_at v_power v_good ls _ _ (lv_sub hl [3, 4, 2, 1, 0] rfl) hP hD hS hf
  have hL_38 : ∀ (y1 : Int32) (v_at : Int32) (v_power : Int32) (v_good : Int32) (ls : Array Slot) (H : Heap) (locs : List Loc), lv_has ls 5 [(0, .ref h_v), (1, .int y1)] → va_P (dC, dI) vwCl [(h_v, .inr (7, [.ref h_v_text, .ref h_v_written, .int v_length, .int v_laid, .int v_gone, .int v_thrown, .int v_were, .int v_none, .int v_beyond, .ref h_v_a, .ref h_v_b, .ref h_v_five, .ref h_v_left, .ref h_v_right, .ref h_v_part, .int v_aMany, .int v_bMany, .int v_fiveMany, .int v_leftMany, .int v_rightMany, .int v_partMany, .int v_twos, .int v_at, .int v_digits, .int v_power, .int v_good])), (h_v_text, .inl (cI, n_v_text, .inl v_text_a))] H → va_D A [(h_v, .inr (7, [.ref h_v_text, .ref h_v_written, .int v_length, .int v_laid, .int v_gone, .int v_thrown, .int v_were, .int v_none, .int v_beyond, .ref h_v_a, .ref h_v_b, .ref h_v_five, .ref h_v_left, .ref h_v_right, .ref h_v_part, .int v_aMany, .int v_bMany, .int v_fiveMany, .int v_leftMany, .int v_rightMany, .int v_partMany, .int v_twos, .int v_at, .int v_digits, .int v_power, .int v_good])), (h_v_text, .inl (cI, n_v_text, .inl v_text_a))] → va_S A s.heap H locs → f_Mod_exponentRow_38 fu n_v_text v_length v_text_a y1 v_at v_power v_good = some u → W p l e (headSpec ws_Mod_exponentRow rm_Mod_exponentRow).room s m [.ref h_v].toArray below meth c H locs 0 0 Qq (F0 m 38 ls []) := by
    intro y1 v_at v_power v_good ls H locs hl hP hD hS hf
    unfold f_Mod_exponentRow_38 at hf
    refine lv_aload_n hx hb d_Mod_exponentRow_38 rfl (lv_at hl 0 rfl) ?_
    refine lv_dup hx hb d_Mod_exponentRow_39 rfl ?_
    refine va_get (D := (dC, dI)) (ci := 7) (v := .int v_at) (C := R_Mod) (T := T_Mod) (N := 26) hx hb hw in_Mod hown hK hP 0 rfl rfl 22 (by decide) (hw _ wd_695) (fun _ h9 => h9) rfl d_Mod_exponentRow_40 ?_
    refine lv_iconst (v := 1) hx hb d_Mod_exponentRow_43 (by decide) ?_
    refine lv_iadd hx hb d_Mod_exponentRow_44 ?_
    refine va_put (D := (dC, dI)) (ci := 7) (v := .int (v_at + 1)) (ty := .int) (C := R_Mod) (T := T_Mod) (N := 26) hx hb hw in_Mod ty_Mod tyok_Mod nm_Mod hown hK hP hD hS 0 rfl rfl 22 (by decide) (hw _ wd_695) (fun _ h9 => h9) rfl (tyok_Mod 22 (by decide)) rfl rfl (Nat.le_of_ble_eq_true rfl) d_Mod_exponentRow_45 (fun H locs hP hD hS => ?_)
    have hP : va_P (dC, dI) vwCl [(h_v, .inr (7, [.ref h_v_text, .ref h_v_written, .int v_length, .int v_laid, .int v_gone, .int v_thrown, .int v_were, .int v_none, .int v_beyond, .ref h_v_a, .ref h_v_b, .ref h_v_five, .ref h_v_left, .ref h_v_right, .ref h_v_part, .int v_aMany, .int v_bMany, .int v_fiveMany, .int v_leftMany, .int v_rightMany, .int v_partMany, .int v_twos, .int (v_at + 1), .int v_digits, .int v_power, .int v_good])), (h_v_text, .inl (cI, n_v_text, .inl v_text_a))] H := hP
    have hD : va_D A [(h_v, .inr (7, [.ref h_v_text, .ref h_v_written, .int v_length, .int v_laid, .int v_gone, .int v_thrown, .int v_were, .int v_none, .int v_beyond, .ref h_v_a, .ref h_v_b, .ref h_v_five, .ref h_v_left, .ref h_v_right, .ref h_v_part, .int v_aMany, .int v_bMany, .int v_fiveMany, .int v_leftMany, .int v_rightMany, .int v_partMany, .int v_twos, .int (v_at + 1), .int v_digits, .int v_power, .int v_good])), (h_v_text, .inl (cI, n_v_text, .inl v_text_a))] := hD
    exact hL_48 y1 (v_at + 1) v_power v_good ls _ _ (lv_sub hl [0, 1] rfl) hP hD hS hf
  have hL_24 : ∀ (k0 : Int32) (v_at : Int32) (v_power : Int32) (v_good : Int32) (ls : Array Slot) (H : Heap) (locs : List Loc), lv_has ls 5 [(0, .ref h_v)] → va_P (dC, dI) vwCl [(h_v, .inr (7, [.ref h_v_text, .ref h_v_written, .int v_length, .int v_laid, .int v_gone, .int v_thrown, .int v_were, .int v_none, .int v_beyond, .ref h_v_a, .ref h_v_b, .ref h_v_five, .ref h_v_left, .ref h_v_right, .ref h_v_part, .int v_aMany, .int v_bMany, .int v_fiveMany, .int v_leftMany, .int v_rightMany, .int v_partMany, .int v_twos, .int v_at, .int v_digits, .int v_power, .int v_good])), (h_v_text, .inl (cI, n_v_text, .inl v_text_a))] H → va_D A [(h_v, .inr (7, [.ref h_v_text, .ref h_v_written, .int v_length, .int v_laid, .int v_gone, .int v_thrown, .int v_were, .int v_none, .int v_beyond, .ref h_v_a, .ref h_v_b, .ref h_v_five, .ref h_v_left, .ref h_v_right, .ref h_v_part, .int v_aMany, .int v_bMany, .int v_fiveMany, .int v_leftMany, .int v_rightMany, .int v_partMany, .int v_twos, .int v_at, .int v_digits, .int v_power, .int v_good])), (h_v_text, .inl (cI, n_v_text, .inl v_text_a))] → va_S A s.heap H locs → f_Mod_exponentRow_24 fu n_v_text v_length v_text_a k0 v_at v_power v_good = some u → W p l e (headSpec ws_Mod_exponentRow rm_Mod_exponentRow).room s m [.ref h_v].toArray below meth c H locs 0 0 Qq (F0 m 24 ls [.int k0]) := by
    intro k0 v_at v_power v_good ls H locs hl hP hD hS hf
    unfold f_Mod_exponentRow_24 at hf
    refine lv_istore_n hx hb d_Mod_exponentRow_24 rfl hl (by decide) rfl (fun ls hl => ?_)
    have hl : lv_has ls 5 [(1, .int k0), (0, .ref h_v)] := hl
    refine lv_iload_n hx hb d_Mod_exponentRow_25 rfl (lv_at hl 0 rfl) ?_
    refine lv_if_ne (tgt := 38) hx hb d_Mod_exponentRow_26 (by decide) (fun hc => ?_) (fun hc => ?_)
    · have hf := zz_ifn hc hf
      exact hL_38 k0 v_at v_power v_good ls _ _ (lv_sub hl [1, 0] rfl) hP hD hS hf
    · have hf := zz_ifp hc hf
      refine lv_aload_n hx hb d_Mod_exponentRow_29 rfl (lv_at hl 1 rfl) ?_
      obtain ⟨u_8, hu_8, hf⟩ := zz_bd hf
      refine zz_ci (ws' := [(h_v, .inr (7, [.ref h_v_text, .ref h_v_written, .int v_length, .int v_laid, .int v_gone, .int v_thrown, .int v_were, .int v_none, .int v_beyond, .ref h_v_a, .ref h_v_b, .ref h_v_five, .ref h_v_left, .ref h_v_right, .ref h_v_part, .int v_aMany, .int v_bMany, .int v_fiveMany, .int v_leftMany, .int v_rightMany, .int v_partMany, .int v_twos, .int v_at, .int v_digits, .int v_power, .int v_good])), (h_v_text, .inl (cI, n_v_text, .inl v_text_a))]) (wc := [(h_v, .inr (7, [.ref h_v_text, .ref h_v_written, .int v_length, .int v_laid, .int v_gone, .int v_thrown, .int v_were, .int v_none, .int v_beyond, .ref h_v_a, .ref h_v_b, .ref h_v_five, .ref h_v_left, .ref h_v_right, .ref h_v_part, .int v_aMany, .int v_bMany, .int v_fiveMany, .int v_leftMany, .int v_rightMany, .int v_partMany, .int v_twos, .int v_at, .int v_digits, .int v_power, .int v_good])), (h_v_text, .inl (cI, n_v_text, .inl v_text_a))]) (w' := [(h_v, .inr (7, [.ref h_v_text, .ref h_v_written, .int v_length, .int v_laid, .int v_gone, .int v_thrown, .int v_were, .int v_none, .int v_beyond, .ref h_v_a, .ref h_v_b, .ref h_v_five, .ref h_v_left, .ref h_v_right, .ref h_v_part, .int v_aMany, .int v_bMany, .int v_fiveMany, .int v_leftMany, .int v_rightMany, .int v_partMany, .int v_twos, .int v_at, .int v_digits, .int v_power, .int v_good])), (h_v_text, .inl (cI, n_v_text, .inl v_text_a))]) hP hD hS hA [0, 1] [] [0, 1] rfl rfl (by decide) (by decide) rfl (by decide) (va_runV (As := []) (rest := []) ⟨hx, hb, hml, hown, hw⟩ (c_Mod_look l dC dI cI cC cB cJ _ h_v h_v_text h_v_written h_v_a h_v_b h_v_five h_v_left h_v_right h_v_part n_v_text v_length v_laid v_gone v_thrown v_were v_none v_beyond v_aMany v_bMany v_fiveMany v_leftMany v_rightMany v_partMany v_twos v_at v_digits v_power v_good v_text_a u_8 hu_8) (cwV 0 hw (zg_V wd_783 wd_785 we_1_13 wd_8 wd_786) rfl rfl rfl hd_Mod_look ⟨Nat.le_of_ble_eq_true rfl, Nat.le_of_ble_eq_true rfl⟩) (zz_preV zz_TE (va_recv (q0 := 0) (ci := 7) hK hP rfl rfl) hP hD hK hS hA trivial [0, 1] rfl (by decide)) rfl rfl hl.1 rfl (lv_room (Nat.le_of_ble_eq_true rfl)) d_Mod_exponentRow_30 ⟨Nat.zero_le _, Nat.zero_le _⟩) (fun H locs hP hD hS => ?_)
      refine lv_bipush (v := 43) hx hb d_Mod_exponentRow_33 (by decide) ?_
      refine lv_icmp_ne (tgt := 48) hx hb d_Mod_exponentRow_35 (by decide) (fun hc => ?_) (fun hc => ?_)
      · have hf := zz_ifn hc hf
        exact hL_48 k0 v_at v_power v_good ls _ _ (lv_sub hl [1, 0] rfl) hP hD hS hf
      · have hf := zz_ifp hc hf
        exact hL_38 k0 v_at v_power v_good ls _ _ (lv_sub hl [1, 0] rfl) hP hD hS hf
  unfold f_Mod_exponentRow at hf
  refine lv_aload_n hx hb d_Mod_exponentRow_0 rfl (lv_at hl 0 rfl) ?_
  refine lv_dup hx hb d_Mod_exponentRow_1 rfl ?_
  refine va_get (D := (dC, dI)) (ci := 7) (v := .int v_at) (C := R_Mod) (T := T_Mod) (N := 26) hx hb hw in_Mod hown hK hP 0 rfl rfl 22 (by decide) (hw _ wd_695) (fun _ h9 => h9) rfl d_Mod_exponentRow_2 ?_
  refine lv_iconst (v := 1) hx hb d_Mod_exponentRow_5 (by decide) ?_
  refine lv_iadd hx hb d_Mod_exponentRow_6 ?_
  refine va_put (D := (dC, dI)) (ci := 7) (v := .int (v_at + 1)) (ty := .int) (C := R_Mod) (T := T_Mod) (N := 26) hx hb hw in_Mod ty_Mod tyok_Mod nm_Mod hown hK hP hD hS 0 rfl rfl 22 (by decide) (hw _ wd_695) (fun _ h9 => h9) rfl (tyok_Mod 22 (by decide)) rfl rfl (Nat.le_of_ble_eq_true rfl) d_Mod_exponentRow_7 (fun H locs hP hD hS => ?_)
  have hP : va_P (dC, dI) vwCl [(h_v, .inr (7, [.ref h_v_text, .ref h_v_written, .int v_length, .int v_laid, .int v_gone, .int v_thrown, .int v_were, .int v_none, .int v_beyond, .ref h_v_a, .ref h_v_b, .ref h_v_five, .ref h_v_left, .ref h_v_right, .ref h_v_part, .int v_aMany, .int v_bMany, .int v_fiveMany, .int v_leftMany, .int v_rightMany, .int v_partMany, .int v_twos, .int (v_at + 1), .int v_digits, .int v_power, .int v_good])), (h_v_text, .inl (cI, n_v_text, .inl v_text_a))] H := hP
  have hD : va_D A [(h_v, .inr (7, [.ref h_v_text, .ref h_v_written, .int v_length, .int v_laid, .int v_gone, .int v_thrown, .int v_were, .int v_none, .int v_beyond, .ref h_v_a, .ref h_v_b, .ref h_v_five, .ref h_v_left, .ref h_v_right, .ref h_v_part, .int v_aMany, .int v_bMany, .int v_fiveMany, .int v_leftMany, .int v_rightMany, .int v_partMany, .int v_twos, .int (v_at + 1), .int v_digits, .int v_power, .int v_good])), (h_v_text, .inl (cI, n_v_text, .inl v_text_a))] := hD
  refine lv_aload_n hx hb d_Mod_exponentRow_10 rfl (lv_at hl 0 rfl) ?_
  obtain ⟨u_1, hu_1, hf⟩ := zz_bd hf
  refine zz_ci (ws' := [(h_v, .inr (7, [.ref h_v_text, .ref h_v_written, .int v_length, .int v_laid, .int v_gone, .int v_thrown, .int v_were, .int v_none, .int v_beyond, .ref h_v_a, .ref h_v_b, .ref h_v_five, .ref h_v_left, .ref h_v_right, .ref h_v_part, .int v_aMany, .int v_bMany, .int v_fiveMany, .int v_leftMany, .int v_rightMany, .int v_partMany, .int v_twos, .int (v_at + 1), .int v_digits, .int v_power, .int v_good])), (h_v_text, .inl (cI, n_v_text, .inl v_text_a))]) (wc := [(h_v, .inr (7, [.ref h_v_text, .ref h_v_written, .int v_length, .int v_laid, .int v_gone, .int v_thrown, .int v_were, .int v_none, .int v_beyond, .ref h_v_a, .ref h_v_b, .ref h_v_five, .ref h_v_left, .ref h_v_right, .ref h_v_part, .int v_aMany, .int v_bMany, .int v_fiveMany, .int v_leftMany, .int v_rightMany, .int v_partMany, .int v_twos, .int (v_at + 1), .int v_digits, .int v_power, .int v_good])), (h_v_text, .inl (cI, n_v_text, .inl v_text_a))]) (w' := [(h_v, .inr (7, [.ref h_v_text, .ref h_v_written, .int v_length, .int v_laid, .int v_gone, .int v_thrown, .int v_were, .int v_none, .int v_beyond, .ref h_v_a, .ref h_v_b, .ref h_v_five, .ref h_v_left, .ref h_v_right, .ref h_v_part, .int v_aMany, .int v_bMany, .int v_fiveMany, .int v_leftMany, .int v_rightMany, .int v_partMany, .int v_twos, .int (v_at + 1), .int v_digits, .int v_power, .int v_good])), (h_v_text, .inl (cI, n_v_text, .inl v_text_a))]) hP hD hS hA [0, 1] [] [0, 1] rfl rfl (by decide) (by decide) rfl (by decide) (va_runV (As := []) (rest := []) ⟨hx, hb, hml, hown, hw⟩ (c_Mod_look l dC dI cI cC cB cJ _ h_v h_v_text h_v_written h_v_a h_v_b h_v_five h_v_left h_v_right h_v_part n_v_text v_length v_laid v_gone v_thrown v_were v_none v_beyond v_aMany v_bMany v_fiveMany v_leftMany v_rightMany v_partMany v_twos (v_at + 1) v_digits v_power v_good v_text_a u_1 hu_1) (cwV 0 hw (zg_V wd_783 wd_785 we_1_13 wd_8 wd_786) rfl rfl rfl hd_Mod_look ⟨Nat.le_of_ble_eq_true rfl, Nat.le_of_ble_eq_true rfl⟩) (zz_preV zz_TE (va_recv (q0 := 0) (ci := 7) hK hP rfl rfl) hP hD hK hS hA trivial [0, 1] rfl (by decide)) rfl rfl hl.1 rfl (lv_room (Nat.le_of_ble_eq_true rfl)) d_Mod_exponentRow_11 ⟨Nat.zero_le _, Nat.zero_le _⟩) (fun H locs hP hD hS => ?_)
  refine lv_bipush (v := 45) hx hb d_Mod_exponentRow_14 (by decide) ?_
  refine lv_icmp_ne (tgt := 23) hx hb d_Mod_exponentRow_16 (by decide) (fun hc => ?_) (fun hc => ?_)
  · have hf := zz_ifn hc hf
    refine lv_iconst (v := 0) hx hb d_Mod_exponentRow_23 (by decide) ?_
    exact hL_24 0 (v_at + 1) v_power v_good ls _ _ (lv_sub hl [0] rfl) hP hD hS hf
  · have hf := zz_ifp hc hf
    refine lv_iconst (v := 1) hx hb d_Mod_exponentRow_19 (by decide) ?_
    refine lv_goto (tgt := 24) hx hb d_Mod_exponentRow_20 (by decide) ?_
    exact hL_24 1 (v_at + 1) v_power v_good ls _ _ (lv_sub hl [0] rfl) hP hD hS hf
abbrev ws_Mod_isBinary : List Cond := .code y_Mod_isBinary prog_10_method_22_code 1 (some .boolean) :: zw
abbrev rm_Mod_isBinary : Room := { frames := 0, cells := 0, slots := 0, locals := 0 }
theorem hd_Mod_isBinary : y_Mod_isBinary.cls = "RealTextModel" ∧ y_Mod_isBinary.cls ≠ "java/lang/invoke/MethodHandle" ∧ y_Mod_isBinary.cls ≠ "java/lang/invoke/VarHandle" ∧ (parseMethodDescriptor y_Mod_isBinary.desc).map (fun d => d.parameters.length) = some 0 := by decide +kernel
theorem d_Mod_isBinary_0 : decode prog_10_method_22_code 0 = .ok (.aload_n 0, 1) := by decide +kernel
theorem d_Mod_isBinary_1 : decode prog_10_method_22_code 1 = .ok (.getfield 46, 3) := by decide +kernel
theorem d_Mod_isBinary_4 : decode prog_10_method_22_code 4 = .ok (.iconst 1, 1) := by decide +kernel
theorem d_Mod_isBinary_5 : decode prog_10_method_22_code 5 = .ok (.if_icmp .le 40, 3) := by decide +kernel
theorem d_Mod_isBinary_8 : decode prog_10_method_22_code 8 = .ok (.aload_n 0, 1) := by decide +kernel
theorem d_Mod_isBinary_9 : decode prog_10_method_22_code 9 = .ok (.getfield 7, 3) := by decide +kernel
theorem d_Mod_isBinary_12 : decode prog_10_method_22_code 12 = .ok (.iconst 0, 1) := by decide +kernel
theorem d_Mod_isBinary_13 : decode prog_10_method_22_code 13 = .ok (.iaload, 1) := by decide +kernel
theorem d_Mod_isBinary_14 : decode prog_10_method_22_code 14 = .ok (.bipush 48, 2) := by decide +kernel
theorem d_Mod_isBinary_16 : decode prog_10_method_22_code 16 = .ok (.if_icmp .ne 29, 3) := by decide +kernel
theorem d_Mod_isBinary_19 : decode prog_10_method_22_code 19 = .ok (.aload_n 0, 1) := by decide +kernel
theorem d_Mod_isBinary_20 : decode prog_10_method_22_code 20 = .ok (.getfield 7, 3) := by decide +kernel
theorem d_Mod_isBinary_23 : decode prog_10_method_22_code 23 = .ok (.iconst 1, 1) := by decide +kernel
theorem d_Mod_isBinary_24 : decode prog_10_method_22_code 24 = .ok (.iaload, 1) := by decide +kernel
theorem d_Mod_isBinary_25 : decode prog_10_method_22_code 25 = .ok (.bipush 120, 2) := by decide +kernel
theorem d_Mod_isBinary_27 : decode prog_10_method_22_code 27 = .ok (.if_icmp .eq 14, 3) := by decide +kernel
theorem d_Mod_isBinary_30 : decode prog_10_method_22_code 30 = .ok (.aload_n 0, 1) := by decide +kernel
theorem d_Mod_isBinary_31 : decode prog_10_method_22_code 31 = .ok (.getfield 7, 3) := by decide +kernel
theorem d_Mod_isBinary_34 : decode prog_10_method_22_code 34 = .ok (.iconst 1, 1) := by decide +kernel
theorem d_Mod_isBinary_35 : decode prog_10_method_22_code 35 = .ok (.iaload, 1) := by decide +kernel
theorem d_Mod_isBinary_36 : decode prog_10_method_22_code 36 = .ok (.bipush 88, 2) := by decide +kernel
theorem d_Mod_isBinary_38 : decode prog_10_method_22_code 38 = .ok (.if_icmp .ne 7, 3) := by decide +kernel
theorem d_Mod_isBinary_41 : decode prog_10_method_22_code 41 = .ok (.iconst 1, 1) := by decide +kernel
theorem d_Mod_isBinary_42 : decode prog_10_method_22_code 42 = .ok (.goto 4, 3) := by decide +kernel
theorem d_Mod_isBinary_45 : decode prog_10_method_22_code 45 = .ok (.iconst 0, 1) := by decide +kernel
theorem d_Mod_isBinary_46 : decode prog_10_method_22_code 46 = .ok (.ireturn, 1) := by decide +kernel
def f_Mod_isBinary (n_v_text : Nat) (v_length : Int32) (v_text_a : Nat → Int32) : Option (Int32) :=
  (if v_length ≤ 1 then
  some (0)
  else
  if zz_in 0 n_v_text = true then
  (if (v_text_a (0 : Int32).toNatClampNeg) = 48 then
  if zz_in 1 n_v_text = true then
  (if (v_text_a (1 : Int32).toNatClampNeg) = 120 then
  some (1)
  else
  if zz_in 1 n_v_text = true then
  (if (v_text_a (1 : Int32).toNatClampNeg) = 88 then
  some (1)
  else
  some (0))
  else none)
  else none
  else
  some (0))
  else none)
set_option maxHeartbeats 4000000 in
set_option maxRecDepth 100000 in
theorem c_Mod_isBinary (l : Launch) (dC : Nat → ClassId) (dI : Nat → Nat → Nat) (cI cC cB cJ : ClassId) (sz : Nat) (h_v : Nat) (h_v_text : Nat) (h_v_written : Nat) (h_v_a : Nat) (h_v_b : Nat) (h_v_five : Nat) (h_v_left : Nat) (h_v_right : Nat) (h_v_part : Nat) (n_v_text : Nat) (v_length : Int32) (v_laid : Int32) (v_gone : Int32) (v_thrown : Int32) (v_were : Int32) (v_none : Int32) (v_beyond : Int32) (v_aMany : Int32) (v_bMany : Int32) (v_fiveMany : Int32) (v_leftMany : Int32) (v_rightMany : Int32) (v_partMany : Int32) (v_twos : Int32) (v_at : Int32) (v_digits : Int32) (v_power : Int32) (v_good : Int32) (v_text_a : Nat → Int32) (u : Int32) (hf : f_Mod_isBinary n_v_text v_length v_text_a = some u) : Met l y_Mod_isBinary ws_Mod_isBinary rm_Mod_isBinary (zz_P zz_T (dC, dI) vwCl (zz_tys cI cC cB cJ) [.ref h_v] [(h_v, .inr (7, [.ref h_v_text, .ref h_v_written, .int v_length, .int v_laid, .int v_gone, .int v_thrown, .int v_were, .int v_none, .int v_beyond, .ref h_v_a, .ref h_v_b, .ref h_v_five, .ref h_v_left, .ref h_v_right, .ref h_v_part, .int v_aMany, .int v_bMany, .int v_fiveMany, .int v_leftMany, .int v_rightMany, .int v_partMany, .int v_twos, .int v_at, .int v_digits, .int v_power, .int v_good])), (h_v_text, .inl (cI, n_v_text, .inl v_text_a))] sz) (zz_Qi (dC, dI) vwCl u [(h_v, .inr (7, [.ref h_v_text, .ref h_v_written, .int v_length, .int v_laid, .int v_gone, .int v_thrown, .int v_were, .int v_none, .int v_beyond, .ref h_v_a, .ref h_v_b, .ref h_v_five, .ref h_v_left, .ref h_v_right, .ref h_v_part, .int v_aMany, .int v_bMany, .int v_fiveMany, .int v_leftMany, .int v_rightMany, .int v_partMany, .int v_twos, .int v_at, .int v_digits, .int v_power, .int v_good])), (h_v_text, .inl (cI, n_v_text, .inl v_text_a))] (va_A [(h_v, .inr (7, [.ref h_v_text, .ref h_v_written, .int v_length, .int v_laid, .int v_gone, .int v_thrown, .int v_were, .int v_none, .int v_beyond, .ref h_v_a, .ref h_v_b, .ref h_v_five, .ref h_v_left, .ref h_v_right, .ref h_v_part, .int v_aMany, .int v_bMany, .int v_fiveMany, .int v_leftMany, .int v_rightMany, .int v_partMany, .int v_twos, .int v_at, .int v_digits, .int v_power, .int v_good])), (h_v_text, .inl (cI, n_v_text, .inl v_text_a))] sz)) 0 0 (va_A [(h_v, .inr (7, [.ref h_v_text, .ref h_v_written, .int v_length, .int v_laid, .int v_gone, .int v_thrown, .int v_were, .int v_none, .int v_beyond, .ref h_v_a, .ref h_v_b, .ref h_v_five, .ref h_v_left, .ref h_v_right, .ref h_v_part, .int v_aMany, .int v_bMany, .int v_fiveMany, .int v_leftMany, .int v_rightMany, .int v_partMany, .int v_twos, .int v_at, .int v_digits, .int v_power, .int v_good])), (h_v_text, .inl (cI, n_v_text, .inl v_text_a))] sz) := by
  refine Met.ofW (cc := prog_10_method_22_code) (maxL := 1) (ret := (some .boolean)) (by decide +kernel) rfl ?_
  intro p e s m args below meth c s₁ B hml hv
  obtain ⟨rfl, hsz, hP, hK, hD0, hX⟩ := hv
  have hx := B.exec
  have hb := B.bytes
  have hr := B.returns
  have hts := atoms_spec (ws := ws_Mod_isBinary) B.pre
  have hw : ∀ w ∈ zw, w.before [.ref h_v].toArray s = true := fun w h => hts w (List.mem_cons_of_mem _ h)
  have hown : s.vm.findClass R_Mod = some m.cls := findClass_of_methodNamed B.named
  have hlocks := B.notSynchronized
  subst hsz
  have hD := hD0.self (sz := s.heap.size)
  generalize hAe : va_A [(h_v, .inr (7, [.ref h_v_text, .ref h_v_written, .int v_length, .int v_laid, .int v_gone, .int v_thrown, .int v_were, .int v_none, .int v_beyond, .ref h_v_a, .ref h_v_b, .ref h_v_five, .ref h_v_left, .ref h_v_right, .ref h_v_part, .int v_aMany, .int v_bMany, .int v_fiveMany, .int v_leftMany, .int v_rightMany, .int v_partMany, .int v_twos, .int v_at, .int v_digits, .int v_power, .int v_good])), (h_v_text, .inl (cI, n_v_text, .inl v_text_a))] s.heap.size = A at hD hX ⊢
  have hA : ∀ q : Nat, s.heap.size ≤ q → A q := fun q h => by rw [← hAe]; exact Or.inr h
  have hS : va_S A s.heap s.heap [] := va_S.rf
  have hl := lv_entry [.ref h_v] (n := 1) (Nat.le_of_ble_eq_true rfl)
  rw [lg_entry_eq]
  generalize (lg_sl [.ref h_v] ++ List.replicate (1 - (lg_sl [.ref h_v]).length) Slot.unset).toArray = ls at hl ⊢
  have hl : lv_has ls 1 [(0, .ref h_v)] := hl
  refine zz_endz hx hb hr hlocks (fun Qq hend => ?_)
  unfold f_Mod_isBinary at hf
  refine lv_aload_n hx hb d_Mod_isBinary_0 rfl (lv_at hl 0 rfl) ?_
  refine va_get (D := (dC, dI)) (ci := 7) (v := .int v_length) (C := R_Mod) (T := T_Mod) (N := 26) hx hb hw in_Mod hown hK hP 0 rfl rfl 2 (by decide) (hw _ wd_676) (fun _ h9 => h9) rfl d_Mod_isBinary_1 ?_
  refine lv_iconst (v := 1) hx hb d_Mod_isBinary_4 (by decide) ?_
  refine lv_icmp_le (tgt := 45) hx hb d_Mod_isBinary_5 (by decide) (fun hc => ?_) (fun hc => ?_)
  · have hf := zz_ifp hc hf
    refine lv_iconst (v := 0) hx hb d_Mod_isBinary_45 (by decide) ?_
    cases hf
    exact hend 46 ls _ _ narrow_b0 d_Mod_isBinary_46 hP hD hS
  · have hf := zz_ifn hc hf
    refine lv_aload_n hx hb d_Mod_isBinary_8 rfl (lv_at hl 0 rfl) ?_
    refine va_get (D := (dC, dI)) (ci := 7) (v := .ref h_v_text) (C := R_Mod) (T := T_Mod) (N := 26) hx hb hw in_Mod hown hK hP 0 rfl rfl 0 (by decide) (hw _ wd_674) (fun _ h9 => h9) rfl d_Mod_isBinary_9 ?_
    refine lv_iconst (v := 0) hx hb d_Mod_isBinary_12 (by decide) ?_
    obtain ⟨hb_1, hf⟩ := zz_gd hf
    refine va_iald hx hb hK hP 1 0 rfl rfl (zz_vp hb_1) d_Mod_isBinary_13 ?_
    refine lv_bipush (v := 48) hx hb d_Mod_isBinary_14 (by decide) ?_
    refine lv_icmp_ne (tgt := 45) hx hb d_Mod_isBinary_16 (by decide) (fun hc => ?_) (fun hc => ?_)
    · have hf := zz_ifn hc hf
      refine lv_iconst (v := 0) hx hb d_Mod_isBinary_45 (by decide) ?_
      cases hf
      exact hend 46 ls _ _ narrow_b0 d_Mod_isBinary_46 hP hD hS
    · have hf := zz_ifp hc hf
      refine lv_aload_n hx hb d_Mod_isBinary_19 rfl (lv_at hl 0 rfl) ?_
      refine va_get (D := (dC, dI)) (ci := 7) (v := .ref h_v_text) (C := R_Mod) (T := T_Mod) (N := 26) hx hb hw in_Mod hown hK hP 0 rfl rfl 0 (by decide) (hw _ wd_674) (fun _ h9 => h9) rfl d_Mod_isBinary_20 ?_
      refine lv_iconst (v := 1) hx hb d_Mod_isBinary_23 (by decide) ?_
      obtain ⟨hb_2, hf⟩ := zz_gd hf
      refine va_iald hx hb hK hP 1 0 rfl rfl (zz_vp hb_2) d_Mod_isBinary_24 ?_
      refine lv_bipush (v := 120) hx hb d_Mod_isBinary_25 (by decide) ?_
      refine lv_icmp_eq (tgt := 41) hx hb d_Mod_isBinary_27 (by decide) (fun hc => ?_) (fun hc => ?_)
      · have hf := zz_ifp hc hf
        refine lv_iconst (v := 1) hx hb d_Mod_isBinary_41 (by decide) ?_
        refine lv_goto (tgt := 46) hx hb d_Mod_isBinary_42 (by decide) ?_
        cases hf
        exact hend 46 ls _ _ narrow_b1 d_Mod_isBinary_46 hP hD hS
      · have hf := zz_ifn hc hf
        refine lv_aload_n hx hb d_Mod_isBinary_30 rfl (lv_at hl 0 rfl) ?_
        refine va_get (D := (dC, dI)) (ci := 7) (v := .ref h_v_text) (C := R_Mod) (T := T_Mod) (N := 26) hx hb hw in_Mod hown hK hP 0 rfl rfl 0 (by decide) (hw _ wd_674) (fun _ h9 => h9) rfl d_Mod_isBinary_31 ?_
        refine lv_iconst (v := 1) hx hb d_Mod_isBinary_34 (by decide) ?_
        obtain ⟨hb_3, hf⟩ := zz_gd hf
        refine va_iald hx hb hK hP 1 0 rfl rfl (zz_vp hb_3) d_Mod_isBinary_35 ?_
        refine lv_bipush (v := 88) hx hb d_Mod_isBinary_36 (by decide) ?_
        refine lv_icmp_ne (tgt := 45) hx hb d_Mod_isBinary_38 (by decide) (fun hc => ?_) (fun hc => ?_)
        · have hf := zz_ifn hc hf
          refine lv_iconst (v := 0) hx hb d_Mod_isBinary_45 (by decide) ?_
          cases hf
          exact hend 46 ls _ _ narrow_b0 d_Mod_isBinary_46 hP hD hS
        · have hf := zz_ifp hc hf
          refine lv_iconst (v := 1) hx hb d_Mod_isBinary_41 (by decide) ?_
          refine lv_goto (tgt := 46) hx hb d_Mod_isBinary_42 (by decide) ?_
          cases hf
          exact hend 46 ls _ _ narrow_b1 d_Mod_isBinary_46 hP hD hS
abbrev ws_Mod_literal : List Cond := .code y_Mod_literal prog_10_method_23_code 5 (some .boolean) :: zw
abbrev rm_Mod_literal : Room := { frames := 3, cells := 0, slots := 0, locals := 73 }
theorem hd_Mod_literal : y_Mod_literal.cls = "RealTextModel" ∧ y_Mod_literal.cls ≠ "java/lang/invoke/MethodHandle" ∧ y_Mod_literal.cls ≠ "java/lang/invoke/VarHandle" ∧ (parseMethodDescriptor y_Mod_literal.desc).map (fun d => d.parameters.length) = some 1 := by decide +kernel
theorem d_Mod_literal_0 : decode prog_10_method_23_code 0 = .ok (.aload_n 0, 1) := by decide +kernel
theorem d_Mod_literal_1 : decode prog_10_method_23_code 1 = .ok (.iload_n 1, 1) := by decide +kernel
theorem d_Mod_literal_2 : decode prog_10_method_23_code 2 = .ok (.ifCond .eq 7, 3) := by decide +kernel
theorem d_Mod_literal_5 : decode prog_10_method_23_code 5 = .ok (.iconst 2, 1) := by decide +kernel
theorem d_Mod_literal_6 : decode prog_10_method_23_code 6 = .ok (.goto 4, 3) := by decide +kernel
theorem d_Mod_literal_9 : decode prog_10_method_23_code 9 = .ok (.iconst 0, 1) := by decide +kernel
theorem d_Mod_literal_10 : decode prog_10_method_23_code 10 = .ok (.putfield 107, 3) := by decide +kernel
theorem d_Mod_literal_13 : decode prog_10_method_23_code 13 = .ok (.aload_n 0, 1) := by decide +kernel
theorem d_Mod_literal_14 : decode prog_10_method_23_code 14 = .ok (.iconst 0, 1) := by decide +kernel
theorem d_Mod_literal_15 : decode prog_10_method_23_code 15 = .ok (.putfield 62, 3) := by decide +kernel
theorem d_Mod_literal_18 : decode prog_10_method_23_code 18 = .ok (.aload_n 0, 1) := by decide +kernel
theorem d_Mod_literal_19 : decode prog_10_method_23_code 19 = .ok (.iconst 0, 1) := by decide +kernel
theorem d_Mod_literal_20 : decode prog_10_method_23_code 20 = .ok (.putfield 118, 3) := by decide +kernel
theorem d_Mod_literal_23 : decode prog_10_method_23_code 23 = .ok (.aload_n 0, 1) := by decide +kernel
theorem d_Mod_literal_24 : decode prog_10_method_23_code 24 = .ok (.iconst 0, 1) := by decide +kernel
theorem d_Mod_literal_25 : decode prog_10_method_23_code 25 = .ok (.putfield 127, 3) := by decide +kernel
theorem d_Mod_literal_28 : decode prog_10_method_23_code 28 = .ok (.aload_n 0, 1) := by decide +kernel
theorem d_Mod_literal_29 : decode prog_10_method_23_code 29 = .ok (.iconst 1, 1) := by decide +kernel
theorem d_Mod_literal_30 : decode prog_10_method_23_code 30 = .ok (.putfield 121, 3) := by decide +kernel
theorem d_Mod_literal_33 : decode prog_10_method_23_code 33 = .ok (.aload_n 0, 1) := by decide +kernel
theorem d_Mod_literal_34 : decode prog_10_method_23_code 34 = .ok (.iload_n 1, 1) := by decide +kernel
theorem d_Mod_literal_35 : decode prog_10_method_23_code 35 = .ok (.invokevirtual 130, 3) := by decide +kernel
theorem d_Mod_literal_38 : decode prog_10_method_23_code 38 = .ok (.istore_n 2, 1) := by decide +kernel
theorem d_Mod_literal_39 : decode prog_10_method_23_code 39 = .ok (.iconst 0, 1) := by decide +kernel
theorem d_Mod_literal_40 : decode prog_10_method_23_code 40 = .ok (.istore_n 3, 1) := by decide +kernel
theorem d_Mod_literal_41 : decode prog_10_method_23_code 41 = .ok (.aload_n 0, 1) := by decide +kernel
theorem d_Mod_literal_42 : decode prog_10_method_23_code 42 = .ok (.invokevirtual 110, 3) := by decide +kernel
theorem d_Mod_literal_45 : decode prog_10_method_23_code 45 = .ok (.bipush 46, 2) := by decide +kernel
theorem d_Mod_literal_47 : decode prog_10_method_23_code 47 = .ok (.if_icmp .ne 19, 3) := by decide +kernel
theorem d_Mod_literal_50 : decode prog_10_method_23_code 50 = .ok (.aload_n 0, 1) := by decide +kernel
theorem d_Mod_literal_51 : decode prog_10_method_23_code 51 = .ok (.dup, 1) := by decide +kernel
theorem d_Mod_literal_52 : decode prog_10_method_23_code 52 = .ok (.getfield 107, 3) := by decide +kernel
theorem d_Mod_literal_55 : decode prog_10_method_23_code 55 = .ok (.iconst 1, 1) := by decide +kernel
theorem d_Mod_literal_56 : decode prog_10_method_23_code 56 = .ok (.iadd, 1) := by decide +kernel
theorem d_Mod_literal_57 : decode prog_10_method_23_code 57 = .ok (.putfield 107, 3) := by decide +kernel
theorem d_Mod_literal_60 : decode prog_10_method_23_code 60 = .ok (.aload_n 0, 1) := by decide +kernel
theorem d_Mod_literal_61 : decode prog_10_method_23_code 61 = .ok (.iload_n 1, 1) := by decide +kernel
theorem d_Mod_literal_62 : decode prog_10_method_23_code 62 = .ok (.invokevirtual 130, 3) := by decide +kernel
theorem d_Mod_literal_65 : decode prog_10_method_23_code 65 = .ok (.istore_n 3, 1) := by decide +kernel
theorem d_Mod_literal_66 : decode prog_10_method_23_code 66 = .ok (.iload_n 2, 1) := by decide +kernel
theorem d_Mod_literal_67 : decode prog_10_method_23_code 67 = .ok (.iload_n 3, 1) := by decide +kernel
theorem d_Mod_literal_68 : decode prog_10_method_23_code 68 = .ok (.iadd, 1) := by decide +kernel
theorem d_Mod_literal_69 : decode prog_10_method_23_code 69 = .ok (.ifCond .ne 5, 3) := by decide +kernel
theorem d_Mod_literal_72 : decode prog_10_method_23_code 72 = .ok (.iconst 0, 1) := by decide +kernel
theorem d_Mod_literal_73 : decode prog_10_method_23_code 73 = .ok (.ireturn, 1) := by decide +kernel
theorem d_Mod_literal_74 : decode prog_10_method_23_code 74 = .ok (.aload_n 0, 1) := by decide +kernel
theorem d_Mod_literal_75 : decode prog_10_method_23_code 75 = .ok (.iload_n 1, 1) := by decide +kernel
theorem d_Mod_literal_76 : decode prog_10_method_23_code 76 = .ok (.ifCond .eq 10, 3) := by decide +kernel
theorem d_Mod_literal_79 : decode prog_10_method_23_code 79 = .ok (.bipush (-4), 2) := by decide +kernel
theorem d_Mod_literal_81 : decode prog_10_method_23_code 81 = .ok (.iload_n 3, 1) := by decide +kernel
theorem d_Mod_literal_82 : decode prog_10_method_23_code 82 = .ok (.imul, 1) := by decide +kernel
theorem d_Mod_literal_83 : decode prog_10_method_23_code 83 = .ok (.goto 5, 3) := by decide +kernel
theorem d_Mod_literal_86 : decode prog_10_method_23_code 86 = .ok (.iload_n 3, 1) := by decide +kernel
theorem d_Mod_literal_87 : decode prog_10_method_23_code 87 = .ok (.ineg, 1) := by decide +kernel
theorem d_Mod_literal_88 : decode prog_10_method_23_code 88 = .ok (.putfield 127, 3) := by decide +kernel
theorem d_Mod_literal_91 : decode prog_10_method_23_code 91 = .ok (.iload_n 1, 1) := by decide +kernel
theorem d_Mod_literal_92 : decode prog_10_method_23_code 92 = .ok (.ifCond .eq 29, 3) := by decide +kernel
theorem d_Mod_literal_95 : decode prog_10_method_23_code 95 = .ok (.aload_n 0, 1) := by decide +kernel
theorem d_Mod_literal_96 : decode prog_10_method_23_code 96 = .ok (.invokevirtual 110, 3) := by decide +kernel
theorem d_Mod_literal_99 : decode prog_10_method_23_code 99 = .ok (.bipush 112, 2) := by decide +kernel
theorem d_Mod_literal_101 : decode prog_10_method_23_code 101 = .ok (.if_icmp .eq 12, 3) := by decide +kernel
theorem d_Mod_literal_104 : decode prog_10_method_23_code 104 = .ok (.aload_n 0, 1) := by decide +kernel
theorem d_Mod_literal_105 : decode prog_10_method_23_code 105 = .ok (.invokevirtual 110, 3) := by decide +kernel
theorem d_Mod_literal_108 : decode prog_10_method_23_code 108 = .ok (.bipush 80, 2) := by decide +kernel
theorem d_Mod_literal_110 : decode prog_10_method_23_code 110 = .ok (.if_icmp .ne 7, 3) := by decide +kernel
theorem d_Mod_literal_113 : decode prog_10_method_23_code 113 = .ok (.iconst 1, 1) := by decide +kernel
theorem d_Mod_literal_114 : decode prog_10_method_23_code 114 = .ok (.goto 30, 3) := by decide +kernel
theorem d_Mod_literal_117 : decode prog_10_method_23_code 117 = .ok (.iconst 0, 1) := by decide +kernel
theorem d_Mod_literal_118 : decode prog_10_method_23_code 118 = .ok (.goto 26, 3) := by decide +kernel
theorem d_Mod_literal_121 : decode prog_10_method_23_code 121 = .ok (.aload_n 0, 1) := by decide +kernel
theorem d_Mod_literal_122 : decode prog_10_method_23_code 122 = .ok (.invokevirtual 110, 3) := by decide +kernel
theorem d_Mod_literal_125 : decode prog_10_method_23_code 125 = .ok (.bipush 101, 2) := by decide +kernel
theorem d_Mod_literal_127 : decode prog_10_method_23_code 127 = .ok (.if_icmp .eq 12, 3) := by decide +kernel
theorem d_Mod_literal_130 : decode prog_10_method_23_code 130 = .ok (.aload_n 0, 1) := by decide +kernel
theorem d_Mod_literal_131 : decode prog_10_method_23_code 131 = .ok (.invokevirtual 110, 3) := by decide +kernel
theorem d_Mod_literal_134 : decode prog_10_method_23_code 134 = .ok (.bipush 69, 2) := by decide +kernel
theorem d_Mod_literal_136 : decode prog_10_method_23_code 136 = .ok (.if_icmp .ne 7, 3) := by decide +kernel
theorem d_Mod_literal_139 : decode prog_10_method_23_code 139 = .ok (.iconst 1, 1) := by decide +kernel
theorem d_Mod_literal_140 : decode prog_10_method_23_code 140 = .ok (.goto 4, 3) := by decide +kernel
theorem d_Mod_literal_143 : decode prog_10_method_23_code 143 = .ok (.iconst 0, 1) := by decide +kernel
theorem d_Mod_literal_144 : decode prog_10_method_23_code 144 = .ok (.istore 4, 2) := by decide +kernel
theorem d_Mod_literal_146 : decode prog_10_method_23_code 146 = .ok (.iload 4, 2) := by decide +kernel
theorem d_Mod_literal_148 : decode prog_10_method_23_code 148 = .ok (.ifCond .eq 7, 3) := by decide +kernel
theorem d_Mod_literal_151 : decode prog_10_method_23_code 151 = .ok (.aload_n 0, 1) := by decide +kernel
theorem d_Mod_literal_152 : decode prog_10_method_23_code 152 = .ok (.invokevirtual 134, 3) := by decide +kernel
theorem d_Mod_literal_155 : decode prog_10_method_23_code 155 = .ok (.aload_n 0, 1) := by decide +kernel
theorem d_Mod_literal_156 : decode prog_10_method_23_code 156 = .ok (.getfield 121, 3) := by decide +kernel
theorem d_Mod_literal_159 : decode prog_10_method_23_code 159 = .ok (.ifCond .eq 27, 3) := by decide +kernel
theorem d_Mod_literal_162 : decode prog_10_method_23_code 162 = .ok (.iload 4, 2) := by decide +kernel
theorem d_Mod_literal_164 : decode prog_10_method_23_code 164 = .ok (.ifCond .ne 7, 3) := by decide +kernel
theorem d_Mod_literal_167 : decode prog_10_method_23_code 167 = .ok (.iload_n 1, 1) := by decide +kernel
theorem d_Mod_literal_168 : decode prog_10_method_23_code 168 = .ok (.ifCond .ne 18, 3) := by decide +kernel
theorem d_Mod_literal_171 : decode prog_10_method_23_code 171 = .ok (.aload_n 0, 1) := by decide +kernel
theorem d_Mod_literal_172 : decode prog_10_method_23_code 172 = .ok (.getfield 107, 3) := by decide +kernel
theorem d_Mod_literal_175 : decode prog_10_method_23_code 175 = .ok (.aload_n 0, 1) := by decide +kernel
theorem d_Mod_literal_176 : decode prog_10_method_23_code 176 = .ok (.getfield 46, 3) := by decide +kernel
theorem d_Mod_literal_179 : decode prog_10_method_23_code 179 = .ok (.if_icmp .ne 7, 3) := by decide +kernel
theorem d_Mod_literal_182 : decode prog_10_method_23_code 182 = .ok (.iconst 1, 1) := by decide +kernel
theorem d_Mod_literal_183 : decode prog_10_method_23_code 183 = .ok (.goto 4, 3) := by decide +kernel
theorem d_Mod_literal_186 : decode prog_10_method_23_code 186 = .ok (.iconst 0, 1) := by decide +kernel
theorem d_Mod_literal_187 : decode prog_10_method_23_code 187 = .ok (.ireturn, 1) := by decide +kernel
def f_Mod_literal_171 (fu : Nat) (n_v_text : Nat) (n_v_a : Nat) (x1 : Int32) (v_length : Int32) (v_text_a : Nat → Int32)  (v_aMany : Int32) (v_at : Int32) (v_digits : Int32) (v_power : Int32) (v_good : Int32) (v_a_a : Nat → Int32) : Option (Int32 × Int32 × Int32 × Int32 × Int32 × Int32 × (Nat → Int32)) :=
  (if v_at = v_length then
  some (1, v_aMany, v_at, v_digits, v_power, v_good, v_a_a)
  else
  some (0, v_aMany, v_at, v_digits, v_power, v_good, v_a_a))
def f_Mod_literal_155 (fu : Nat) (n_v_text : Nat) (n_v_a : Nat) (x1 : Int32) (v_length : Int32) (v_text_a : Nat → Int32)  (y4 : Int32) (v_aMany : Int32) (v_at : Int32) (v_digits : Int32) (v_power : Int32) (v_good : Int32) (v_a_a : Nat → Int32) : Option (Int32 × Int32 × Int32 × Int32 × Int32 × Int32 × (Nat → Int32)) :=
  (if v_good = 0 then
  some (0, v_aMany, v_at, v_digits, v_power, v_good, v_a_a)
  else
  (if y4 = 0 then
  (if x1 = 0 then
  f_Mod_literal_171 fu n_v_text n_v_a x1 v_length v_text_a v_aMany v_at v_digits v_power v_good v_a_a
  else
  some (0, v_aMany, v_at, v_digits, v_power, v_good, v_a_a))
  else
  f_Mod_literal_171 fu n_v_text n_v_a x1 v_length v_text_a v_aMany v_at v_digits v_power v_good v_a_a))
def f_Mod_literal_144 (fu : Nat) (n_v_text : Nat) (n_v_a : Nat) (x1 : Int32) (v_length : Int32) (v_text_a : Nat → Int32)  (k0 : Int32) (v_aMany : Int32) (v_at : Int32) (v_digits : Int32) (v_power : Int32) (v_good : Int32) (v_a_a : Nat → Int32) : Option (Int32 × Int32 × Int32 × Int32 × Int32 × Int32 × (Nat → Int32)) :=
  (if k0 = 0 then
  f_Mod_literal_155 fu n_v_text n_v_a x1 v_length v_text_a k0 v_aMany v_at v_digits v_power v_good v_a_a
  else
  (f_Mod_exponentRow fu n_v_text v_length v_at v_power v_good v_text_a).bind fun u_4 =>
  f_Mod_literal_155 fu n_v_text n_v_a x1 v_length v_text_a k0 v_aMany u_4.1 v_digits u_4.2.1 u_4.2.2 v_a_a)
def f_Mod_literal_139 (fu : Nat) (n_v_text : Nat) (n_v_a : Nat) (x1 : Int32) (v_length : Int32) (v_text_a : Nat → Int32)  (v_aMany : Int32) (v_at : Int32) (v_digits : Int32) (v_power : Int32) (v_good : Int32) (v_a_a : Nat → Int32) : Option (Int32 × Int32 × Int32 × Int32 × Int32 × Int32 × (Nat → Int32)) :=
  f_Mod_literal_144 fu n_v_text n_v_a x1 v_length v_text_a 1 v_aMany v_at v_digits v_power v_good v_a_a
def f_Mod_literal_113 (fu : Nat) (n_v_text : Nat) (n_v_a : Nat) (x1 : Int32) (v_length : Int32) (v_text_a : Nat → Int32)  (v_aMany : Int32) (v_at : Int32) (v_digits : Int32) (v_power : Int32) (v_good : Int32) (v_a_a : Nat → Int32) : Option (Int32 × Int32 × Int32 × Int32 × Int32 × Int32 × (Nat → Int32)) :=
  f_Mod_literal_144 fu n_v_text n_v_a x1 v_length v_text_a 1 v_aMany v_at v_digits v_power v_good v_a_a
def f_Mod_literal_88 (fu : Nat) (n_v_text : Nat) (n_v_a : Nat) (x1 : Int32) (v_length : Int32) (v_text_a : Nat → Int32)  (k1 : Int32) (v_aMany : Int32) (v_at : Int32) (v_digits : Int32) (v_power : Int32) (v_good : Int32) (v_a_a : Nat → Int32) : Option (Int32 × Int32 × Int32 × Int32 × Int32 × Int32 × (Nat → Int32)) :=
  (if x1 = 0 then
  (f_Mod_look n_v_text v_length v_at v_text_a).bind fun u_3 =>
  (if u_3 = 101 then
  f_Mod_literal_139 fu n_v_text n_v_a x1 v_length v_text_a v_aMany v_at v_digits k1 v_good v_a_a
  else
  (f_Mod_look n_v_text v_length v_at v_text_a).bind fun u_5 =>
  (if u_5 = 69 then
  f_Mod_literal_139 fu n_v_text n_v_a x1 v_length v_text_a v_aMany v_at v_digits k1 v_good v_a_a
  else
  f_Mod_literal_144 fu n_v_text n_v_a x1 v_length v_text_a 0 v_aMany v_at v_digits k1 v_good v_a_a))
  else
  (f_Mod_look n_v_text v_length v_at v_text_a).bind fun u_6 =>
  (if u_6 = 112 then
  f_Mod_literal_113 fu n_v_text n_v_a x1 v_length v_text_a v_aMany v_at v_digits k1 v_good v_a_a
  else
  (f_Mod_look n_v_text v_length v_at v_text_a).bind fun u_7 =>
  (if u_7 = 80 then
  f_Mod_literal_113 fu n_v_text n_v_a x1 v_length v_text_a v_aMany v_at v_digits k1 v_good v_a_a
  else
  f_Mod_literal_144 fu n_v_text n_v_a x1 v_length v_text_a 0 v_aMany v_at v_digits k1 v_good v_a_a)))
def f_Mod_literal_66 (fu : Nat) (n_v_text : Nat) (n_v_a : Nat) (x1 : Int32) (v_length : Int32) (v_text_a : Nat → Int32)  (y2 : Int32) (y3 : Int32) (v_aMany : Int32) (v_at : Int32) (v_digits : Int32) (v_power : Int32) (v_good : Int32) (v_a_a : Nat → Int32) : Option (Int32 × Int32 × Int32 × Int32 × Int32 × Int32 × (Nat → Int32)) :=
  (if (y2 + y3) = 0 then
  some (0, v_aMany, v_at, v_digits, v_power, v_good, v_a_a)
  else
  (if x1 = 0 then
  f_Mod_literal_88 fu n_v_text n_v_a x1 v_length v_text_a (-y3) v_aMany v_at v_digits v_power v_good v_a_a
  else
  f_Mod_literal_88 fu n_v_text n_v_a x1 v_length v_text_a ((-4) * y3) v_aMany v_at v_digits v_power v_good v_a_a))
def f_Mod_literal_10 (fu : Nat) (n_v_text : Nat) (n_v_a : Nat) (x1 : Int32) (v_length : Int32) (v_text_a : Nat → Int32)  (k1 : Int32) (v_aMany : Int32) (v_at : Int32) (v_digits : Int32) (v_power : Int32) (v_good : Int32) (v_a_a : Nat → Int32) : Option (Int32 × Int32 × Int32 × Int32 × Int32 × Int32 × (Nat → Int32)) :=
  (f_Mod_row fu n_v_text n_v_a x1 v_length 0 k1 0 1 v_text_a v_a_a).bind fun u_1 =>
  (f_Mod_look n_v_text v_length u_1.2.2.1 v_text_a).bind fun u_2 =>
  (if u_2 = 46 then
  (f_Mod_row fu n_v_text n_v_a x1 v_length u_1.2.1 (u_1.2.2.1 + 1) u_1.2.2.2.1 u_1.2.2.2.2.1 v_text_a u_1.2.2.2.2.2).bind fun u_8 =>
  f_Mod_literal_66 fu n_v_text n_v_a x1 v_length v_text_a u_1.1 u_8.1 u_8.2.1 u_8.2.2.1 u_8.2.2.2.1 0 u_8.2.2.2.2.1 u_8.2.2.2.2.2
  else
  f_Mod_literal_66 fu n_v_text n_v_a x1 v_length v_text_a u_1.1 0 u_1.2.1 u_1.2.2.1 u_1.2.2.2.1 0 u_1.2.2.2.2.1 u_1.2.2.2.2.2)
def f_Mod_literal (fu : Nat) (n_v_text : Nat) (n_v_a : Nat) (x1 : Int32) (v_length : Int32) (v_aMany : Int32) (v_at : Int32) (v_digits : Int32) (v_power : Int32) (v_good : Int32) (v_text_a : Nat → Int32) (v_a_a : Nat → Int32) : Option (Int32 × Int32 × Int32 × Int32 × Int32 × Int32 × (Nat → Int32)) :=
  (if x1 = 0 then
  f_Mod_literal_10 fu n_v_text n_v_a x1 v_length v_text_a 0 v_aMany v_at v_digits v_power v_good v_a_a
  else
  f_Mod_literal_10 fu n_v_text n_v_a x1 v_length v_text_a 2 v_aMany v_at v_digits v_power v_good v_a_a)
set_option maxHeartbeats 4000000 in
set_option maxRecDepth 100000 in
theorem c_Mod_literal (l : Launch) (dC : Nat → ClassId) (dI : Nat → Nat → Nat) (cI cC cB cJ : ClassId) (fu : Nat) (sz : Nat) (h_v : Nat) (h_v_text : Nat) (h_v_a : Nat) (h_v_written : Nat) (h_v_b : Nat) (h_v_five : Nat) (h_v_left : Nat) (h_v_right : Nat) (h_v_part : Nat) (n_v_text : Nat) (n_v_a : Nat) (x1 : Int32) (v_length : Int32) (v_laid : Int32) (v_gone : Int32) (v_thrown : Int32) (v_were : Int32) (v_none : Int32) (v_beyond : Int32) (v_aMany : Int32) (v_bMany : Int32) (v_fiveMany : Int32) (v_leftMany : Int32) (v_rightMany : Int32) (v_partMany : Int32) (v_twos : Int32) (v_at : Int32) (v_digits : Int32) (v_power : Int32) (v_good : Int32) (v_text_a : Nat → Int32) (v_a_a : Nat → Int32) (u : Int32 × Int32 × Int32 × Int32 × Int32 × Int32 × (Nat → Int32)) (hf : f_Mod_literal fu n_v_text n_v_a x1 v_length v_aMany v_at v_digits v_power v_good v_text_a v_a_a = some u) : Met l y_Mod_literal ws_Mod_literal rm_Mod_literal (zz_P zz_T (dC, dI) vwCl (zz_tys cI cC cB cJ) [.ref h_v, .int x1] [(h_v, .inr (7, [.ref h_v_text, .ref h_v_written, .int v_length, .int v_laid, .int v_gone, .int v_thrown, .int v_were, .int v_none, .int v_beyond, .ref h_v_a, .ref h_v_b, .ref h_v_five, .ref h_v_left, .ref h_v_right, .ref h_v_part, .int v_aMany, .int v_bMany, .int v_fiveMany, .int v_leftMany, .int v_rightMany, .int v_partMany, .int v_twos, .int v_at, .int v_digits, .int v_power, .int v_good])), (h_v_text, .inl (cI, n_v_text, .inl v_text_a)), (h_v_a, .inl (cI, n_v_a, .inl v_a_a))] sz) (zz_Qi (dC, dI) vwCl u.1 [(h_v, .inr (7, [.ref h_v_text, .ref h_v_written, .int v_length, .int v_laid, .int v_gone, .int v_thrown, .int v_were, .int v_none, .int v_beyond, .ref h_v_a, .ref h_v_b, .ref h_v_five, .ref h_v_left, .ref h_v_right, .ref h_v_part, .int u.2.1, .int v_bMany, .int v_fiveMany, .int v_leftMany, .int v_rightMany, .int v_partMany, .int v_twos, .int u.2.2.1, .int u.2.2.2.1, .int u.2.2.2.2.1, .int u.2.2.2.2.2.1])), (h_v_text, .inl (cI, n_v_text, .inl v_text_a)), (h_v_a, .inl (cI, n_v_a, .inl u.2.2.2.2.2.2))] (va_A [(h_v, .inr (7, [.ref h_v_text, .ref h_v_written, .int v_length, .int v_laid, .int v_gone, .int v_thrown, .int v_were, .int v_none, .int v_beyond, .ref h_v_a, .ref h_v_b, .ref h_v_five, .ref h_v_left, .ref h_v_right, .ref h_v_part, .int v_aMany, .int v_bMany, .int v_fiveMany, .int v_leftMany, .int v_rightMany, .int v_partMany, .int v_twos, .int v_at, .int v_digits, .int v_power, .int v_good])), (h_v_text, .inl (cI, n_v_text, .inl v_text_a)), (h_v_a, .inl (cI, n_v_a, .inl v_a_a))] sz)) 0 0 (va_A [(h_v, .inr (7, [.ref h_v_text, .ref h_v_written, .int v_length, .int v_laid, .int v_gone, .int v_thrown, .int v_were, .int v_none, .int v_beyond, .ref h_v_a, .ref h_v_b, .ref h_v_five, .ref h_v_left, .ref h_v_right, .ref h_v_part, .int v_aMany, .int v_bMany, .int v_fiveMany, .int v_leftMany, .int v_rightMany, .int v_partMany, .int v_twos, .int v_at, .int v_digits, .int v_power, .int v_good])), (h_v_text, .inl (cI, n_v_text, .inl v_text_a)), (h_v_a, .inl (cI, n_v_a, .inl v_a_a))] sz) := by
  refine Met.ofW (cc := prog_10_method_23_code) (maxL := 5) (ret := (some .boolean)) (by decide +kernel) rfl ?_
  intro p e s m args below meth c s₁ B hml hv
  obtain ⟨rfl, hsz, hP, hK, hD0, hX⟩ := hv
  have hx := B.exec
  have hb := B.bytes
  have hr := B.returns
  have hts := atoms_spec (ws := ws_Mod_literal) B.pre
  have hw : ∀ w ∈ zw, w.before [.ref h_v, .int x1].toArray s = true := fun w h => hts w (List.mem_cons_of_mem _ h)
  have hown : s.vm.findClass R_Mod = some m.cls := findClass_of_methodNamed B.named
  have hlocks := B.notSynchronized
  subst hsz
  have hD := hD0.self (sz := s.heap.size)
  generalize hAe : va_A [(h_v, .inr (7, [.ref h_v_text, .ref h_v_written, .int v_length, .int v_laid, .int v_gone, .int v_thrown, .int v_were, .int v_none, .int v_beyond, .ref h_v_a, .ref h_v_b, .ref h_v_five, .ref h_v_left, .ref h_v_right, .ref h_v_part, .int v_aMany, .int v_bMany, .int v_fiveMany, .int v_leftMany, .int v_rightMany, .int v_partMany, .int v_twos, .int v_at, .int v_digits, .int v_power, .int v_good])), (h_v_text, .inl (cI, n_v_text, .inl v_text_a)), (h_v_a, .inl (cI, n_v_a, .inl v_a_a))] s.heap.size = A at hD hX ⊢
  have hA : ∀ q : Nat, s.heap.size ≤ q → A q := fun q h => by rw [← hAe]; exact Or.inr h
  have hS : va_S A s.heap s.heap [] := va_S.rf
  have hl := lv_entry [.ref h_v, .int x1] (n := 5) (Nat.le_of_ble_eq_true rfl)
  rw [lg_entry_eq]
  generalize (lg_sl [.ref h_v, .int x1] ++ List.replicate (5 - (lg_sl [.ref h_v, .int x1]).length) Slot.unset).toArray = ls at hl ⊢
  have hl : lv_has ls 5 [(0, .ref h_v), (1, .int x1)] := hl
  refine zz_endz hx hb hr hlocks (fun Qq hend => ?_)
  have hL_171 : ∀ (v_aMany : Int32) (v_at : Int32) (v_digits : Int32) (v_power : Int32) (v_good : Int32) (v_a_a : Nat → Int32) (ls : Array Slot) (H : Heap) (locs : List Loc), lv_has ls 5 [(0, .ref h_v)] → va_P (dC, dI) vwCl [(h_v, .inr (7, [.ref h_v_text, .ref h_v_written, .int v_length, .int v_laid, .int v_gone, .int v_thrown, .int v_were, .int v_none, .int v_beyond, .ref h_v_a, .ref h_v_b, .ref h_v_five, .ref h_v_left, .ref h_v_right, .ref h_v_part, .int v_aMany, .int v_bMany, .int v_fiveMany, .int v_leftMany, .int v_rightMany, .int v_partMany, .int v_twos, .int v_at, .int v_digits, .int v_power, .int v_good])), (h_v_text, .inl (cI, n_v_text, .inl v_text_a)), (h_v_a, .inl (cI, n_v_a, .inl v_a_a))] H → va_D A [(h_v, .inr (7, [.ref h_v_text, .ref h_v_written, .int v_length, .int v_laid, .int v_gone, .int v_thrown, .int v_were, .int v_none, .int v_beyond, .ref h_v_a, .ref h_v_b, .ref h_v_five, .ref h_v_left, .ref h_v_right, .ref h_v_part, .int v_aMany, .int v_bMany, .int v_fiveMany, .int v_leftMany, .int v_rightMany, .int v_partMany, .int v_twos, .int v_at, .int v_digits, .int v_power, .int v_good])), (h_v_text, .inl (cI, n_v_text, .inl v_text_a)), (h_v_a, .inl (cI, n_v_a, .inl v_a_a))] → va_S A s.heap H locs → f_Mod_literal_171 fu n_v_text n_v_a x1 v_length v_text_a v_aMany v_at v_digits v_power v_good v_a_a = some u → W p l e (headSpec ws_Mod_literal rm_Mod_literal).room s m [.ref h_v, .int x1].toArray below meth c H locs 0 0 Qq (F0 m 171 ls []) := by
    intro v_aMany v_at v_digits v_power v_good v_a_a ls H locs hl hP hD hS hf
    unfold f_Mod_literal_171 at hf
    refine lv_aload_n hx hb d_Mod_literal_171 rfl (lv_at hl 0 rfl) ?_
    refine va_get (D := (dC, dI)) (ci := 7) (v := .int v_at) (C := R_Mod) (T := T_Mod) (N := 26) hx hb hw in_Mod hown hK hP 0 rfl rfl 22 (by decide) (hw _ wd_695) (fun _ h9 => h9) rfl d_Mod_literal_172 ?_
    refine lv_aload_n hx hb d_Mod_literal_175 rfl (lv_at hl 0 rfl) ?_
    refine va_get (D := (dC, dI)) (ci := 7) (v := .int v_length) (C := R_Mod) (T := T_Mod) (N := 26) hx hb hw in_Mod hown hK hP 0 rfl rfl 2 (by decide) (hw _ wd_676) (fun _ h9 => h9) rfl d_Mod_literal_176 ?_
    refine lv_icmp_ne (tgt := 186) hx hb d_Mod_literal_179 (by decide) (fun hc => ?_) (fun hc => ?_)
    · have hf := zz_ifn hc hf
      refine lv_iconst (v := 0) hx hb d_Mod_literal_186 (by decide) ?_
      cases hf
      exact hend 187 ls _ _ narrow_b0 d_Mod_literal_187 hP hD hS
    · have hf := zz_ifp hc hf
      refine lv_iconst (v := 1) hx hb d_Mod_literal_182 (by decide) ?_
      refine lv_goto (tgt := 187) hx hb d_Mod_literal_183 (by decide) ?_
      cases hf
      exact hend 187 ls _ _ narrow_b1 d_Mod_literal_187 hP hD hS
  have hL_155 : ∀ (y4 : Int32) (v_aMany : Int32) (v_at : Int32) (v_digits : Int32) (v_power : Int32) (v_good : Int32) (v_a_a : Nat → Int32) (ls : Array Slot) (H : Heap) (locs : List Loc), lv_has ls 5 [(0, .ref h_v), (1, .int x1), (4, .int y4)] → va_P (dC, dI) vwCl [(h_v, .inr (7, [.ref h_v_text, .ref h_v_written, .int v_length, .int v_laid, .int v_gone, .int v_thrown, .int v_were, .int v_none, .int v_beyond, .ref h_v_a, .ref h_v_b, .ref h_v_five, .ref h_v_left, .ref h_v_right, .ref h_v_part, .int v_aMany, .int v_bMany, .int v_fiveMany, .int v_leftMany, .int v_rightMany, .int v_partMany, .int v_twos, .int v_at, .int v_digits, .int v_power, .int v_good])), (h_v_text, .inl (cI, n_v_text, .inl v_text_a)), (h_v_a, .inl (cI, n_v_a, .inl v_a_a))] H → va_D A [(h_v, .inr (7, [.ref h_v_text, .ref h_v_written, .int v_length, .int v_laid, .int v_gone, .int v_thrown, .int v_were, .int v_none, .int v_beyond, .ref h_v_a, .ref h_v_b, .ref h_v_five, .ref h_v_left, .ref h_v_right, .ref h_v_part, .int v_aMany, .int v_bMany, .int v_fiveMany, .int v_leftMany, .int v_rightMany, .int v_partMany, .int v_twos, .int v_at, .int v_digits, .int v_power, .int v_good])), (h_v_text, .inl (cI, n_v_text, .inl v_text_a)), (h_v_a, .inl (cI, n_v_a, .inl v_a_a))] → va_S A s.heap H locs → f_Mod_literal_155 fu n_v_text n_v_a x1 v_length v_text_a y4 v_aMany v_at v_digits v_power v_good v_a_a = some u → W p l e (headSpec ws_Mod_literal rm_Mod_literal).room s m [.ref h_v, .int x1].toArray below meth c H locs 0 0 Qq (F0 m 155 ls []) := by
    intro y4 v_aMany v_at v_digits v_power v_good v_a_a ls H locs hl hP hD hS hf
    unfold f_Mod_literal_155 at hf
    refine lv_aload_n hx hb d_Mod_literal_155 rfl (lv_at hl 0 rfl) ?_
    refine va_get (D := (dC, dI)) (ci := 7) (v := .int v_good) (C := R_Mod) (T := T_Mod) (N := 26) hx hb hw in_Mod hown hK hP 0 rfl rfl 25 (by decide) (hw _ wd_698) (fun _ h9 => h9) rfl d_Mod_literal_156 ?_
    refine lv_if_eq (tgt := 186) hx hb d_Mod_literal_159 (by decide) (fun hc => ?_) (fun hc => ?_)
    · have hf := zz_ifp hc hf
      refine lv_iconst (v := 0) hx hb d_Mod_literal_186 (by decide) ?_
      cases hf
      exact hend 187 ls _ _ narrow_b0 d_Mod_literal_187 hP hD hS
    · have hf := zz_ifn hc hf
      refine lv_iload hx hb d_Mod_literal_162 (lv_at hl 2 rfl) ?_
      refine lv_if_ne (tgt := 171) hx hb d_Mod_literal_164 (by decide) (fun hc => ?_) (fun hc => ?_)
      · have hf := zz_ifn hc hf
        exact hL_171 v_aMany v_at v_digits v_power v_good v_a_a ls _ _ (lv_sub hl [0] rfl) hP hD hS hf
      · have hf := zz_ifp hc hf
        refine lv_iload_n hx hb d_Mod_literal_167 rfl (lv_at hl 1 rfl) ?_
        refine lv_if_ne (tgt := 186) hx hb d_Mod_literal_168 (by decide) (fun hc => ?_) (fun hc => ?_)
        · have hf := zz_ifn hc hf
          refine lv_iconst (v := 0) hx hb d_Mod_literal_186 (by decide) ?_
          cases hf
          exact hend 187 ls _ _ narrow_b0 d_Mod_literal_187 hP hD hS
        · have hf := zz_ifp hc hf
          exact hL_171 v_aMany v_at v_digits v_power v_good v_a_a ls _ _ (lv_sub hl [0] rfl) hP hD hS hf
  have hL_144 : ∀ (k0 : Int32) (v_aMany : Int32) (v_at : Int32) (v_digits : Int32) (v_power : Int32) (v_good : Int32) (v_a_a : Nat → Int32) (ls : Array Slot) (H : Heap) (locs : List Loc), lv_has ls 5 [(0, .ref h_v), (1, .int x1)] → va_P (dC, dI) vwCl [(h_v, .inr (7, [.ref h_v_text, .ref h_v_written, .int v_length, .int v_laid, .int v_gone, .int v_thrown, .int v_were, .int v_none, .int v_beyond, .ref h_v_a, .ref h_v_b, .ref h_v_five, .ref h_v_left, .ref h_v_right, .ref h_v_part, .int v_aMany, .int v_bMany, .int v_fiveMany, .int v_leftMany, .int v_rightMany, .int v_partMany, .int v_twos, .int v_at, .int v_digits, .int v_power, .int v_good])), (h_v_text, .inl (cI, n_v_text, .inl v_text_a)), (h_v_a, .inl (cI, n_v_a, .inl v_a_a))] H → va_D A [(h_v, .inr (7, [.ref h_v_text, .ref h_v_written, .int v_length, .int v_laid, .int v_gone, .int v_thrown, .int v_were, .int v_none, .int v_beyond, .ref h_v_a, .ref h_v_b, .ref h_v_five, .ref h_v_left, .ref h_v_right, .ref h_v_part, .int v_aMany, .int v_bMany, .int v_fiveMany, .int v_leftMany, .int v_rightMany, .int v_partMany, .int v_twos, .int v_at, .int v_digits, .int v_power, .int v_good])), (h_v_text, .inl (cI, n_v_text, .inl v_text_a)), (h_v_a, .inl (cI, n_v_a, .inl v_a_a))] → va_S A s.heap H locs → f_Mod_literal_144 fu n_v_text n_v_a x1 v_length v_text_a k0 v_aMany v_at v_digits v_power v_good v_a_a = some u → W p l e (headSpec ws_Mod_literal rm_Mod_literal).room s m [.ref h_v, .int x1].toArray below meth c H locs 0 0 Qq (F0 m 144 ls [.int k0]) := by
    intro k0 v_aMany v_at v_digits v_power v_good v_a_a ls H locs hl hP hD hS hf
    unfold f_Mod_literal_144 at hf
    refine lv_istore hx hb d_Mod_literal_144 hl (by decide) rfl (fun ls hl => ?_)
    have hl : lv_has ls 5 [(4, .int k0), (0, .ref h_v), (1, .int x1)] := hl
    refine lv_iload hx hb d_Mod_literal_146 (lv_at hl 0 rfl) ?_
    refine lv_if_eq (tgt := 155) hx hb d_Mod_literal_148 (by decide) (fun hc => ?_) (fun hc => ?_)
    · have hf := zz_ifp hc hf
      exact hL_155 k0 v_aMany v_at v_digits v_power v_good v_a_a ls _ _ (lv_sub hl [1, 2, 0] rfl) hP hD hS hf
    · have hf := zz_ifn hc hf
      refine lv_aload_n hx hb d_Mod_literal_151 rfl (lv_at hl 1 rfl) ?_
      obtain ⟨u_4, hu_4, hf⟩ := zz_bd hf
      refine zz_cv (ws' := [(h_v, .inr (7, [.ref h_v_text, .ref h_v_written, .int v_length, .int v_laid, .int v_gone, .int v_thrown, .int v_were, .int v_none, .int v_beyond, .ref h_v_a, .ref h_v_b, .ref h_v_five, .ref h_v_left, .ref h_v_right, .ref h_v_part, .int v_aMany, .int v_bMany, .int v_fiveMany, .int v_leftMany, .int v_rightMany, .int v_partMany, .int v_twos, .int u_4.1, .int v_digits, .int u_4.2.1, .int u_4.2.2])), (h_v_text, .inl (cI, n_v_text, .inl v_text_a)), (h_v_a, .inl (cI, n_v_a, .inl v_a_a))]) (wc := [(h_v, .inr (7, [.ref h_v_text, .ref h_v_written, .int v_length, .int v_laid, .int v_gone, .int v_thrown, .int v_were, .int v_none, .int v_beyond, .ref h_v_a, .ref h_v_b, .ref h_v_five, .ref h_v_left, .ref h_v_right, .ref h_v_part, .int v_aMany, .int v_bMany, .int v_fiveMany, .int v_leftMany, .int v_rightMany, .int v_partMany, .int v_twos, .int v_at, .int v_digits, .int v_power, .int v_good])), (h_v_text, .inl (cI, n_v_text, .inl v_text_a))]) (w' := [(h_v, .inr (7, [.ref h_v_text, .ref h_v_written, .int v_length, .int v_laid, .int v_gone, .int v_thrown, .int v_were, .int v_none, .int v_beyond, .ref h_v_a, .ref h_v_b, .ref h_v_five, .ref h_v_left, .ref h_v_right, .ref h_v_part, .int v_aMany, .int v_bMany, .int v_fiveMany, .int v_leftMany, .int v_rightMany, .int v_partMany, .int v_twos, .int u_4.1, .int v_digits, .int u_4.2.1, .int u_4.2.2])), (h_v_text, .inl (cI, n_v_text, .inl v_text_a))]) hP hD hS hA [0, 1] [2] [1, 2, 0] rfl rfl (by decide) (by decide) rfl (by decide) (va_runV (As := []) (rest := []) ⟨hx, hb, hml, hown, hw⟩ (c_Mod_exponentRow l dC dI cI cC cB cJ fu _ h_v h_v_text h_v_written h_v_a h_v_b h_v_five h_v_left h_v_right h_v_part n_v_text v_length v_laid v_gone v_thrown v_were v_none v_beyond v_aMany v_bMany v_fiveMany v_leftMany v_rightMany v_partMany v_twos v_at v_digits v_power v_good v_text_a u_4 hu_4) (cwV 0 hw (zg_V wd_797 wd_799 we_1_14 wd_8 wd_800) rfl rfl rfl hd_Mod_exponentRow ⟨Nat.le_of_ble_eq_true rfl, Nat.le_of_ble_eq_true rfl⟩) (zz_preV zz_TE (va_recv (q0 := 0) (ci := 7) hK hP rfl rfl) hP hD hK hS hA trivial [0, 1] rfl (by decide)) rfl rfl hl.1 rfl (lv_room (Nat.le_of_ble_eq_true rfl)) d_Mod_literal_152 ⟨Nat.zero_le _, Nat.zero_le _⟩) (fun H locs hP hD hS => ?_)
      exact hL_155 k0 v_aMany u_4.1 v_digits u_4.2.1 u_4.2.2 v_a_a ls _ _ (lv_sub hl [1, 2, 0] rfl) hP hD hS hf
  have hL_139 : ∀ (v_aMany : Int32) (v_at : Int32) (v_digits : Int32) (v_power : Int32) (v_good : Int32) (v_a_a : Nat → Int32) (ls : Array Slot) (H : Heap) (locs : List Loc), lv_has ls 5 [(0, .ref h_v), (1, .int x1)] → va_P (dC, dI) vwCl [(h_v, .inr (7, [.ref h_v_text, .ref h_v_written, .int v_length, .int v_laid, .int v_gone, .int v_thrown, .int v_were, .int v_none, .int v_beyond, .ref h_v_a, .ref h_v_b, .ref h_v_five, .ref h_v_left, .ref h_v_right, .ref h_v_part, .int v_aMany, .int v_bMany, .int v_fiveMany, .int v_leftMany, .int v_rightMany, .int v_partMany, .int v_twos, .int v_at, .int v_digits, .int v_power, .int v_good])), (h_v_text, .inl (cI, n_v_text, .inl v_text_a)), (h_v_a, .inl (cI, n_v_a, .inl v_a_a))] H → va_D A [(h_v, .inr (7, [.ref h_v_text, .ref h_v_written, .int v_length, .int v_laid, .int v_gone, .int v_thrown, .int v_were, .int v_none, .int v_beyond, .ref h_v_a, .ref h_v_b, .ref h_v_five, .ref h_v_left, .ref h_v_right, .ref h_v_part, .int v_aMany, .int v_bMany, .int v_fiveMany, .int v_leftMany, .int v_rightMany, .int v_partMany, .int v_twos, .int v_at, .int v_digits, .int v_power, .int v_good])), (h_v_text, .inl (cI, n_v_text, .inl v_text_a)), (h_v_a, .inl (cI, n_v_a, .inl v_a_a))] → va_S A s.heap H locs → f_Mod_literal_139 fu n_v_text n_v_a x1 v_length v_text_a v_aMany v_at v_digits v_power v_good v_a_a = some u → W p l e (headSpec ws_Mod_literal rm_Mod_literal).room s m [.ref h_v, .int x1].toArray below meth c H locs 0 0 Qq (F0 m 139 ls []) := by
    intro v_aMany v_at v_digits v_power v_good v_a_a ls H locs hl hP hD hS hf
    unfold f_Mod_literal_139 at hf
    refine lv_iconst (v := 1) hx hb d_Mod_literal_139 (by decide) ?_
    refine lv_goto (tgt := 144) hx hb d_Mod_literal_140 (by decide) ?_
    exact hL_144 1 v_aMany v_at v_digits v_power v_good v_a_a ls _ _ (lv_sub hl [0, 1] rfl) hP hD hS hf
  have hL_113 : ∀ (v_aMany : Int32) (v_at : Int32) (v_digits : Int32) (v_power : Int32) (v_good : Int32) (v_a_a : Nat → Int32) (ls : Array Slot) (H : Heap) (locs : List Loc), lv_has ls 5 [(0, .ref h_v), (1, .int x1)] → va_P (dC, dI) vwCl [(h_v, .inr (7, [.ref h_v_text, .ref h_v_written, .int v_length, .int v_laid, .int v_gone, .int v_thrown, .int v_were, .int v_none, .int v_beyond, .ref h_v_a, .ref h_v_b, .ref h_v_five, .ref h_v_left, .ref h_v_right, .ref h_v_part, .int v_aMany, .int v_bMany, .int v_fiveMany, .int v_leftMany, .int v_rightMany, .int v_partMany, .int v_twos, .int v_at, .int v_digits, .int v_power, .int v_good])), (h_v_text, .inl (cI, n_v_text, .inl v_text_a)), (h_v_a, .inl (cI, n_v_a, .inl v_a_a))] H → va_D A [(h_v, .inr (7, [.ref h_v_text, .ref h_v_written, .int v_length, .int v_laid, .int v_gone, .int v_thrown, .int v_were, .int v_none, .int v_beyond, .ref h_v_a, .ref h_v_b, .ref h_v_five, .ref h_v_left, .ref h_v_right, .ref h_v_part, .int v_aMany, .int v_bMany, .int v_fiveMany, .int v_leftMany, .int v_rightMany, .int v_partMany, .int v_twos, .int v_at, .int v_digits, .int v_power, .int v_good])), (h_v_text, .inl (cI, n_v_text, .inl v_text_a)), (h_v_a, .inl (cI, n_v_a, .inl v_a_a))] → va_S A s.heap H locs → f_Mod_literal_113 fu n_v_text n_v_a x1 v_length v_text_a v_aMany v_at v_digits v_power v_good v_a_a = some u → W p l e (headSpec ws_Mod_literal rm_Mod_literal).room s m [.ref h_v, .int x1].toArray below meth c H locs 0 0 Qq (F0 m 113 ls []) := by
    intro v_aMany v_at v_digits v_power v_good v_a_a ls H locs hl hP hD hS hf
    unfold f_Mod_literal_113 at hf
    refine lv_iconst (v := 1) hx hb d_Mod_literal_113 (by decide) ?_
    refine lv_goto (tgt := 144) hx hb d_Mod_literal_114 (by decide) ?_
    exact hL_144 1 v_aMany v_at v_digits v_power v_good v_a_a ls _ _ (lv_sub hl [0, 1] rfl) hP hD hS hf
  have hL_88 : ∀ (k1 : Int32) (v_aMany : Int32) (v_at : Int32) (v_digits : Int32) (v_power : Int32) (v_good : Int32) (v_a_a : Nat → Int32) (ls : Array Slot) (H : Heap) (locs : List Loc), lv_has ls 5 [(0, .ref h_v), (1, .int x1)] → va_P (dC, dI) vwCl [(h_v, .inr (7, [.ref h_v_text, .ref h_v_written, .int v_length, .int v_laid, .int v_gone, .int v_thrown, .int v_were, .int v_none, .int v_beyond, .ref h_v_a, .ref h_v_b, .ref h_v_five, .ref h_v_left, .ref h_v_right, .ref h_v_part, .int v_aMany, .int v_bMany, .int v_fiveMany, .int v_leftMany, .int v_rightMany, .int v_partMany, .int v_twos, .int v_at, .int v_digits, .int v_power, .int v_good])), (h_v_text, .inl (cI, n_v_text, .inl v_text_a)), (h_v_a, .inl (cI, n_v_a, .inl v_a_a))] H → va_D A [(h_v, .inr (7, [.ref h_v_text, .ref h_v_written, .int v_length, .int v_laid, .int v_gone, .int v_thrown, .int v_were, .int v_none, .int v_beyond, .ref h_v_a, .ref h_v_b, .ref h_v_five, .ref h_v_left, .ref h_v_right, .ref h_v_part, .int v_aMany, .int v_bMany, .int v_fiveMany, .int v_leftMany, .int v_rightMany, .int v_partMany, .int v_twos, .int v_at, .int v_digits, .int v_power, .int v_good])), (h_v_text, .inl (cI, n_v_text, .inl v_text_a)), (h_v_a, .inl (cI, n_v_a, .inl v_a_a))] → va_S A s.heap H locs → f_Mod_literal_88 fu n_v_text n_v_a x1 v_length v_text_a k1 v_aMany v_at v_digits v_power v_good v_a_a = some u → W p l e (headSpec ws_Mod_literal rm_Mod_literal).room s m [.ref h_v, .int x1].toArray below meth c H locs 0 0 Qq (F0 m 88 ls [.int k1, .ref h_v]) := by
    intro k1 v_aMany v_at v_digits v_power v_good v_a_a ls H locs hl hP hD hS hf
    unfold f_Mod_literal_88 at hf
    refine va_put (D := (dC, dI)) (ci := 7) (v := .int k1) (ty := .int) (C := R_Mod) (T := T_Mod) (N := 26) hx hb hw in_Mod ty_Mod tyok_Mod nm_Mod hown hK hP hD hS 0 rfl rfl 24 (by decide) (hw _ wd_697) (fun _ h9 => h9) rfl (tyok_Mod 24 (by decide)) rfl rfl (Nat.le_of_ble_eq_true rfl) d_Mod_literal_88 (fun H locs hP hD hS => ?_)
    have hP : va_P (dC, dI) vwCl [(h_v, .inr (7, [.ref h_v_text, .ref h_v_written, .int v_length, .int v_laid, .int v_gone, .int v_thrown, .int v_were, .int v_none, .int v_beyond, .ref h_v_a, .ref h_v_b, .ref h_v_five, .ref h_v_left, .ref h_v_right, .ref h_v_part, .int v_aMany, .int v_bMany, .int v_fiveMany, .int v_leftMany, .int v_rightMany, .int v_partMany, .int v_twos, .int v_at, .int v_digits, .int k1, .int v_good])), (h_v_text, .inl (cI, n_v_text, .inl v_text_a)), (h_v_a, .inl (cI, n_v_a, .inl v_a_a))] H := hP
    have hD : va_D A [(h_v, .inr (7, [.ref h_v_text, .ref h_v_written, .int v_length, .int v_laid, .int v_gone, .int v_thrown, .int v_were, .int v_none, .int v_beyond, .ref h_v_a, .ref h_v_b, .ref h_v_five, .ref h_v_left, .ref h_v_right, .ref h_v_part, .int v_aMany, .int v_bMany, .int v_fiveMany, .int v_leftMany, .int v_rightMany, .int v_partMany, .int v_twos, .int v_at, .int v_digits, .int k1, .int v_good])), (h_v_text, .inl (cI, n_v_text, .inl v_text_a)), (h_v_a, .inl (cI, n_v_a, .inl v_a_a))] := hD
    refine lv_iload_n hx hb d_Mod_literal_91 rfl (lv_at hl 1 rfl) ?_
    refine lv_if_eq (tgt := 121) hx hb d_Mod_literal_92 (by decide) (fun hc => ?_) (fun hc => ?_)
    · have hf := zz_ifp hc hf
      refine lv_aload_n hx hb d_Mod_literal_121 rfl (lv_at hl 0 rfl) ?_
      obtain ⟨u_3, hu_3, hf⟩ := zz_bd hf
      refine zz_ci (ws' := [(h_v, .inr (7, [.ref h_v_text, .ref h_v_written, .int v_length, .int v_laid, .int v_gone, .int v_thrown, .int v_were, .int v_none, .int v_beyond, .ref h_v_a, .ref h_v_b, .ref h_v_five, .ref h_v_left, .ref h_v_right, .ref h_v_part, .int v_aMany, .int v_bMany, .int v_fiveMany, .int v_leftMany, .int v_rightMany, .int v_partMany, .int v_twos, .int v_at, .int v_digits, .int k1, .int v_good])), (h_v_text, .inl (cI, n_v_text, .inl v_text_a)), (h_v_a, .inl (cI, n_v_a, .inl v_a_a))]) (wc := [(h_v, .inr (7, [.ref h_v_text, .ref h_v_written, .int v_length, .int v_laid, .int v_gone, .int v_thrown, .int v_were, .int v_none, .int v_beyond, .ref h_v_a, .ref h_v_b, .ref h_v_five, .ref h_v_left, .ref h_v_right, .ref h_v_part, .int v_aMany, .int v_bMany, .int v_fiveMany, .int v_leftMany, .int v_rightMany, .int v_partMany, .int v_twos, .int v_at, .int v_digits, .int k1, .int v_good])), (h_v_text, .inl (cI, n_v_text, .inl v_text_a))]) (w' := [(h_v, .inr (7, [.ref h_v_text, .ref h_v_written, .int v_length, .int v_laid, .int v_gone, .int v_thrown, .int v_were, .int v_none, .int v_beyond, .ref h_v_a, .ref h_v_b, .ref h_v_five, .ref h_v_left, .ref h_v_right, .ref h_v_part, .int v_aMany, .int v_bMany, .int v_fiveMany, .int v_leftMany, .int v_rightMany, .int v_partMany, .int v_twos, .int v_at, .int v_digits, .int k1, .int v_good])), (h_v_text, .inl (cI, n_v_text, .inl v_text_a))]) hP hD hS hA [0, 1] [2] [1, 2, 0] rfl rfl (by decide) (by decide) rfl (by decide) (va_runV (As := []) (rest := []) ⟨hx, hb, hml, hown, hw⟩ (c_Mod_look l dC dI cI cC cB cJ _ h_v h_v_text h_v_written h_v_a h_v_b h_v_five h_v_left h_v_right h_v_part n_v_text v_length v_laid v_gone v_thrown v_were v_none v_beyond v_aMany v_bMany v_fiveMany v_leftMany v_rightMany v_partMany v_twos v_at v_digits k1 v_good v_text_a u_3 hu_3) (cwV 0 hw (zg_V wd_783 wd_785 we_1_13 wd_8 wd_786) rfl rfl rfl hd_Mod_look ⟨Nat.le_of_ble_eq_true rfl, Nat.le_of_ble_eq_true rfl⟩) (zz_preV zz_TE (va_recv (q0 := 0) (ci := 7) hK hP rfl rfl) hP hD hK hS hA trivial [0, 1] rfl (by decide)) rfl rfl hl.1 rfl (lv_room (Nat.le_of_ble_eq_true rfl)) d_Mod_literal_122 ⟨Nat.zero_le _, Nat.zero_le _⟩) (fun H locs hP hD hS => ?_)
      refine lv_bipush (v := 101) hx hb d_Mod_literal_125 (by decide) ?_
      refine lv_icmp_eq (tgt := 139) hx hb d_Mod_literal_127 (by decide) (fun hc => ?_) (fun hc => ?_)
      · have hf := zz_ifp hc hf
        exact hL_139 v_aMany v_at v_digits k1 v_good v_a_a ls _ _ (lv_sub hl [0, 1] rfl) hP hD hS hf
      · have hf := zz_ifn hc hf
        refine lv_aload_n hx hb d_Mod_literal_130 rfl (lv_at hl 0 rfl) ?_
        obtain ⟨u_5, hu_5, hf⟩ := zz_bd hf
        refine zz_ci (ws' := [(h_v, .inr (7, [.ref h_v_text, .ref h_v_written, .int v_length, .int v_laid, .int v_gone, .int v_thrown, .int v_were, .int v_none, .int v_beyond, .ref h_v_a, .ref h_v_b, .ref h_v_five, .ref h_v_left, .ref h_v_right, .ref h_v_part, .int v_aMany, .int v_bMany, .int v_fiveMany, .int v_leftMany, .int v_rightMany, .int v_partMany, .int v_twos, .int v_at, .int v_digits, .int k1, .int v_good])), (h_v_text, .inl (cI, n_v_text, .inl v_text_a)), (h_v_a, .inl (cI, n_v_a, .inl v_a_a))]) (wc := [(h_v, .inr (7, [.ref h_v_text, .ref h_v_written, .int v_length, .int v_laid, .int v_gone, .int v_thrown, .int v_were, .int v_none, .int v_beyond, .ref h_v_a, .ref h_v_b, .ref h_v_five, .ref h_v_left, .ref h_v_right, .ref h_v_part, .int v_aMany, .int v_bMany, .int v_fiveMany, .int v_leftMany, .int v_rightMany, .int v_partMany, .int v_twos, .int v_at, .int v_digits, .int k1, .int v_good])), (h_v_text, .inl (cI, n_v_text, .inl v_text_a))]) (w' := [(h_v, .inr (7, [.ref h_v_text, .ref h_v_written, .int v_length, .int v_laid, .int v_gone, .int v_thrown, .int v_were, .int v_none, .int v_beyond, .ref h_v_a, .ref h_v_b, .ref h_v_five, .ref h_v_left, .ref h_v_right, .ref h_v_part, .int v_aMany, .int v_bMany, .int v_fiveMany, .int v_leftMany, .int v_rightMany, .int v_partMany, .int v_twos, .int v_at, .int v_digits, .int k1, .int v_good])), (h_v_text, .inl (cI, n_v_text, .inl v_text_a))]) hP hD hS hA [0, 1] [2] [1, 2, 0] rfl rfl (by decide) (by decide) rfl (by decide) (va_runV (As := []) (rest := []) ⟨hx, hb, hml, hown, hw⟩ (c_Mod_look l dC dI cI cC cB cJ _ h_v h_v_text h_v_written h_v_a h_v_b h_v_five h_v_left h_v_right h_v_part n_v_text v_length v_laid v_gone v_thrown v_were v_none v_beyond v_aMany v_bMany v_fiveMany v_leftMany v_rightMany v_partMany v_twos v_at v_digits k1 v_good v_text_a u_5 hu_5) (cwV 0 hw (zg_V wd_783 wd_785 we_1_13 wd_8 wd_786) rfl rfl rfl hd_Mod_look ⟨Nat.le_of_ble_eq_true rfl, Nat.le_of_ble_eq_true rfl⟩) (zz_preV zz_TE (va_recv (q0 := 0) (ci := 7) hK hP rfl rfl) hP hD hK hS hA trivial [0, 1] rfl (by decide)) rfl rfl hl.1 rfl (lv_room (Nat.le_of_ble_eq_true rfl)) d_Mod_literal_131 ⟨Nat.zero_le _, Nat.zero_le _⟩) (fun H locs hP hD hS => ?_)
        refine lv_bipush (v := 69) hx hb d_Mod_literal_134 (by decide) ?_
        refine lv_icmp_ne (tgt := 143) hx hb d_Mod_literal_136 (by decide) (fun hc => ?_) (fun hc => ?_)
        · have hf := zz_ifn hc hf
          refine lv_iconst (v := 0) hx hb d_Mod_literal_143 (by decide) ?_
          exact hL_144 0 v_aMany v_at v_digits k1 v_good v_a_a ls _ _ (lv_sub hl [0, 1] rfl) hP hD hS hf
        · have hf := zz_ifp hc hf
          exact hL_139 v_aMany v_at v_digits k1 v_good v_a_a ls _ _ (lv_sub hl [0, 1] rfl) hP hD hS hf
    · have hf := zz_ifn hc hf
      refine lv_aload_n hx hb d_Mod_literal_95 rfl (lv_at hl 0 rfl) ?_
      obtain ⟨u_6, hu_6, hf⟩ := zz_bd hf
      refine zz_ci (ws' := [(h_v, .inr (7, [.ref h_v_text, .ref h_v_written, .int v_length, .int v_laid, .int v_gone, .int v_thrown, .int v_were, .int v_none, .int v_beyond, .ref h_v_a, .ref h_v_b, .ref h_v_five, .ref h_v_left, .ref h_v_right, .ref h_v_part, .int v_aMany, .int v_bMany, .int v_fiveMany, .int v_leftMany, .int v_rightMany, .int v_partMany, .int v_twos, .int v_at, .int v_digits, .int k1, .int v_good])), (h_v_text, .inl (cI, n_v_text, .inl v_text_a)), (h_v_a, .inl (cI, n_v_a, .inl v_a_a))]) (wc := [(h_v, .inr (7, [.ref h_v_text, .ref h_v_written, .int v_length, .int v_laid, .int v_gone, .int v_thrown, .int v_were, .int v_none, .int v_beyond, .ref h_v_a, .ref h_v_b, .ref h_v_five, .ref h_v_left, .ref h_v_right, .ref h_v_part, .int v_aMany, .int v_bMany, .int v_fiveMany, .int v_leftMany, .int v_rightMany, .int v_partMany, .int v_twos, .int v_at, .int v_digits, .int k1, .int v_good])), (h_v_text, .inl (cI, n_v_text, .inl v_text_a))]) (w' := [(h_v, .inr (7, [.ref h_v_text, .ref h_v_written, .int v_length, .int v_laid, .int v_gone, .int v_thrown, .int v_were, .int v_none, .int v_beyond, .ref h_v_a, .ref h_v_b, .ref h_v_five, .ref h_v_left, .ref h_v_right, .ref h_v_part, .int v_aMany, .int v_bMany, .int v_fiveMany, .int v_leftMany, .int v_rightMany, .int v_partMany, .int v_twos, .int v_at, .int v_digits, .int k1, .int v_good])), (h_v_text, .inl (cI, n_v_text, .inl v_text_a))]) hP hD hS hA [0, 1] [2] [1, 2, 0] rfl rfl (by decide) (by decide) rfl (by decide) (va_runV (As := []) (rest := []) ⟨hx, hb, hml, hown, hw⟩ (c_Mod_look l dC dI cI cC cB cJ _ h_v h_v_text h_v_written h_v_a h_v_b h_v_five h_v_left h_v_right h_v_part n_v_text v_length v_laid v_gone v_thrown v_were v_none v_beyond v_aMany v_bMany v_fiveMany v_leftMany v_rightMany v_partMany v_twos v_at v_digits k1 v_good v_text_a u_6 hu_6) (cwV 0 hw (zg_V wd_783 wd_785 we_1_13 wd_8 wd_786) rfl rfl rfl hd_Mod_look ⟨Nat.le_of_ble_eq_true rfl, Nat.le_of_ble_eq_true rfl⟩) (zz_preV zz_TE (va_recv (q0 := 0) (ci := 7) hK hP rfl rfl) hP hD hK hS hA trivial [0, 1] rfl (by decide)) rfl rfl hl.1 rfl (lv_room (Nat.le_of_ble_eq_true rfl)) d_Mod_literal_96 ⟨Nat.zero_le _, Nat.zero_le _⟩) (fun H locs hP hD hS => ?_)
      refine lv_bipush (v := 112) hx hb d_Mod_literal_99 (by decide) ?_
      refine lv_icmp_eq (tgt := 113) hx hb d_Mod_literal_101 (by decide) (fun hc => ?_) (fun hc => ?_)
      · have hf := zz_ifp hc hf
        exact hL_113 v_aMany v_at v_digits k1 v_good v_a_a ls _ _ (lv_sub hl [0, 1] rfl) hP hD hS hf
      · have hf := zz_ifn hc hf
        refine lv_aload_n hx hb d_Mod_literal_104 rfl (lv_at hl 0 rfl) ?_
        obtain ⟨u_7, hu_7, hf⟩ := zz_bd hf
        refine zz_ci (ws' := [(h_v, .inr (7, [.ref h_v_text, .ref h_v_written, .int v_length, .int v_laid, .int v_gone, .int v_thrown, .int v_were, .int v_none, .int v_beyond, .ref h_v_a, .ref h_v_b, .ref h_v_five, .ref h_v_left, .ref h_v_right, .ref h_v_part, .int v_aMany, .int v_bMany, .int v_fiveMany, .int v_leftMany, .int v_rightMany, .int v_partMany, .int v_twos, .int v_at, .int v_digits, .int k1, .int v_good])), (h_v_text, .inl (cI, n_v_text, .inl v_text_a)), (h_v_a, .inl (cI, n_v_a, .inl v_a_a))]) (wc := [(h_v, .inr (7, [.ref h_v_text, .ref h_v_written, .int v_length, .int v_laid, .int v_gone, .int v_thrown, .int v_were, .int v_none, .int v_beyond, .ref h_v_a, .ref h_v_b, .ref h_v_five, .ref h_v_left, .ref h_v_right, .ref h_v_part, .int v_aMany, .int v_bMany, .int v_fiveMany, .int v_leftMany, .int v_rightMany, .int v_partMany, .int v_twos, .int v_at, .int v_digits, .int k1, .int v_good])), (h_v_text, .inl (cI, n_v_text, .inl v_text_a))]) (w' := [(h_v, .inr (7, [.ref h_v_text, .ref h_v_written, .int v_length, .int v_laid, .int v_gone, .int v_thrown, .int v_were, .int v_none, .int v_beyond, .ref h_v_a, .ref h_v_b, .ref h_v_five, .ref h_v_left, .ref h_v_right, .ref h_v_part, .int v_aMany, .int v_bMany, .int v_fiveMany, .int v_leftMany, .int v_rightMany, .int v_partMany, .int v_twos, .int v_at, .int v_digits, .int k1, .int v_good])), (h_v_text, .inl (cI, n_v_text, .inl v_text_a))]) hP hD hS hA [0, 1] [2] [1, 2, 0] rfl rfl (by decide) (by decide) rfl (by decide) (va_runV (As := []) (rest := []) ⟨hx, hb, hml, hown, hw⟩ (c_Mod_look l dC dI cI cC cB cJ _ h_v h_v_text h_v_written h_v_a h_v_b h_v_five h_v_left h_v_right h_v_part n_v_text v_length v_laid v_gone v_thrown v_were v_none v_beyond v_aMany v_bMany v_fiveMany v_leftMany v_rightMany v_partMany v_twos v_at v_digits k1 v_good v_text_a u_7 hu_7) (cwV 0 hw (zg_V wd_783 wd_785 we_1_13 wd_8 wd_786) rfl rfl rfl hd_Mod_look ⟨Nat.le_of_ble_eq_true rfl, Nat.le_of_ble_eq_true rfl⟩) (zz_preV zz_TE (va_recv (q0 := 0) (ci := 7) hK hP rfl rfl) hP hD hK hS hA trivial [0, 1] rfl (by decide)) rfl rfl hl.1 rfl (lv_room (Nat.le_of_ble_eq_true rfl)) d_Mod_literal_105 ⟨Nat.zero_le _, Nat.zero_le _⟩) (fun H locs hP hD hS => ?_)
        refine lv_bipush (v := 80) hx hb d_Mod_literal_108 (by decide) ?_
        refine lv_icmp_ne (tgt := 117) hx hb d_Mod_literal_110 (by decide) (fun hc => ?_) (fun hc => ?_)
        · have hf := zz_ifn hc hf
          refine lv_iconst (v := 0) hx hb d_Mod_literal_117 (by decide) ?_
          refine lv_goto (tgt := 144) hx hb d_Mod_literal_118 (by decide) ?_
          exact hL_144 0 v_aMany v_at v_digits k1 v_good v_a_a ls _ _ (lv_sub hl [0, 1] rfl) hP hD hS hf
        · have hf := zz_ifp hc hf
          exact hL_113 v_aMany v_at v_digits k1 v_good v_a_a ls _ _ (lv_sub hl [0, 1] rfl) hP hD hS hf
  have hL_66 : ∀ (y2 : Int32) (y3 : Int32) (v_aMany : Int32) (v_at : Int32) (v_digits : Int32) (v_power : Int32) (v_good : Int32) (v_a_a : Nat → Int32) (ls : Array Slot) (H : Heap) (locs : List Loc), lv_has ls 5 [(0, .ref h_v), (1, .int x1), (2, .int y2), (3, .int y3)] → va_P (dC, dI) vwCl [(h_v, .inr (7, [.ref h_v_text, .ref h_v_written, .int v_length, .int v_laid, .int v_gone, .int v_thrown, .int v_were, .int v_none, .int v_beyond, .ref h_v_a, .ref h_v_b, .ref h_v_five, .ref h_v_left, .ref h_v_right, .ref h_v_part, .int v_aMany, .int v_bMany, .int v_fiveMany, .int v_leftMany, .int v_rightMany, .int v_partMany, .int v_twos, .int v_at, .int v_digits, .int v_power, .int v_good])), (h_v_text, .inl (cI, n_v_text, .inl v_text_a)), (h_v_a, .inl (cI, n_v_a, .inl v_a_a))] H → va_D A [(h_v, .inr (7, [.ref h_v_text, .ref h_v_written, .int v_length, .int v_laid, .int v_gone, .int v_thrown, .int v_were, .int v_none, .int v_beyond, .ref h_v_a, .ref h_v_b, .ref h_v_five, .ref h_v_left, .ref h_v_right, .ref h_v_part, .int v_aMany, .int v_bMany, .int v_fiveMany, .int v_leftMany, .int v_rightMany, .int v_partMany, .int v_twos, .int v_at, .int v_digits, .int v_power, .int v_good])), (h_v_text, .inl (cI, n_v_text, .inl v_text_a)), (h_v_a, .inl (cI, n_v_a, .inl v_a_a))] → va_S A s.heap H locs → f_Mod_literal_66 fu n_v_text n_v_a x1 v_length v_text_a y2 y3 v_aMany v_at v_digits v_power v_good v_a_a = some u → W p l e (headSpec ws_Mod_literal rm_Mod_literal).room s m [.ref h_v, .int x1].toArray below meth c H locs 0 0 Qq (F0 m 66 ls []) := by
    intro y2 y3 v_aMany v_at v_digits v_power v_good v_a_a ls H locs hl hP hD hS hf
    unfold f_Mod_literal_66 at hf
    refine lv_iload_n hx hb d_Mod_literal_66 rfl (lv_at hl 2 rfl) ?_
    refine lv_iload_n hx hb d_Mod_literal_67 rfl (lv_at hl 3 rfl) ?_
    refine lv_iadd hx hb d_Mod_literal_68 ?_
    refine lv_if_ne (tgt := 74) hx hb d_Mod_literal_69 (by decide) (fun hc => ?_) (fun hc => ?_)
    · have hf := zz_ifn hc hf
      refine lv_aload_n hx hb d_Mod_literal_74 rfl (lv_at hl 0 rfl) ?_
      refine lv_iload_n hx hb d_Mod_literal_75 rfl (lv_at hl 1 rfl) ?_
      refine lv_if_eq (tgt := 86) hx hb d_Mod_literal_76 (by decide) (fun hc => ?_) (fun hc => ?_)
      · have hf := zz_ifp hc hf
        refine lv_iload_n hx hb d_Mod_literal_86 rfl (lv_at hl 3 rfl) ?_
        refine lv_ineg hx hb d_Mod_literal_87 ?_
        exact hL_88 (-y3) v_aMany v_at v_digits v_power v_good v_a_a ls _ _ (lv_sub hl [0, 1] rfl) hP hD hS hf
      · have hf := zz_ifn hc hf
        refine lv_bipush (v := (-4)) hx hb d_Mod_literal_79 (by decide) ?_
        refine lv_iload_n hx hb d_Mod_literal_81 rfl (lv_at hl 3 rfl) ?_
        refine lv_imul hx hb d_Mod_literal_82 ?_
        refine lv_goto (tgt := 88) hx hb d_Mod_literal_83 (by decide) ?_
        exact hL_88 ((-4) * y3) v_aMany v_at v_digits v_power v_good v_a_a ls _ _ (lv_sub hl [0, 1] rfl) hP hD hS hf
    · have hf := zz_ifp hc hf
      refine lv_iconst (v := 0) hx hb d_Mod_literal_72 (by decide) ?_
      cases hf
      exact hend 73 ls _ _ narrow_b0 d_Mod_literal_73 hP hD hS
  have hL_10 : ∀ (k1 : Int32) (v_aMany : Int32) (v_at : Int32) (v_digits : Int32) (v_power : Int32) (v_good : Int32) (v_a_a : Nat → Int32) (ls : Array Slot) (H : Heap) (locs : List Loc), lv_has ls 5 [(0, .ref h_v), (1, .int x1)] → va_P (dC, dI) vwCl [(h_v, .inr (7, [.ref h_v_text, .ref h_v_written, .int v_length, .int v_laid, .int v_gone, .int v_thrown, .int v_were, .int v_none, .int v_beyond, .ref h_v_a, .ref h_v_b, .ref h_v_five, .ref h_v_left, .ref h_v_right, .ref h_v_part, .int v_aMany, .int v_bMany, .int v_fiveMany, .int v_leftMany, .int v_rightMany, .int v_partMany, .int v_twos, .int v_at, .int v_digits, .int v_power, .int v_good])), (h_v_text, .inl (cI, n_v_text, .inl v_text_a)), (h_v_a, .inl (cI, n_v_a, .inl v_a_a))] H → va_D A [(h_v, .inr (7, [.ref h_v_text, .ref h_v_written, .int v_length, .int v_laid, .int v_gone, .int v_thrown, .int v_were, .int v_none, .int v_beyond, .ref h_v_a, .ref h_v_b, .ref h_v_five, .ref h_v_left, .ref h_v_right, .ref h_v_part, .int v_aMany, .int v_bMany, .int v_fiveMany, .int v_leftMany, .int v_rightMany, .int v_partMany, .int v_twos, .int v_at, .int v_digits, .int v_power, .int v_good])), (h_v_text, .inl (cI, n_v_text, .inl v_text_a)), (h_v_a, .inl (cI, n_v_a, .inl v_a_a))] → va_S A s.heap H locs → f_Mod_literal_10 fu n_v_text n_v_a x1 v_length v_text_a k1 v_aMany v_at v_digits v_power v_good v_a_a = some u → W p l e (headSpec ws_Mod_literal rm_Mod_literal).room s m [.ref h_v, .int x1].toArray below meth c H locs 0 0 Qq (F0 m 10 ls [.int k1, .ref h_v]) := by
    intro k1 v_aMany v_at v_digits v_power v_good v_a_a ls H locs hl hP hD hS hf
    unfold f_Mod_literal_10 at hf
    refine va_put (D := (dC, dI)) (ci := 7) (v := .int k1) (ty := .int) (C := R_Mod) (T := T_Mod) (N := 26) hx hb hw in_Mod ty_Mod tyok_Mod nm_Mod hown hK hP hD hS 0 rfl rfl 22 (by decide) (hw _ wd_695) (fun _ h9 => h9) rfl (tyok_Mod 22 (by decide)) rfl rfl (Nat.le_of_ble_eq_true rfl) d_Mod_literal_10 (fun H locs hP hD hS => ?_)
    have hP : va_P (dC, dI) vwCl [(h_v, .inr (7, [.ref h_v_text, .ref h_v_written, .int v_length, .int v_laid, .int v_gone, .int v_thrown, .int v_were, .int v_none, .int v_beyond, .ref h_v_a, .ref h_v_b, .ref h_v_five, .ref h_v_left, .ref h_v_right, .ref h_v_part, .int v_aMany, .int v_bMany, .int v_fiveMany, .int v_leftMany, .int v_rightMany, .int v_partMany, .int v_twos, .int k1, .int v_digits, .int v_power, .int v_good])), (h_v_text, .inl (cI, n_v_text, .inl v_text_a)), (h_v_a, .inl (cI, n_v_a, .inl v_a_a))] H := hP
    have hD : va_D A [(h_v, .inr (7, [.ref h_v_text, .ref h_v_written, .int v_length, .int v_laid, .int v_gone, .int v_thrown, .int v_were, .int v_none, .int v_beyond, .ref h_v_a, .ref h_v_b, .ref h_v_five, .ref h_v_left, .ref h_v_right, .ref h_v_part, .int v_aMany, .int v_bMany, .int v_fiveMany, .int v_leftMany, .int v_rightMany, .int v_partMany, .int v_twos, .int k1, .int v_digits, .int v_power, .int v_good])), (h_v_text, .inl (cI, n_v_text, .inl v_text_a)), (h_v_a, .inl (cI, n_v_a, .inl v_a_a))] := hD
    refine lv_aload_n hx hb d_Mod_literal_13 rfl (lv_at hl 0 rfl) ?_
    refine lv_iconst (v := 0) hx hb d_Mod_literal_14 (by decide) ?_
    refine va_put (D := (dC, dI)) (ci := 7) (v := .int 0) (ty := .int) (C := R_Mod) (T := T_Mod) (N := 26) hx hb hw in_Mod ty_Mod tyok_Mod nm_Mod hown hK hP hD hS 0 rfl rfl 15 (by decide) (hw _ wd_689) (fun _ h9 => h9) rfl (tyok_Mod 15 (by decide)) rfl rfl (Nat.le_of_ble_eq_true rfl) d_Mod_literal_15 (fun H locs hP hD hS => ?_)
    have hP : va_P (dC, dI) vwCl [(h_v, .inr (7, [.ref h_v_text, .ref h_v_written, .int v_length, .int v_laid, .int v_gone, .int v_thrown, .int v_were, .int v_none, .int v_beyond, .ref h_v_a, .ref h_v_b, .ref h_v_five, .ref h_v_left, .ref h_v_right, .ref h_v_part, .int 0, .int v_bMany, .int v_fiveMany, .int v_leftMany, .int v_rightMany, .int v_partMany, .int v_twos, .int k1, .int v_digits, .int v_power, .int v_good])), (h_v_text, .inl (cI, n_v_text, .inl v_text_a)), (h_v_a, .inl (cI, n_v_a, .inl v_a_a))] H := hP
    have hD : va_D A [(h_v, .inr (7, [.ref h_v_text, .ref h_v_written, .int v_length, .int v_laid, .int v_gone, .int v_thrown, .int v_were, .int v_none, .int v_beyond, .ref h_v_a, .ref h_v_b, .ref h_v_five, .ref h_v_left, .ref h_v_right, .ref h_v_part, .int 0, .int v_bMany, .int v_fiveMany, .int v_leftMany, .int v_rightMany, .int v_partMany, .int v_twos, .int k1, .int v_digits, .int v_power, .int v_good])), (h_v_text, .inl (cI, n_v_text, .inl v_text_a)), (h_v_a, .inl (cI, n_v_a, .inl v_a_a))] := hD
    refine lv_aload_n hx hb d_Mod_literal_18 rfl (lv_at hl 0 rfl) ?_
    refine lv_iconst (v := 0) hx hb d_Mod_literal_19 (by decide) ?_
    refine va_put (D := (dC, dI)) (ci := 7) (v := .int 0) (ty := .int) (C := R_Mod) (T := T_Mod) (N := 26) hx hb hw in_Mod ty_Mod tyok_Mod nm_Mod hown hK hP hD hS 0 rfl rfl 23 (by decide) (hw _ wd_696) (fun _ h9 => h9) rfl (tyok_Mod 23 (by decide)) rfl rfl (Nat.le_of_ble_eq_true rfl) d_Mod_literal_20 (fun H locs hP hD hS => ?_)
    have hP : va_P (dC, dI) vwCl [(h_v, .inr (7, [.ref h_v_text, .ref h_v_written, .int v_length, .int v_laid, .int v_gone, .int v_thrown, .int v_were, .int v_none, .int v_beyond, .ref h_v_a, .ref h_v_b, .ref h_v_five, .ref h_v_left, .ref h_v_right, .ref h_v_part, .int 0, .int v_bMany, .int v_fiveMany, .int v_leftMany, .int v_rightMany, .int v_partMany, .int v_twos, .int k1, .int 0, .int v_power, .int v_good])), (h_v_text, .inl (cI, n_v_text, .inl v_text_a)), (h_v_a, .inl (cI, n_v_a, .inl v_a_a))] H := hP
    have hD : va_D A [(h_v, .inr (7, [.ref h_v_text, .ref h_v_written, .int v_length, .int v_laid, .int v_gone, .int v_thrown, .int v_were, .int v_none, .int v_beyond, .ref h_v_a, .ref h_v_b, .ref h_v_five, .ref h_v_left, .ref h_v_right, .ref h_v_part, .int 0, .int v_bMany, .int v_fiveMany, .int v_leftMany, .int v_rightMany, .int v_partMany, .int v_twos, .int k1, .int 0, .int v_power, .int v_good])), (h_v_text, .inl (cI, n_v_text, .inl v_text_a)), (h_v_a, .inl (cI, n_v_a, .inl v_a_a))] := hD
    refine lv_aload_n hx hb d_Mod_literal_23 rfl (lv_at hl 0 rfl) ?_
    refine lv_iconst (v := 0) hx hb d_Mod_literal_24 (by decide) ?_
    refine va_put (D := (dC, dI)) (ci := 7) (v := .int 0) (ty := .int) (C := R_Mod) (T := T_Mod) (N := 26) hx hb hw in_Mod ty_Mod tyok_Mod nm_Mod hown hK hP hD hS 0 rfl rfl 24 (by decide) (hw _ wd_697) (fun _ h9 => h9) rfl (tyok_Mod 24 (by decide)) rfl rfl (Nat.le_of_ble_eq_true rfl) d_Mod_literal_25 (fun H locs hP hD hS => ?_)
    have hP : va_P (dC, dI) vwCl [(h_v, .inr (7, [.ref h_v_text, .ref h_v_written, .int v_length, .int v_laid, .int v_gone, .int v_thrown, .int v_were, .int v_none, .int v_beyond, .ref h_v_a, .ref h_v_b, .ref h_v_five, .ref h_v_left, .ref h_v_right, .ref h_v_part, .int 0, .int v_bMany, .int v_fiveMany, .int v_leftMany, .int v_rightMany, .int v_partMany, .int v_twos, .int k1, .int 0, .int 0, .int v_good])), (h_v_text, .inl (cI, n_v_text, .inl v_text_a)), (h_v_a, .inl (cI, n_v_a, .inl v_a_a))] H := hP
    have hD : va_D A [(h_v, .inr (7, [.ref h_v_text, .ref h_v_written, .int v_length, .int v_laid, .int v_gone, .int v_thrown, .int v_were, .int v_none, .int v_beyond, .ref h_v_a, .ref h_v_b, .ref h_v_five, .ref h_v_left, .ref h_v_right, .ref h_v_part, .int 0, .int v_bMany, .int v_fiveMany, .int v_leftMany, .int v_rightMany, .int v_partMany, .int v_twos, .int k1, .int 0, .int 0, .int v_good])), (h_v_text, .inl (cI, n_v_text, .inl v_text_a)), (h_v_a, .inl (cI, n_v_a, .inl v_a_a))] := hD
    refine lv_aload_n hx hb d_Mod_literal_28 rfl (lv_at hl 0 rfl) ?_
    refine lv_iconst (v := 1) hx hb d_Mod_literal_29 (by decide) ?_
    refine va_put (D := (dC, dI)) (ci := 7) (v := .int 1) (ty := .boolean) (C := R_Mod) (T := T_Mod) (N := 26) hx hb hw in_Mod ty_Mod tyok_Mod nm_Mod hown hK hP hD hS 0 rfl rfl 25 (by decide) (hw _ wd_698) (fun _ h9 => h9) rfl (tyok_Mod 25 (by decide)) rfl rfl (Nat.le_of_ble_eq_true rfl) d_Mod_literal_30 (fun H locs hP hD hS => ?_)
    have hP : va_P (dC, dI) vwCl [(h_v, .inr (7, [.ref h_v_text, .ref h_v_written, .int v_length, .int v_laid, .int v_gone, .int v_thrown, .int v_were, .int v_none, .int v_beyond, .ref h_v_a, .ref h_v_b, .ref h_v_five, .ref h_v_left, .ref h_v_right, .ref h_v_part, .int 0, .int v_bMany, .int v_fiveMany, .int v_leftMany, .int v_rightMany, .int v_partMany, .int v_twos, .int k1, .int 0, .int 0, .int 1])), (h_v_text, .inl (cI, n_v_text, .inl v_text_a)), (h_v_a, .inl (cI, n_v_a, .inl v_a_a))] H := hP
    have hD : va_D A [(h_v, .inr (7, [.ref h_v_text, .ref h_v_written, .int v_length, .int v_laid, .int v_gone, .int v_thrown, .int v_were, .int v_none, .int v_beyond, .ref h_v_a, .ref h_v_b, .ref h_v_five, .ref h_v_left, .ref h_v_right, .ref h_v_part, .int 0, .int v_bMany, .int v_fiveMany, .int v_leftMany, .int v_rightMany, .int v_partMany, .int v_twos, .int k1, .int 0, .int 0, .int 1])), (h_v_text, .inl (cI, n_v_text, .inl v_text_a)), (h_v_a, .inl (cI, n_v_a, .inl v_a_a))] := hD
    refine lv_aload_n hx hb d_Mod_literal_33 rfl (lv_at hl 0 rfl) ?_
    refine lv_iload_n hx hb d_Mod_literal_34 rfl (lv_at hl 1 rfl) ?_
    obtain ⟨u_1, hu_1, hf⟩ := zz_bd hf
    refine zz_ci (ws' := [(h_v, .inr (7, [.ref h_v_text, .ref h_v_written, .int v_length, .int v_laid, .int v_gone, .int v_thrown, .int v_were, .int v_none, .int v_beyond, .ref h_v_a, .ref h_v_b, .ref h_v_five, .ref h_v_left, .ref h_v_right, .ref h_v_part, .int u_1.2.1, .int v_bMany, .int v_fiveMany, .int v_leftMany, .int v_rightMany, .int v_partMany, .int v_twos, .int u_1.2.2.1, .int u_1.2.2.2.1, .int 0, .int u_1.2.2.2.2.1])), (h_v_text, .inl (cI, n_v_text, .inl v_text_a)), (h_v_a, .inl (cI, n_v_a, .inl u_1.2.2.2.2.2))]) (wc := [(h_v, .inr (7, [.ref h_v_text, .ref h_v_written, .int v_length, .int v_laid, .int v_gone, .int v_thrown, .int v_were, .int v_none, .int v_beyond, .ref h_v_a, .ref h_v_b, .ref h_v_five, .ref h_v_left, .ref h_v_right, .ref h_v_part, .int 0, .int v_bMany, .int v_fiveMany, .int v_leftMany, .int v_rightMany, .int v_partMany, .int v_twos, .int k1, .int 0, .int 0, .int 1])), (h_v_text, .inl (cI, n_v_text, .inl v_text_a)), (h_v_a, .inl (cI, n_v_a, .inl v_a_a))]) (w' := [(h_v, .inr (7, [.ref h_v_text, .ref h_v_written, .int v_length, .int v_laid, .int v_gone, .int v_thrown, .int v_were, .int v_none, .int v_beyond, .ref h_v_a, .ref h_v_b, .ref h_v_five, .ref h_v_left, .ref h_v_right, .ref h_v_part, .int u_1.2.1, .int v_bMany, .int v_fiveMany, .int v_leftMany, .int v_rightMany, .int v_partMany, .int v_twos, .int u_1.2.2.1, .int u_1.2.2.2.1, .int 0, .int u_1.2.2.2.2.1])), (h_v_text, .inl (cI, n_v_text, .inl v_text_a)), (h_v_a, .inl (cI, n_v_a, .inl u_1.2.2.2.2.2))]) hP hD hS hA [0, 1, 2] [] [0, 1, 2] rfl rfl (by decide) (by decide) rfl (by decide) (va_runV (As := [.int x1]) (rest := []) ⟨hx, hb, hml, hown, hw⟩ (c_Mod_row l dC dI cI cC cB cJ fu _ h_v h_v_text h_v_a h_v_written h_v_b h_v_five h_v_left h_v_right h_v_part n_v_text n_v_a x1 v_length v_laid v_gone v_thrown v_were v_none v_beyond 0 v_bMany v_fiveMany v_leftMany v_rightMany v_partMany v_twos k1 0 0 1 v_text_a v_a_a u_1 hu_1) (cwV 1 hw (zg_V wd_779 wd_781 we_1_12 wd_8 wd_782) rfl rfl rfl hd_Mod_row ⟨Nat.le_of_ble_eq_true rfl, Nat.le_of_ble_eq_true rfl⟩) (zz_preV zz_TE (va_recv (q0 := 0) (ci := 7) hK hP rfl rfl) hP hD hK hS hA trivial [0, 1, 2] rfl (by decide)) rfl rfl hl.1 rfl (lv_room (Nat.le_of_ble_eq_true rfl)) d_Mod_literal_35 ⟨Nat.zero_le _, Nat.zero_le _⟩) (fun H locs hP hD hS => ?_)
    refine lv_istore_n hx hb d_Mod_literal_38 rfl hl (by decide) rfl (fun ls hl => ?_)
    have hl : lv_has ls 5 [(2, .int u_1.1), (0, .ref h_v), (1, .int x1)] := hl
    refine lv_iconst (v := 0) hx hb d_Mod_literal_39 (by decide) ?_
    refine lv_istore_n hx hb d_Mod_literal_40 rfl hl (by decide) rfl (fun ls hl => ?_)
    have hl : lv_has ls 5 [(3, .int 0), (2, .int u_1.1), (0, .ref h_v), (1, .int x1)] := hl
    refine lv_aload_n hx hb d_Mod_literal_41 rfl (lv_at hl 2 rfl) ?_
    obtain ⟨u_2, hu_2, hf⟩ := zz_bd hf
    refine zz_ci (ws' := [(h_v, .inr (7, [.ref h_v_text, .ref h_v_written, .int v_length, .int v_laid, .int v_gone, .int v_thrown, .int v_were, .int v_none, .int v_beyond, .ref h_v_a, .ref h_v_b, .ref h_v_five, .ref h_v_left, .ref h_v_right, .ref h_v_part, .int u_1.2.1, .int v_bMany, .int v_fiveMany, .int v_leftMany, .int v_rightMany, .int v_partMany, .int v_twos, .int u_1.2.2.1, .int u_1.2.2.2.1, .int 0, .int u_1.2.2.2.2.1])), (h_v_text, .inl (cI, n_v_text, .inl v_text_a)), (h_v_a, .inl (cI, n_v_a, .inl u_1.2.2.2.2.2))]) (wc := [(h_v, .inr (7, [.ref h_v_text, .ref h_v_written, .int v_length, .int v_laid, .int v_gone, .int v_thrown, .int v_were, .int v_none, .int v_beyond, .ref h_v_a, .ref h_v_b, .ref h_v_five, .ref h_v_left, .ref h_v_right, .ref h_v_part, .int u_1.2.1, .int v_bMany, .int v_fiveMany, .int v_leftMany, .int v_rightMany, .int v_partMany, .int v_twos, .int u_1.2.2.1, .int u_1.2.2.2.1, .int 0, .int u_1.2.2.2.2.1])), (h_v_text, .inl (cI, n_v_text, .inl v_text_a))]) (w' := [(h_v, .inr (7, [.ref h_v_text, .ref h_v_written, .int v_length, .int v_laid, .int v_gone, .int v_thrown, .int v_were, .int v_none, .int v_beyond, .ref h_v_a, .ref h_v_b, .ref h_v_five, .ref h_v_left, .ref h_v_right, .ref h_v_part, .int u_1.2.1, .int v_bMany, .int v_fiveMany, .int v_leftMany, .int v_rightMany, .int v_partMany, .int v_twos, .int u_1.2.2.1, .int u_1.2.2.2.1, .int 0, .int u_1.2.2.2.2.1])), (h_v_text, .inl (cI, n_v_text, .inl v_text_a))]) hP hD hS hA [0, 1] [2] [1, 2, 0] rfl rfl (by decide) (by decide) rfl (by decide) (va_runV (As := []) (rest := []) ⟨hx, hb, hml, hown, hw⟩ (c_Mod_look l dC dI cI cC cB cJ _ h_v h_v_text h_v_written h_v_a h_v_b h_v_five h_v_left h_v_right h_v_part n_v_text v_length v_laid v_gone v_thrown v_were v_none v_beyond u_1.2.1 v_bMany v_fiveMany v_leftMany v_rightMany v_partMany v_twos u_1.2.2.1 u_1.2.2.2.1 0 u_1.2.2.2.2.1 v_text_a u_2 hu_2) (cwV 0 hw (zg_V wd_783 wd_785 we_1_13 wd_8 wd_786) rfl rfl rfl hd_Mod_look ⟨Nat.le_of_ble_eq_true rfl, Nat.le_of_ble_eq_true rfl⟩) (zz_preV zz_TE (va_recv (q0 := 0) (ci := 7) hK hP rfl rfl) hP hD hK hS hA trivial [0, 1] rfl (by decide)) rfl rfl hl.1 rfl (lv_room (Nat.le_of_ble_eq_true rfl)) d_Mod_literal_42 ⟨Nat.zero_le _, Nat.zero_le _⟩) (fun H locs hP hD hS => ?_)
    refine lv_bipush (v := 46) hx hb d_Mod_literal_45 (by decide) ?_
    refine lv_icmp_ne (tgt := 66) hx hb d_Mod_literal_47 (by decide) (fun hc => ?_) (fun hc => ?_)
    · have hf := zz_ifn hc hf
      exact hL_66 u_1.1 0 u_1.2.1 u_1.2.2.1 u_1.2.2.2.1 0 u_1.2.2.2.2.1 u_1.2.2.2.2.2 ls _ _ (lv_sub hl [2, 3, 1, 0] rfl) hP hD hS hf
    · have hf := zz_ifp hc hf
      refine lv_aload_n hx hb d_Mod_literal_50 rfl (lv_at hl 2 rfl) ?_
      refine lv_dup hx hb d_Mod_literal_51 rfl ?_
      refine va_get (D := (dC, dI)) (ci := 7) (v := .int u_1.2.2.1) (C := R_Mod) (T := T_Mod) (N := 26) hx hb hw in_Mod hown hK hP 0 rfl rfl 22 (by decide) (hw _ wd_695) (fun _ h9 => h9) rfl d_Mod_literal_52 ?_
      refine lv_iconst (v := 1) hx hb d_Mod_literal_55 (by decide) ?_
      refine lv_iadd hx hb d_Mod_literal_56 ?_
      refine va_put (D := (dC, dI)) (ci := 7) (v := .int (u_1.2.2.1 + 1)) (ty := .int) (C := R_Mod) (T := T_Mod) (N := 26) hx hb hw in_Mod ty_Mod tyok_Mod nm_Mod hown hK hP hD hS 0 rfl rfl 22 (by decide) (hw _ wd_695) (fun _ h9 => h9) rfl (tyok_Mod 22 (by decide)) rfl rfl (Nat.le_of_ble_eq_true rfl) d_Mod_literal_57 (fun H locs hP hD hS => ?_)
      have hP : va_P (dC, dI) vwCl [(h_v, .inr (7, [.ref h_v_text, .ref h_v_written, .int v_length, .int v_laid, .int v_gone, .int v_thrown, .int v_were, .int v_none, .int v_beyond, .ref h_v_a, .ref h_v_b, .ref h_v_five, .ref h_v_left, .ref h_v_right, .ref h_v_part, .int u_1.2.1, .int v_bMany, .int v_fiveMany, .int v_leftMany, .int v_rightMany, .int v_partMany, .int v_twos, .int (u_1.2.2.1 + 1), .int u_1.2.2.2.1, .int 0, .int u_1.2.2.2.2.1])), (h_v_text, .inl (cI, n_v_text, .inl v_text_a)), (h_v_a, .inl (cI, n_v_a, .inl u_1.2.2.2.2.2))] H := hP
      have hD : va_D A [(h_v, .inr (7, [.ref h_v_text, .ref h_v_written, .int v_length, .int v_laid, .int v_gone, .int v_thrown, .int v_were, .int v_none, .int v_beyond, .ref h_v_a, .ref h_v_b, .ref h_v_five, .ref h_v_left, .ref h_v_right, .ref h_v_part, .int u_1.2.1, .int v_bMany, .int v_fiveMany, .int v_leftMany, .int v_rightMany, .int v_partMany, .int v_twos, .int (u_1.2.2.1 + 1), .int u_1.2.2.2.1, .int 0, .int u_1.2.2.2.2.1])), (h_v_text, .inl (cI, n_v_text, .inl v_text_a)), (h_v_a, .inl (cI, n_v_a, .inl u_1.2.2.2.2.2))] := hD
      refine lv_aload_n hx hb d_Mod_literal_60 rfl (lv_at hl 2 rfl) ?_
      refine lv_iload_n hx hb d_Mod_literal_61 rfl (lv_at hl 3 rfl) ?_
      obtain ⟨u_8, hu_8, hf⟩ := zz_bd hf
      refine zz_ci (ws' := [(h_v, .inr (7, [.ref h_v_text, .ref h_v_written, .int v_length, .int v_laid, .int v_gone, .int v_thrown, .int v_were, .int v_none, .int v_beyond, .ref h_v_a, .ref h_v_b, .ref h_v_five, .ref h_v_left, .ref h_v_right, .ref h_v_part, .int u_8.2.1, .int v_bMany, .int v_fiveMany, .int v_leftMany, .int v_rightMany, .int v_partMany, .int v_twos, .int u_8.2.2.1, .int u_8.2.2.2.1, .int 0, .int u_8.2.2.2.2.1])), (h_v_text, .inl (cI, n_v_text, .inl v_text_a)), (h_v_a, .inl (cI, n_v_a, .inl u_8.2.2.2.2.2))]) (wc := [(h_v, .inr (7, [.ref h_v_text, .ref h_v_written, .int v_length, .int v_laid, .int v_gone, .int v_thrown, .int v_were, .int v_none, .int v_beyond, .ref h_v_a, .ref h_v_b, .ref h_v_five, .ref h_v_left, .ref h_v_right, .ref h_v_part, .int u_1.2.1, .int v_bMany, .int v_fiveMany, .int v_leftMany, .int v_rightMany, .int v_partMany, .int v_twos, .int (u_1.2.2.1 + 1), .int u_1.2.2.2.1, .int 0, .int u_1.2.2.2.2.1])), (h_v_text, .inl (cI, n_v_text, .inl v_text_a)), (h_v_a, .inl (cI, n_v_a, .inl u_1.2.2.2.2.2))]) (w' := [(h_v, .inr (7, [.ref h_v_text, .ref h_v_written, .int v_length, .int v_laid, .int v_gone, .int v_thrown, .int v_were, .int v_none, .int v_beyond, .ref h_v_a, .ref h_v_b, .ref h_v_five, .ref h_v_left, .ref h_v_right, .ref h_v_part, .int u_8.2.1, .int v_bMany, .int v_fiveMany, .int v_leftMany, .int v_rightMany, .int v_partMany, .int v_twos, .int u_8.2.2.1, .int u_8.2.2.2.1, .int 0, .int u_8.2.2.2.2.1])), (h_v_text, .inl (cI, n_v_text, .inl v_text_a)), (h_v_a, .inl (cI, n_v_a, .inl u_8.2.2.2.2.2))]) hP hD hS hA [0, 1, 2] [] [0, 1, 2] rfl rfl (by decide) (by decide) rfl (by decide) (va_runV (As := [.int x1]) (rest := []) ⟨hx, hb, hml, hown, hw⟩ (c_Mod_row l dC dI cI cC cB cJ fu _ h_v h_v_text h_v_a h_v_written h_v_b h_v_five h_v_left h_v_right h_v_part n_v_text n_v_a x1 v_length v_laid v_gone v_thrown v_were v_none v_beyond u_1.2.1 v_bMany v_fiveMany v_leftMany v_rightMany v_partMany v_twos (u_1.2.2.1 + 1) u_1.2.2.2.1 0 u_1.2.2.2.2.1 v_text_a u_1.2.2.2.2.2 u_8 hu_8) (cwV 1 hw (zg_V wd_779 wd_781 we_1_12 wd_8 wd_782) rfl rfl rfl hd_Mod_row ⟨Nat.le_of_ble_eq_true rfl, Nat.le_of_ble_eq_true rfl⟩) (zz_preV zz_TE (va_recv (q0 := 0) (ci := 7) hK hP rfl rfl) hP hD hK hS hA trivial [0, 1, 2] rfl (by decide)) rfl rfl hl.1 rfl (lv_room (Nat.le_of_ble_eq_true rfl)) d_Mod_literal_62 ⟨Nat.zero_le _, Nat.zero_le _⟩) (fun H locs hP hD hS => ?_)
      refine lv_istore_n hx hb d_Mod_literal_65 rfl hl (by decide) rfl (fun ls hl => ?_)
      have hl : lv_has ls 5 [(3, .int u_8.1), (2, .int u_1.1), (0, .ref h_v), (1, .int x1)] := hl
      exact hL_66 u_1.1 u_8.1 u_8.2.1 u_8.2.2.1 u_8.2.2.2.1 0 u_8.2.2.2.2.1 u_8.2.2.2.2.2 ls _ _ (lv_sub hl [2, 3, 1, 0] rfl) hP hD hS hf
  unfold f_Mod_literal at hf
  refine lv_aload_n hx hb d_Mod_literal_0 rfl (lv_at hl 0 rfl) ?_
  refine lv_iload_n hx hb d_Mod_literal_1 rfl (lv_at hl 1 rfl) ?_
  refine lv_if_eq (tgt := 9) hx hb d_Mod_literal_2 (by decide) (fun hc => ?_) (fun hc => ?_)
  · have hf := zz_ifp hc hf
    refine lv_iconst (v := 0) hx hb d_Mod_literal_9 (by decide) ?_
    exact hL_10 0 v_aMany v_at v_digits v_power v_good v_a_a ls _ _ (lv_sub hl [0, 1] rfl) hP hD hS hf
  · have hf := zz_ifn hc hf
    refine lv_iconst (v := 2) hx hb d_Mod_literal_5 (by decide) ?_
    refine lv_goto (tgt := 10) hx hb d_Mod_literal_6 (by decide) ?_
    exact hL_10 2 v_aMany v_at v_digits v_power v_good v_a_a ls _ _ (lv_sub hl [0, 1] rfl) hP hD hS hf
abbrev ws_Mod_found : List Cond := .code y_Mod_found prog_10_method_25_code 3 (some .long) :: zw
abbrev rm_Mod_found : Room := { frames := 6, cells := 0, slots := 0, locals := 151 }
theorem hd_Mod_found : y_Mod_found.cls = "RealTextModel" ∧ y_Mod_found.cls ≠ "java/lang/invoke/MethodHandle" ∧ y_Mod_found.cls ≠ "java/lang/invoke/VarHandle" ∧ (parseMethodDescriptor y_Mod_found.desc).map (fun d => d.parameters.length) = some 2 := by decide +kernel
theorem d_Mod_found_0 : decode prog_10_method_25_code 0 = .ok (.aload_n 0, 1) := by decide +kernel
theorem d_Mod_found_1 : decode prog_10_method_25_code 1 = .ok (.aload_n 0, 1) := by decide +kernel
theorem d_Mod_found_2 : decode prog_10_method_25_code 2 = .ok (.getfield 19, 3) := by decide +kernel
theorem d_Mod_found_5 : decode prog_10_method_25_code 5 = .ok (.lconst 1, 1) := by decide +kernel
theorem d_Mod_found_6 : decode prog_10_method_25_code 6 = .ok (.invokestatic 158, 3) := by decide +kernel
theorem d_Mod_found_9 : decode prog_10_method_25_code 9 = .ok (.putfield 72, 3) := by decide +kernel
theorem d_Mod_found_12 : decode prog_10_method_25_code 12 = .ok (.aload_n 0, 1) := by decide +kernel
theorem d_Mod_found_13 : decode prog_10_method_25_code 13 = .ok (.aload_n 0, 1) := by decide +kernel
theorem d_Mod_found_14 : decode prog_10_method_25_code 14 = .ok (.getfield 127, 3) := by decide +kernel
theorem d_Mod_found_17 : decode prog_10_method_25_code 17 = .ok (.putfield 59, 3) := by decide +kernel
theorem d_Mod_found_20 : decode prog_10_method_25_code 20 = .ok (.iload_n 1, 1) := by decide +kernel
theorem d_Mod_found_21 : decode prog_10_method_25_code 21 = .ok (.ifCond .ne 29, 3) := by decide +kernel
theorem d_Mod_found_24 : decode prog_10_method_25_code 24 = .ok (.aload_n 0, 1) := by decide +kernel
theorem d_Mod_found_25 : decode prog_10_method_25_code 25 = .ok (.getfield 127, 3) := by decide +kernel
theorem d_Mod_found_28 : decode prog_10_method_25_code 28 = .ok (.ifCond .le 22, 3) := by decide +kernel
theorem d_Mod_found_31 : decode prog_10_method_25_code 31 = .ok (.aload_n 0, 1) := by decide +kernel
theorem d_Mod_found_32 : decode prog_10_method_25_code 32 = .ok (.aload_n 0, 1) := by decide +kernel
theorem d_Mod_found_33 : decode prog_10_method_25_code 33 = .ok (.getfield 16, 3) := by decide +kernel
theorem d_Mod_found_36 : decode prog_10_method_25_code 36 = .ok (.aload_n 0, 1) := by decide +kernel
theorem d_Mod_found_37 : decode prog_10_method_25_code 37 = .ok (.getfield 62, 3) := by decide +kernel
theorem d_Mod_found_40 : decode prog_10_method_25_code 40 = .ok (.aload_n 0, 1) := by decide +kernel
theorem d_Mod_found_41 : decode prog_10_method_25_code 41 = .ok (.getfield 127, 3) := by decide +kernel
theorem d_Mod_found_44 : decode prog_10_method_25_code 44 = .ok (.invokestatic 162, 3) := by decide +kernel
theorem d_Mod_found_47 : decode prog_10_method_25_code 47 = .ok (.putfield 62, 3) := by decide +kernel
theorem d_Mod_found_50 : decode prog_10_method_25_code 50 = .ok (.iload_n 1, 1) := by decide +kernel
theorem d_Mod_found_51 : decode prog_10_method_25_code 51 = .ok (.ifCond .ne 30, 3) := by decide +kernel
theorem d_Mod_found_54 : decode prog_10_method_25_code 54 = .ok (.aload_n 0, 1) := by decide +kernel
theorem d_Mod_found_55 : decode prog_10_method_25_code 55 = .ok (.getfield 127, 3) := by decide +kernel
theorem d_Mod_found_58 : decode prog_10_method_25_code 58 = .ok (.ifCond .ge 23, 3) := by decide +kernel
theorem d_Mod_found_61 : decode prog_10_method_25_code 61 = .ok (.aload_n 0, 1) := by decide +kernel
theorem d_Mod_found_62 : decode prog_10_method_25_code 62 = .ok (.aload_n 0, 1) := by decide +kernel
theorem d_Mod_found_63 : decode prog_10_method_25_code 63 = .ok (.getfield 19, 3) := by decide +kernel
theorem d_Mod_found_66 : decode prog_10_method_25_code 66 = .ok (.aload_n 0, 1) := by decide +kernel
theorem d_Mod_found_67 : decode prog_10_method_25_code 67 = .ok (.getfield 72, 3) := by decide +kernel
theorem d_Mod_found_70 : decode prog_10_method_25_code 70 = .ok (.aload_n 0, 1) := by decide +kernel
theorem d_Mod_found_71 : decode prog_10_method_25_code 71 = .ok (.getfield 127, 3) := by decide +kernel
theorem d_Mod_found_74 : decode prog_10_method_25_code 74 = .ok (.ineg, 1) := by decide +kernel
theorem d_Mod_found_75 : decode prog_10_method_25_code 75 = .ok (.invokestatic 162, 3) := by decide +kernel
theorem d_Mod_found_78 : decode prog_10_method_25_code 78 = .ok (.putfield 72, 3) := by decide +kernel
theorem d_Mod_found_81 : decode prog_10_method_25_code 81 = .ok (.aload_n 0, 1) := by decide +kernel
theorem d_Mod_found_82 : decode prog_10_method_25_code 82 = .ok (.iload_n 2, 1) := by decide +kernel
theorem d_Mod_found_83 : decode prog_10_method_25_code 83 = .ok (.invokevirtual 165, 3) := by decide +kernel
theorem d_Mod_found_86 : decode prog_10_method_25_code 86 = .ok (.lreturn, 1) := by decide +kernel
def f_Mod_found_81 (fu : Nat) (n_v_a : Nat) (n_v_b : Nat) (n_v_left : Nat) (n_v_right : Nat) (x1 : Int32) (x2 : Int32) (v_power : Int32)  (v_aMany : Int32) (v_bMany : Int32) (v_leftMany : Int32) (v_rightMany : Int32) (v_twos : Int32) (v_a_a : Nat → Int32) (v_b_a : Nat → Int32) (v_left_a : Nat → Int32) (v_right_a : Nat → Int32) : Option (Int64 × Int32 × Int32 × Int32 × Int32 × Int32 × (Nat → Int32) × (Nat → Int32) × (Nat → Int32) × (Nat → Int32)) :=
  (f_Mod_nearest fu n_v_a n_v_b n_v_left n_v_right x2 v_aMany v_bMany v_leftMany v_rightMany v_twos v_a_a v_b_a v_left_a v_right_a).bind fun u_2 =>
  some (u_2.1, v_aMany, v_bMany, u_2.2.1, u_2.2.2.1, v_twos, v_a_a, v_b_a, u_2.2.2.2.1, u_2.2.2.2.2)
def f_Mod_found_50 (fu : Nat) (n_v_a : Nat) (n_v_b : Nat) (n_v_left : Nat) (n_v_right : Nat) (x1 : Int32) (x2 : Int32) (v_power : Int32)  (v_aMany : Int32) (v_bMany : Int32) (v_leftMany : Int32) (v_rightMany : Int32) (v_twos : Int32) (v_a_a : Nat → Int32) (v_b_a : Nat → Int32) (v_left_a : Nat → Int32) (v_right_a : Nat → Int32) : Option (Int64 × Int32 × Int32 × Int32 × Int32 × Int32 × (Nat → Int32) × (Nat → Int32) × (Nat → Int32) × (Nat → Int32)) :=
  (if x1 = 0 then
  (if 0 ≤ v_power then
  f_Mod_found_81 fu n_v_a n_v_b n_v_left n_v_right x1 x2 v_power v_aMany v_bMany v_leftMany v_rightMany v_twos v_a_a v_b_a v_left_a v_right_a
  else
  (f_Mod_fives fu n_v_b v_bMany (-v_power) v_b_a).bind fun u_3 =>
  f_Mod_found_81 fu n_v_a n_v_b n_v_left n_v_right x1 x2 v_power v_aMany u_3.1 v_leftMany v_rightMany v_twos v_a_a u_3.2 v_left_a v_right_a)
  else
  f_Mod_found_81 fu n_v_a n_v_b n_v_left n_v_right x1 x2 v_power v_aMany v_bMany v_leftMany v_rightMany v_twos v_a_a v_b_a v_left_a v_right_a)
def f_Mod_found (fu : Nat) (n_v_a : Nat) (n_v_b : Nat) (n_v_left : Nat) (n_v_right : Nat) (x1 : Int32) (x2 : Int32) (v_aMany : Int32) (v_bMany : Int32) (v_leftMany : Int32) (v_rightMany : Int32) (v_twos : Int32) (v_power : Int32) (v_a_a : Nat → Int32) (v_b_a : Nat → Int32) (v_left_a : Nat → Int32) (v_right_a : Nat → Int32) : Option (Int64 × Int32 × Int32 × Int32 × Int32 × Int32 × (Nat → Int32) × (Nat → Int32) × (Nat → Int32) × (Nat → Int32)) :=
  (f_Mod_set fu n_v_b 1 v_b_a).bind fun u_1 =>
  (if x1 = 0 then
  (if v_power ≤ 0 then
  f_Mod_found_50 fu n_v_a n_v_b n_v_left n_v_right x1 x2 v_power v_aMany u_1.1 v_leftMany v_rightMany v_power v_a_a u_1.2 v_left_a v_right_a
  else
  (f_Mod_fives fu n_v_a v_aMany v_power v_a_a).bind fun u_4 =>
  f_Mod_found_50 fu n_v_a n_v_b n_v_left n_v_right x1 x2 v_power u_4.1 u_1.1 v_leftMany v_rightMany v_power u_4.2 u_1.2 v_left_a v_right_a)
  else
  f_Mod_found_50 fu n_v_a n_v_b n_v_left n_v_right x1 x2 v_power v_aMany u_1.1 v_leftMany v_rightMany v_power v_a_a u_1.2 v_left_a v_right_a)
set_option maxHeartbeats 4000000 in
set_option maxRecDepth 100000 in
theorem c_Mod_found (l : Launch) (dC : Nat → ClassId) (dI : Nat → Nat → Nat) (cI cC cB cJ : ClassId) (fu : Nat) (sz : Nat) (h_v : Nat) (h_v_a : Nat) (h_v_b : Nat) (h_v_left : Nat) (h_v_right : Nat) (h_v_text : Nat) (h_v_written : Nat) (h_v_five : Nat) (h_v_part : Nat) (n_v_a : Nat) (n_v_b : Nat) (n_v_left : Nat) (n_v_right : Nat) (x1 : Int32) (x2 : Int32) (v_length : Int32) (v_laid : Int32) (v_gone : Int32) (v_thrown : Int32) (v_were : Int32) (v_none : Int32) (v_beyond : Int32) (v_aMany : Int32) (v_bMany : Int32) (v_fiveMany : Int32) (v_leftMany : Int32) (v_rightMany : Int32) (v_partMany : Int32) (v_twos : Int32) (v_at : Int32) (v_digits : Int32) (v_power : Int32) (v_good : Int32) (v_a_a : Nat → Int32) (v_b_a : Nat → Int32) (v_left_a : Nat → Int32) (v_right_a : Nat → Int32) (u : Int64 × Int32 × Int32 × Int32 × Int32 × Int32 × (Nat → Int32) × (Nat → Int32) × (Nat → Int32) × (Nat → Int32)) (hf : f_Mod_found fu n_v_a n_v_b n_v_left n_v_right x1 x2 v_aMany v_bMany v_leftMany v_rightMany v_twos v_power v_a_a v_b_a v_left_a v_right_a = some u) : Met l y_Mod_found ws_Mod_found rm_Mod_found (zz_P zz_T (dC, dI) vwCl (zz_tys cI cC cB cJ) [.ref h_v, .int x1, .int x2] [(h_v, .inr (7, [.ref h_v_text, .ref h_v_written, .int v_length, .int v_laid, .int v_gone, .int v_thrown, .int v_were, .int v_none, .int v_beyond, .ref h_v_a, .ref h_v_b, .ref h_v_five, .ref h_v_left, .ref h_v_right, .ref h_v_part, .int v_aMany, .int v_bMany, .int v_fiveMany, .int v_leftMany, .int v_rightMany, .int v_partMany, .int v_twos, .int v_at, .int v_digits, .int v_power, .int v_good])), (h_v_a, .inl (cI, n_v_a, .inl v_a_a)), (h_v_b, .inl (cI, n_v_b, .inl v_b_a)), (h_v_left, .inl (cI, n_v_left, .inl v_left_a)), (h_v_right, .inl (cI, n_v_right, .inl v_right_a))] sz) (zz_Ql (dC, dI) vwCl u.1 [(h_v, .inr (7, [.ref h_v_text, .ref h_v_written, .int v_length, .int v_laid, .int v_gone, .int v_thrown, .int v_were, .int v_none, .int v_beyond, .ref h_v_a, .ref h_v_b, .ref h_v_five, .ref h_v_left, .ref h_v_right, .ref h_v_part, .int u.2.1, .int u.2.2.1, .int v_fiveMany, .int u.2.2.2.1, .int u.2.2.2.2.1, .int v_partMany, .int u.2.2.2.2.2.1, .int v_at, .int v_digits, .int v_power, .int v_good])), (h_v_a, .inl (cI, n_v_a, .inl u.2.2.2.2.2.2.1)), (h_v_b, .inl (cI, n_v_b, .inl u.2.2.2.2.2.2.2.1)), (h_v_left, .inl (cI, n_v_left, .inl u.2.2.2.2.2.2.2.2.1)), (h_v_right, .inl (cI, n_v_right, .inl u.2.2.2.2.2.2.2.2.2))] (va_A [(h_v, .inr (7, [.ref h_v_text, .ref h_v_written, .int v_length, .int v_laid, .int v_gone, .int v_thrown, .int v_were, .int v_none, .int v_beyond, .ref h_v_a, .ref h_v_b, .ref h_v_five, .ref h_v_left, .ref h_v_right, .ref h_v_part, .int v_aMany, .int v_bMany, .int v_fiveMany, .int v_leftMany, .int v_rightMany, .int v_partMany, .int v_twos, .int v_at, .int v_digits, .int v_power, .int v_good])), (h_v_a, .inl (cI, n_v_a, .inl v_a_a)), (h_v_b, .inl (cI, n_v_b, .inl v_b_a)), (h_v_left, .inl (cI, n_v_left, .inl v_left_a)), (h_v_right, .inl (cI, n_v_right, .inl v_right_a))] sz)) 0 0 (va_A [(h_v, .inr (7, [.ref h_v_text, .ref h_v_written, .int v_length, .int v_laid, .int v_gone, .int v_thrown, .int v_were, .int v_none, .int v_beyond, .ref h_v_a, .ref h_v_b, .ref h_v_five, .ref h_v_left, .ref h_v_right, .ref h_v_part, .int v_aMany, .int v_bMany, .int v_fiveMany, .int v_leftMany, .int v_rightMany, .int v_partMany, .int v_twos, .int v_at, .int v_digits, .int v_power, .int v_good])), (h_v_a, .inl (cI, n_v_a, .inl v_a_a)), (h_v_b, .inl (cI, n_v_b, .inl v_b_a)), (h_v_left, .inl (cI, n_v_left, .inl v_left_a)), (h_v_right, .inl (cI, n_v_right, .inl v_right_a))] sz) := by
  refine Met.ofW (cc := prog_10_method_25_code) (maxL := 3) (ret := (some .long)) (by decide +kernel) rfl ?_
  intro p e s m args below meth c s₁ B hml hv
  obtain ⟨rfl, hsz, hP, hK, hD0, hX⟩ := hv
  have hx := B.exec
  have hb := B.bytes
  have hr := B.returns
  have hts := atoms_spec (ws := ws_Mod_found) B.pre
  have hw : ∀ w ∈ zw, w.before [.ref h_v, .int x1, .int x2].toArray s = true := fun w h => hts w (List.mem_cons_of_mem _ h)
  have hown : s.vm.findClass R_Mod = some m.cls := findClass_of_methodNamed B.named
  have hlocks := B.notSynchronized
  subst hsz
  have hD := hD0.self (sz := s.heap.size)
  generalize hAe : va_A [(h_v, .inr (7, [.ref h_v_text, .ref h_v_written, .int v_length, .int v_laid, .int v_gone, .int v_thrown, .int v_were, .int v_none, .int v_beyond, .ref h_v_a, .ref h_v_b, .ref h_v_five, .ref h_v_left, .ref h_v_right, .ref h_v_part, .int v_aMany, .int v_bMany, .int v_fiveMany, .int v_leftMany, .int v_rightMany, .int v_partMany, .int v_twos, .int v_at, .int v_digits, .int v_power, .int v_good])), (h_v_a, .inl (cI, n_v_a, .inl v_a_a)), (h_v_b, .inl (cI, n_v_b, .inl v_b_a)), (h_v_left, .inl (cI, n_v_left, .inl v_left_a)), (h_v_right, .inl (cI, n_v_right, .inl v_right_a))] s.heap.size = A at hD hX ⊢
  have hA : ∀ q : Nat, s.heap.size ≤ q → A q := fun q h => by rw [← hAe]; exact Or.inr h
  have hS : va_S A s.heap s.heap [] := va_S.rf
  have hl := lv_entry [.ref h_v, .int x1, .int x2] (n := 3) (Nat.le_of_ble_eq_true rfl)
  rw [lg_entry_eq]
  generalize (lg_sl [.ref h_v, .int x1, .int x2] ++ List.replicate (3 - (lg_sl [.ref h_v, .int x1, .int x2]).length) Slot.unset).toArray = ls at hl ⊢
  have hl : lv_has ls 3 [(0, .ref h_v), (1, .int x1), (2, .int x2)] := hl
  refine zz_endl hx hb hr hlocks (fun Qq hend => ?_)
  have hL_81 : ∀ (v_aMany : Int32) (v_bMany : Int32) (v_leftMany : Int32) (v_rightMany : Int32) (v_twos : Int32) (v_a_a : Nat → Int32) (v_b_a : Nat → Int32) (v_left_a : Nat → Int32) (v_right_a : Nat → Int32) (ls : Array Slot) (H : Heap) (locs : List Loc), lv_has ls 3 [(0, .ref h_v), (2, .int x2)] → va_P (dC, dI) vwCl [(h_v, .inr (7, [.ref h_v_text, .ref h_v_written, .int v_length, .int v_laid, .int v_gone, .int v_thrown, .int v_were, .int v_none, .int v_beyond, .ref h_v_a, .ref h_v_b, .ref h_v_five, .ref h_v_left, .ref h_v_right, .ref h_v_part, .int v_aMany, .int v_bMany, .int v_fiveMany, .int v_leftMany, .int v_rightMany, .int v_partMany, .int v_twos, .int v_at, .int v_digits, .int v_power, .int v_good])), (h_v_a, .inl (cI, n_v_a, .inl v_a_a)), (h_v_b, .inl (cI, n_v_b, .inl v_b_a)), (h_v_left, .inl (cI, n_v_left, .inl v_left_a)), (h_v_right, .inl (cI, n_v_right, .inl v_right_a))] H → va_D A [(h_v, .inr (7, [.ref h_v_text, .ref h_v_written, .int v_length, .int v_laid, .int v_gone, .int v_thrown, .int v_were, .int v_none, .int v_beyond, .ref h_v_a, .ref h_v_b, .ref h_v_five, .ref h_v_left, .ref h_v_right, .ref h_v_part, .int v_aMany, .int v_bMany, .int v_fiveMany, .int v_leftMany, .int v_rightMany, .int v_partMany, .int v_twos, .int v_at, .int v_digits, .int v_power, .int v_good])), (h_v_a, .inl (cI, n_v_a, .inl v_a_a)), (h_v_b, .inl (cI, n_v_b, .inl v_b_a)), (h_v_left, .inl (cI, n_v_left, .inl v_left_a)), (h_v_right, .inl (cI, n_v_right, .inl v_right_a))] → va_S A s.heap H locs → f_Mod_found_81 fu n_v_a n_v_b n_v_left n_v_right x1 x2 v_power v_aMany v_bMany v_leftMany v_rightMany v_twos v_a_a v_b_a v_left_a v_right_a = some u → W p l e (headSpec ws_Mod_found rm_Mod_found).room s m [.ref h_v, .int x1, .int x2].toArray below meth c H locs 0 0 Qq (F0 m 81 ls []) := by
    intro v_aMany v_bMany v_leftMany v_rightMany v_twos v_a_a v_b_a v_left_a v_right_a ls H locs hl hP hD hS hf
    unfold f_Mod_found_81 at hf
    refine lv_aload_n hx hb d_Mod_found_81 rfl (lv_at hl 0 rfl) ?_
    refine lv_iload_n hx hb d_Mod_found_82 rfl (lv_at hl 1 rfl) ?_
    obtain ⟨u_2, hu_2, hf⟩ := zz_bd hf
    refine zz_cl (ws' := [(h_v, .inr (7, [.ref h_v_text, .ref h_v_written, .int v_length, .int v_laid, .int v_gone, .int v_thrown, .int v_were, .int v_none, .int v_beyond, .ref h_v_a, .ref h_v_b, .ref h_v_five, .ref h_v_left, .ref h_v_right, .ref h_v_part, .int v_aMany, .int v_bMany, .int v_fiveMany, .int u_2.2.1, .int u_2.2.2.1, .int v_partMany, .int v_twos, .int v_at, .int v_digits, .int v_power, .int v_good])), (h_v_a, .inl (cI, n_v_a, .inl v_a_a)), (h_v_b, .inl (cI, n_v_b, .inl v_b_a)), (h_v_left, .inl (cI, n_v_left, .inl u_2.2.2.2.1)), (h_v_right, .inl (cI, n_v_right, .inl u_2.2.2.2.2))]) (wc := [(h_v, .inr (7, [.ref h_v_text, .ref h_v_written, .int v_length, .int v_laid, .int v_gone, .int v_thrown, .int v_were, .int v_none, .int v_beyond, .ref h_v_a, .ref h_v_b, .ref h_v_five, .ref h_v_left, .ref h_v_right, .ref h_v_part, .int v_aMany, .int v_bMany, .int v_fiveMany, .int v_leftMany, .int v_rightMany, .int v_partMany, .int v_twos, .int v_at, .int v_digits, .int v_power, .int v_good])), (h_v_a, .inl (cI, n_v_a, .inl v_a_a)), (h_v_b, .inl (cI, n_v_b, .inl v_b_a)), (h_v_left, .inl (cI, n_v_left, .inl v_left_a)), (h_v_right, .inl (cI, n_v_right, .inl v_right_a))]) (w' := [(h_v, .inr (7, [.ref h_v_text, .ref h_v_written, .int v_length, .int v_laid, .int v_gone, .int v_thrown, .int v_were, .int v_none, .int v_beyond, .ref h_v_a, .ref h_v_b, .ref h_v_five, .ref h_v_left, .ref h_v_right, .ref h_v_part, .int v_aMany, .int v_bMany, .int v_fiveMany, .int u_2.2.1, .int u_2.2.2.1, .int v_partMany, .int v_twos, .int v_at, .int v_digits, .int v_power, .int v_good])), (h_v_a, .inl (cI, n_v_a, .inl v_a_a)), (h_v_b, .inl (cI, n_v_b, .inl v_b_a)), (h_v_left, .inl (cI, n_v_left, .inl u_2.2.2.2.1)), (h_v_right, .inl (cI, n_v_right, .inl u_2.2.2.2.2))]) hP hD hS hA [0, 1, 2, 3, 4] [] [0, 1, 2, 3, 4] rfl rfl (by decide) (by decide) rfl (by decide) (va_runV (As := [.int x2]) (rest := []) ⟨hx, hb, hml, hown, hw⟩ (c_Mod_nearest l dC dI cI cC cB cJ fu _ h_v h_v_a h_v_b h_v_left h_v_right h_v_text h_v_written h_v_five h_v_part n_v_a n_v_b n_v_left n_v_right x2 v_length v_laid v_gone v_thrown v_were v_none v_beyond v_aMany v_bMany v_fiveMany v_leftMany v_rightMany v_partMany v_twos v_at v_digits v_power v_good v_a_a v_b_a v_left_a v_right_a u_2 hu_2) (cwV 1 hw (zg_V wd_818 wd_820 we_2_0 wd_8 wd_821) rfl rfl rfl hd_Mod_nearest ⟨Nat.le_of_ble_eq_true rfl, Nat.le_of_ble_eq_true rfl⟩) (zz_preV zz_TE (va_recv (q0 := 0) (ci := 7) hK hP rfl rfl) hP hD hK hS hA trivial [0, 1, 2, 3, 4] rfl (by decide)) rfl rfl hl.1 rfl (lv_room (Nat.le_of_ble_eq_true rfl)) d_Mod_found_83 ⟨Nat.zero_le _, Nat.zero_le _⟩) (fun H locs hP hD hS => ?_)
    cases hf
    exact hend 86 ls _ _ d_Mod_found_86 hP hD hS
  have hL_50 : ∀ (v_aMany : Int32) (v_bMany : Int32) (v_leftMany : Int32) (v_rightMany : Int32) (v_twos : Int32) (v_a_a : Nat → Int32) (v_b_a : Nat → Int32) (v_left_a : Nat → Int32) (v_right_a : Nat → Int32) (ls : Array Slot) (H : Heap) (locs : List Loc), lv_has ls 3 [(0, .ref h_v), (1, .int x1), (2, .int x2)] → va_P (dC, dI) vwCl [(h_v, .inr (7, [.ref h_v_text, .ref h_v_written, .int v_length, .int v_laid, .int v_gone, .int v_thrown, .int v_were, .int v_none, .int v_beyond, .ref h_v_a, .ref h_v_b, .ref h_v_five, .ref h_v_left, .ref h_v_right, .ref h_v_part, .int v_aMany, .int v_bMany, .int v_fiveMany, .int v_leftMany, .int v_rightMany, .int v_partMany, .int v_twos, .int v_at, .int v_digits, .int v_power, .int v_good])), (h_v_a, .inl (cI, n_v_a, .inl v_a_a)), (h_v_b, .inl (cI, n_v_b, .inl v_b_a)), (h_v_left, .inl (cI, n_v_left, .inl v_left_a)), (h_v_right, .inl (cI, n_v_right, .inl v_right_a))] H → va_D A [(h_v, .inr (7, [.ref h_v_text, .ref h_v_written, .int v_length, .int v_laid, .int v_gone, .int v_thrown, .int v_were, .int v_none, .int v_beyond, .ref h_v_a, .ref h_v_b, .ref h_v_five, .ref h_v_left, .ref h_v_right, .ref h_v_part, .int v_aMany, .int v_bMany, .int v_fiveMany, .int v_leftMany, .int v_rightMany, .int v_partMany, .int v_twos, .int v_at, .int v_digits, .int v_power, .int v_good])), (h_v_a, .inl (cI, n_v_a, .inl v_a_a)), (h_v_b, .inl (cI, n_v_b, .inl v_b_a)), (h_v_left, .inl (cI, n_v_left, .inl v_left_a)), (h_v_right, .inl (cI, n_v_right, .inl v_right_a))] → va_S A s.heap H locs → f_Mod_found_50 fu n_v_a n_v_b n_v_left n_v_right x1 x2 v_power v_aMany v_bMany v_leftMany v_rightMany v_twos v_a_a v_b_a v_left_a v_right_a = some u → W p l e (headSpec ws_Mod_found rm_Mod_found).room s m [.ref h_v, .int x1, .int x2].toArray below meth c H locs 0 0 Qq (F0 m 50 ls []) := by
    intro v_aMany v_bMany v_leftMany v_rightMany v_twos v_a_a v_b_a v_left_a v_right_a ls H locs hl hP hD hS hf
    unfold f_Mod_found_50 at hf
    refine lv_iload_n hx hb d_Mod_found_50 rfl (lv_at hl 1 rfl) ?_
    refine lv_if_ne (tgt := 81) hx hb d_Mod_found_51 (by decide) (fun hc => ?_) (fun hc => ?_)
    · have hf := zz_ifn hc hf
      exact hL_81 v_aMany v_bMany v_leftMany v_rightMany v_twos v_a_a v_b_a v_left_a v_right_a ls _ _ (lv_sub hl [0, 2] rfl) hP hD hS hf
    · have hf := zz_ifp hc hf
      refine lv_aload_n hx hb d_Mod_found_54 rfl (lv_at hl 0 rfl) ?_
      refine va_get (D := (dC, dI)) (ci := 7) (v := .int v_power) (C := R_Mod) (T := T_Mod) (N := 26) hx hb hw in_Mod hown hK hP 0 rfl rfl 24 (by decide) (hw _ wd_697) (fun _ h9 => h9) rfl d_Mod_found_55 ?_
      refine lv_if_ge (tgt := 81) hx hb d_Mod_found_58 (by decide) (fun hc => ?_) (fun hc => ?_)
      · have hf := zz_ifp hc hf
        exact hL_81 v_aMany v_bMany v_leftMany v_rightMany v_twos v_a_a v_b_a v_left_a v_right_a ls _ _ (lv_sub hl [0, 2] rfl) hP hD hS hf
      · have hf := zz_ifn hc hf
        refine lv_aload_n hx hb d_Mod_found_61 rfl (lv_at hl 0 rfl) ?_
        refine lv_aload_n hx hb d_Mod_found_62 rfl (lv_at hl 0 rfl) ?_
        refine va_get (D := (dC, dI)) (ci := 7) (v := .ref h_v_b) (C := R_Mod) (T := T_Mod) (N := 26) hx hb hw in_Mod hown hK hP 0 rfl rfl 10 (by decide) (hw _ wd_684) (fun _ h9 => h9) rfl d_Mod_found_63 ?_
        refine lv_aload_n hx hb d_Mod_found_66 rfl (lv_at hl 0 rfl) ?_
        refine va_get (D := (dC, dI)) (ci := 7) (v := .int v_bMany) (C := R_Mod) (T := T_Mod) (N := 26) hx hb hw in_Mod hown hK hP 0 rfl rfl 16 (by decide) (hw _ wd_690) (fun _ h9 => h9) rfl d_Mod_found_67 ?_
        refine lv_aload_n hx hb d_Mod_found_70 rfl (lv_at hl 0 rfl) ?_
        refine va_get (D := (dC, dI)) (ci := 7) (v := .int v_power) (C := R_Mod) (T := T_Mod) (N := 26) hx hb hw in_Mod hown hK hP 0 rfl rfl 24 (by decide) (hw _ wd_697) (fun _ h9 => h9) rfl d_Mod_found_71 ?_
        refine lv_ineg hx hb d_Mod_found_74 ?_
        obtain ⟨u_3, hu_3, hf⟩ := zz_bd hf
        refine zz_ci (ws' := [(h_v, .inr (7, [.ref h_v_text, .ref h_v_written, .int v_length, .int v_laid, .int v_gone, .int v_thrown, .int v_were, .int v_none, .int v_beyond, .ref h_v_a, .ref h_v_b, .ref h_v_five, .ref h_v_left, .ref h_v_right, .ref h_v_part, .int v_aMany, .int v_bMany, .int v_fiveMany, .int v_leftMany, .int v_rightMany, .int v_partMany, .int v_twos, .int v_at, .int v_digits, .int v_power, .int v_good])), (h_v_a, .inl (cI, n_v_a, .inl v_a_a)), (h_v_b, .inl (cI, n_v_b, .inl u_3.2)), (h_v_left, .inl (cI, n_v_left, .inl v_left_a)), (h_v_right, .inl (cI, n_v_right, .inl v_right_a))]) (wc := [(h_v_b, .inl (cI, n_v_b, .inl v_b_a))]) (w' := [(h_v_b, .inl (cI, n_v_b, .inl u_3.2))]) hP hD hS hA [2] [0, 1, 3, 4] [0, 1, 4, 2, 3] rfl rfl (by decide) (by decide) rfl (by decide) (va_runS (As := [.ref h_v_b, .int v_bMany, .int (-v_power)]) (rest := [.ref h_v]) ⟨hx, hb, hml, hown, hw⟩ (c_Mod_fives l dC dI cI cC cB cJ fu _ h_v_b n_v_b v_bMany (-v_power) v_b_a u_3 hu_3) (va_cwS 3 hw (zg_S wd_815 wd_816 wd_8 wd_817) rfl rfl rfl hd_Mod_fives ⟨Nat.le_of_ble_eq_true rfl, Nat.le_of_ble_eq_true rfl⟩) (zz_preS zz_TE hP hD hK hS hA trivial [2] rfl (by decide)) rfl rfl hl.1 rfl (lv_room (Nat.le_of_ble_eq_true rfl)) d_Mod_found_75 ⟨Nat.zero_le _, Nat.zero_le _⟩) (fun H locs hP hD hS => ?_)
        refine va_put (D := (dC, dI)) (ci := 7) (v := .int u_3.1) (ty := .int) (C := R_Mod) (T := T_Mod) (N := 26) hx hb hw in_Mod ty_Mod tyok_Mod nm_Mod hown hK hP hD hS 0 rfl rfl 16 (by decide) (hw _ wd_690) (fun _ h9 => h9) rfl (tyok_Mod 16 (by decide)) rfl rfl (Nat.le_of_ble_eq_true rfl) d_Mod_found_78 (fun H locs hP hD hS => ?_)
        have hP : va_P (dC, dI) vwCl [(h_v, .inr (7, [.ref h_v_text, .ref h_v_written, .int v_length, .int v_laid, .int v_gone, .int v_thrown, .int v_were, .int v_none, .int v_beyond, .ref h_v_a, .ref h_v_b, .ref h_v_five, .ref h_v_left, .ref h_v_right, .ref h_v_part, .int v_aMany, .int u_3.1, .int v_fiveMany, .int v_leftMany, .int v_rightMany, .int v_partMany, .int v_twos, .int v_at, .int v_digits, .int v_power, .int v_good])), (h_v_a, .inl (cI, n_v_a, .inl v_a_a)), (h_v_b, .inl (cI, n_v_b, .inl u_3.2)), (h_v_left, .inl (cI, n_v_left, .inl v_left_a)), (h_v_right, .inl (cI, n_v_right, .inl v_right_a))] H := hP
        have hD : va_D A [(h_v, .inr (7, [.ref h_v_text, .ref h_v_written, .int v_length, .int v_laid, .int v_gone, .int v_thrown, .int v_were, .int v_none, .int v_beyond, .ref h_v_a, .ref h_v_b, .ref h_v_five, .ref h_v_left, .ref h_v_right, .ref h_v_part, .int v_aMany, .int u_3.1, .int v_fiveMany, .int v_leftMany, .int v_rightMany, .int v_partMany, .int v_twos, .int v_at, .int v_digits, .int v_power, .int v_good])), (h_v_a, .inl (cI, n_v_a, .inl v_a_a)), (h_v_b, .inl (cI, n_v_b, .inl u_3.2)), (h_v_left, .inl (cI, n_v_left, .inl v_left_a)), (h_v_right, .inl (cI, n_v_right, .inl v_right_a))] := hD
        exact hL_81 v_aMany u_3.1 v_leftMany v_rightMany v_twos v_a_a u_3.2 v_left_a v_right_a ls _ _ (lv_sub hl [0, 2] rfl) hP hD hS hf
  unfold f_Mod_found at hf
  refine lv_aload_n hx hb d_Mod_found_0 rfl (lv_at hl 0 rfl) ?_
  refine lv_aload_n hx hb d_Mod_found_1 rfl (lv_at hl 0 rfl) ?_
  refine va_get (D := (dC, dI)) (ci := 7) (v := .ref h_v_b) (C := R_Mod) (T := T_Mod) (N := 26) hx hb hw in_Mod hown hK hP 0 rfl rfl 10 (by decide) (hw _ wd_684) (fun _ h9 => h9) rfl d_Mod_found_2 ?_
  refine lv_lconst (v := 1) hx hb d_Mod_found_5 (by decide) ?_
  obtain ⟨u_1, hu_1, hf⟩ := zz_bd hf
  refine zz_ci (ws' := [(h_v, .inr (7, [.ref h_v_text, .ref h_v_written, .int v_length, .int v_laid, .int v_gone, .int v_thrown, .int v_were, .int v_none, .int v_beyond, .ref h_v_a, .ref h_v_b, .ref h_v_five, .ref h_v_left, .ref h_v_right, .ref h_v_part, .int v_aMany, .int v_bMany, .int v_fiveMany, .int v_leftMany, .int v_rightMany, .int v_partMany, .int v_twos, .int v_at, .int v_digits, .int v_power, .int v_good])), (h_v_a, .inl (cI, n_v_a, .inl v_a_a)), (h_v_b, .inl (cI, n_v_b, .inl u_1.2)), (h_v_left, .inl (cI, n_v_left, .inl v_left_a)), (h_v_right, .inl (cI, n_v_right, .inl v_right_a))]) (wc := [(h_v_b, .inl (cI, n_v_b, .inl v_b_a))]) (w' := [(h_v_b, .inl (cI, n_v_b, .inl u_1.2))]) hP hD hS hA [2] [0, 1, 3, 4] [0, 1, 4, 2, 3] rfl rfl (by decide) (by decide) rfl (by decide) (va_runS (As := [.ref h_v_b, .long 1]) (rest := [.ref h_v]) ⟨hx, hb, hml, hown, hw⟩ (c_Mod_set l dC dI cI cC cB cJ fu _ h_v_b n_v_b 1 v_b_a u_1 hu_1) (va_cwS 2 hw (zg_S wd_812 wd_813 wd_8 wd_814) rfl rfl rfl hd_Mod_set ⟨Nat.le_of_ble_eq_true rfl, Nat.le_of_ble_eq_true rfl⟩) (zz_preS zz_TE hP hD hK hS hA trivial [2] rfl (by decide)) rfl rfl hl.1 rfl (lv_room (Nat.le_of_ble_eq_true rfl)) d_Mod_found_6 ⟨Nat.zero_le _, Nat.zero_le _⟩) (fun H locs hP hD hS => ?_)
  refine va_put (D := (dC, dI)) (ci := 7) (v := .int u_1.1) (ty := .int) (C := R_Mod) (T := T_Mod) (N := 26) hx hb hw in_Mod ty_Mod tyok_Mod nm_Mod hown hK hP hD hS 0 rfl rfl 16 (by decide) (hw _ wd_690) (fun _ h9 => h9) rfl (tyok_Mod 16 (by decide)) rfl rfl (Nat.le_of_ble_eq_true rfl) d_Mod_found_9 (fun H locs hP hD hS => ?_)
  have hP : va_P (dC, dI) vwCl [(h_v, .inr (7, [.ref h_v_text, .ref h_v_written, .int v_length, .int v_laid, .int v_gone, .int v_thrown, .int v_were, .int v_none, .int v_beyond, .ref h_v_a, .ref h_v_b, .ref h_v_five, .ref h_v_left, .ref h_v_right, .ref h_v_part, .int v_aMany, .int u_1.1, .int v_fiveMany, .int v_leftMany, .int v_rightMany, .int v_partMany, .int v_twos, .int v_at, .int v_digits, .int v_power, .int v_good])), (h_v_a, .inl (cI, n_v_a, .inl v_a_a)), (h_v_b, .inl (cI, n_v_b, .inl u_1.2)), (h_v_left, .inl (cI, n_v_left, .inl v_left_a)), (h_v_right, .inl (cI, n_v_right, .inl v_right_a))] H := hP
  have hD : va_D A [(h_v, .inr (7, [.ref h_v_text, .ref h_v_written, .int v_length, .int v_laid, .int v_gone, .int v_thrown, .int v_were, .int v_none, .int v_beyond, .ref h_v_a, .ref h_v_b, .ref h_v_five, .ref h_v_left, .ref h_v_right, .ref h_v_part, .int v_aMany, .int u_1.1, .int v_fiveMany, .int v_leftMany, .int v_rightMany, .int v_partMany, .int v_twos, .int v_at, .int v_digits, .int v_power, .int v_good])), (h_v_a, .inl (cI, n_v_a, .inl v_a_a)), (h_v_b, .inl (cI, n_v_b, .inl u_1.2)), (h_v_left, .inl (cI, n_v_left, .inl v_left_a)), (h_v_right, .inl (cI, n_v_right, .inl v_right_a))] := hD
  refine lv_aload_n hx hb d_Mod_found_12 rfl (lv_at hl 0 rfl) ?_
  refine lv_aload_n hx hb d_Mod_found_13 rfl (lv_at hl 0 rfl) ?_
  refine va_get (D := (dC, dI)) (ci := 7) (v := .int v_power) (C := R_Mod) (T := T_Mod) (N := 26) hx hb hw in_Mod hown hK hP 0 rfl rfl 24 (by decide) (hw _ wd_697) (fun _ h9 => h9) rfl d_Mod_found_14 ?_
  refine va_put (D := (dC, dI)) (ci := 7) (v := .int v_power) (ty := .int) (C := R_Mod) (T := T_Mod) (N := 26) hx hb hw in_Mod ty_Mod tyok_Mod nm_Mod hown hK hP hD hS 0 rfl rfl 21 (by decide) (hw _ wd_694) (fun _ h9 => h9) rfl (tyok_Mod 21 (by decide)) rfl rfl (Nat.le_of_ble_eq_true rfl) d_Mod_found_17 (fun H locs hP hD hS => ?_)
  have hP : va_P (dC, dI) vwCl [(h_v, .inr (7, [.ref h_v_text, .ref h_v_written, .int v_length, .int v_laid, .int v_gone, .int v_thrown, .int v_were, .int v_none, .int v_beyond, .ref h_v_a, .ref h_v_b, .ref h_v_five, .ref h_v_left, .ref h_v_right, .ref h_v_part, .int v_aMany, .int u_1.1, .int v_fiveMany, .int v_leftMany, .int v_rightMany, .int v_partMany, .int v_power, .int v_at, .int v_digits, .int v_power, .int v_good])), (h_v_a, .inl (cI, n_v_a, .inl v_a_a)), (h_v_b, .inl (cI, n_v_b, .inl u_1.2)), (h_v_left, .inl (cI, n_v_left, .inl v_left_a)), (h_v_right, .inl (cI, n_v_right, .inl v_right_a))] H := hP
  have hD : va_D A [(h_v, .inr (7, [.ref h_v_text, .ref h_v_written, .int v_length, .int v_laid, .int v_gone, .int v_thrown, .int v_were, .int v_none, .int v_beyond, .ref h_v_a, .ref h_v_b, .ref h_v_five, .ref h_v_left, .ref h_v_right, .ref h_v_part, .int v_aMany, .int u_1.1, .int v_fiveMany, .int v_leftMany, .int v_rightMany, .int v_partMany, .int v_power, .int v_at, .int v_digits, .int v_power, .int v_good])), (h_v_a, .inl (cI, n_v_a, .inl v_a_a)), (h_v_b, .inl (cI, n_v_b, .inl u_1.2)), (h_v_left, .inl (cI, n_v_left, .inl v_left_a)), (h_v_right, .inl (cI, n_v_right, .inl v_right_a))] := hD
  refine lv_iload_n hx hb d_Mod_found_20 rfl (lv_at hl 1 rfl) ?_
  refine lv_if_ne (tgt := 50) hx hb d_Mod_found_21 (by decide) (fun hc => ?_) (fun hc => ?_)
  · have hf := zz_ifn hc hf
    exact hL_50 v_aMany u_1.1 v_leftMany v_rightMany v_power v_a_a u_1.2 v_left_a v_right_a ls _ _ (lv_sub hl [0, 1, 2] rfl) hP hD hS hf
  · have hf := zz_ifp hc hf
    refine lv_aload_n hx hb d_Mod_found_24 rfl (lv_at hl 0 rfl) ?_
    refine va_get (D := (dC, dI)) (ci := 7) (v := .int v_power) (C := R_Mod) (T := T_Mod) (N := 26) hx hb hw in_Mod hown hK hP 0 rfl rfl 24 (by decide) (hw _ wd_697) (fun _ h9 => h9) rfl d_Mod_found_25 ?_
    refine lv_if_le (tgt := 50) hx hb d_Mod_found_28 (by decide) (fun hc => ?_) (fun hc => ?_)
    · have hf := zz_ifp hc hf
      exact hL_50 v_aMany u_1.1 v_leftMany v_rightMany v_power v_a_a u_1.2 v_left_a v_right_a ls _ _ (lv_sub hl [0, 1, 2] rfl) hP hD hS hf
    · have hf := zz_ifn hc hf
      refine lv_aload_n hx hb d_Mod_found_31 rfl (lv_at hl 0 rfl) ?_
      refine lv_aload_n hx hb d_Mod_found_32 rfl (lv_at hl 0 rfl) ?_
      refine va_get (D := (dC, dI)) (ci := 7) (v := .ref h_v_a) (C := R_Mod) (T := T_Mod) (N := 26) hx hb hw in_Mod hown hK hP 0 rfl rfl 9 (by decide) (hw _ wd_683) (fun _ h9 => h9) rfl d_Mod_found_33 ?_
      refine lv_aload_n hx hb d_Mod_found_36 rfl (lv_at hl 0 rfl) ?_
      refine va_get (D := (dC, dI)) (ci := 7) (v := .int v_aMany) (C := R_Mod) (T := T_Mod) (N := 26) hx hb hw in_Mod hown hK hP 0 rfl rfl 15 (by decide) (hw _ wd_689) (fun _ h9 => h9) rfl d_Mod_found_37 ?_
      refine lv_aload_n hx hb d_Mod_found_40 rfl (lv_at hl 0 rfl) ?_
      refine va_get (D := (dC, dI)) (ci := 7) (v := .int v_power) (C := R_Mod) (T := T_Mod) (N := 26) hx hb hw in_Mod hown hK hP 0 rfl rfl 24 (by decide) (hw _ wd_697) (fun _ h9 => h9) rfl d_Mod_found_41 ?_
      obtain ⟨u_4, hu_4, hf⟩ := zz_bd hf
      refine zz_ci (ws' := [(h_v, .inr (7, [.ref h_v_text, .ref h_v_written, .int v_length, .int v_laid, .int v_gone, .int v_thrown, .int v_were, .int v_none, .int v_beyond, .ref h_v_a, .ref h_v_b, .ref h_v_five, .ref h_v_left, .ref h_v_right, .ref h_v_part, .int v_aMany, .int u_1.1, .int v_fiveMany, .int v_leftMany, .int v_rightMany, .int v_partMany, .int v_power, .int v_at, .int v_digits, .int v_power, .int v_good])), (h_v_a, .inl (cI, n_v_a, .inl u_4.2)), (h_v_b, .inl (cI, n_v_b, .inl u_1.2)), (h_v_left, .inl (cI, n_v_left, .inl v_left_a)), (h_v_right, .inl (cI, n_v_right, .inl v_right_a))]) (wc := [(h_v_a, .inl (cI, n_v_a, .inl v_a_a))]) (w' := [(h_v_a, .inl (cI, n_v_a, .inl u_4.2))]) hP hD hS hA [1] [0, 2, 3, 4] [0, 4, 1, 2, 3] rfl rfl (by decide) (by decide) rfl (by decide) (va_runS (As := [.ref h_v_a, .int v_aMany, .int v_power]) (rest := [.ref h_v]) ⟨hx, hb, hml, hown, hw⟩ (c_Mod_fives l dC dI cI cC cB cJ fu _ h_v_a n_v_a v_aMany v_power v_a_a u_4 hu_4) (va_cwS 3 hw (zg_S wd_815 wd_816 wd_8 wd_817) rfl rfl rfl hd_Mod_fives ⟨Nat.le_of_ble_eq_true rfl, Nat.le_of_ble_eq_true rfl⟩) (zz_preS zz_TE hP hD hK hS hA trivial [1] rfl (by decide)) rfl rfl hl.1 rfl (lv_room (Nat.le_of_ble_eq_true rfl)) d_Mod_found_44 ⟨Nat.zero_le _, Nat.zero_le _⟩) (fun H locs hP hD hS => ?_)
      refine va_put (D := (dC, dI)) (ci := 7) (v := .int u_4.1) (ty := .int) (C := R_Mod) (T := T_Mod) (N := 26) hx hb hw in_Mod ty_Mod tyok_Mod nm_Mod hown hK hP hD hS 0 rfl rfl 15 (by decide) (hw _ wd_689) (fun _ h9 => h9) rfl (tyok_Mod 15 (by decide)) rfl rfl (Nat.le_of_ble_eq_true rfl) d_Mod_found_47 (fun H locs hP hD hS => ?_)
      have hP : va_P (dC, dI) vwCl [(h_v, .inr (7, [.ref h_v_text, .ref h_v_written, .int v_length, .int v_laid, .int v_gone, .int v_thrown, .int v_were, .int v_none, .int v_beyond, .ref h_v_a, .ref h_v_b, .ref h_v_five, .ref h_v_left, .ref h_v_right, .ref h_v_part, .int u_4.1, .int u_1.1, .int v_fiveMany, .int v_leftMany, .int v_rightMany, .int v_partMany, .int v_power, .int v_at, .int v_digits, .int v_power, .int v_good])), (h_v_a, .inl (cI, n_v_a, .inl u_4.2)), (h_v_b, .inl (cI, n_v_b, .inl u_1.2)), (h_v_left, .inl (cI, n_v_left, .inl v_left_a)), (h_v_right, .inl (cI, n_v_right, .inl v_right_a))] H := hP
      have hD : va_D A [(h_v, .inr (7, [.ref h_v_text, .ref h_v_written, .int v_length, .int v_laid, .int v_gone, .int v_thrown, .int v_were, .int v_none, .int v_beyond, .ref h_v_a, .ref h_v_b, .ref h_v_five, .ref h_v_left, .ref h_v_right, .ref h_v_part, .int u_4.1, .int u_1.1, .int v_fiveMany, .int v_leftMany, .int v_rightMany, .int v_partMany, .int v_power, .int v_at, .int v_digits, .int v_power, .int v_good])), (h_v_a, .inl (cI, n_v_a, .inl u_4.2)), (h_v_b, .inl (cI, n_v_b, .inl u_1.2)), (h_v_left, .inl (cI, n_v_left, .inl v_left_a)), (h_v_right, .inl (cI, n_v_right, .inl v_right_a))] := hD
      exact hL_50 u_4.1 u_1.1 v_leftMany v_rightMany v_power u_4.2 u_1.2 v_left_a v_right_a ls _ _ (lv_sub hl [0, 1, 2] rfl) hP hD hS hf
abbrev ws_Mod_read : List Cond := .code y_Mod_read prog_10_method_24_code 7 (some .long) :: zw
abbrev rm_Mod_read : Room := { frames := 7, cells := 0, slots := 0, locals := 173 }
theorem hd_Mod_read : y_Mod_read.cls = "RealTextModel" ∧ y_Mod_read.cls ≠ "java/lang/invoke/MethodHandle" ∧ y_Mod_read.cls ≠ "java/lang/invoke/VarHandle" ∧ (parseMethodDescriptor y_Mod_read.desc).map (fun d => d.parameters.length) = some 1 := by decide +kernel
theorem d_Mod_read_0 : decode prog_10_method_24_code 0 = .ok (.aload_n 0, 1) := by decide +kernel
theorem d_Mod_read_1 : decode prog_10_method_24_code 1 = .ok (.invokevirtual 137, 3) := by decide +kernel
theorem d_Mod_read_4 : decode prog_10_method_24_code 4 = .ok (.istore_n 2, 1) := by decide +kernel
theorem d_Mod_read_5 : decode prog_10_method_24_code 5 = .ok (.aload_n 0, 1) := by decide +kernel
theorem d_Mod_read_6 : decode prog_10_method_24_code 6 = .ok (.iload_n 2, 1) := by decide +kernel
theorem d_Mod_read_7 : decode prog_10_method_24_code 7 = .ok (.invokevirtual 141, 3) := by decide +kernel
theorem d_Mod_read_10 : decode prog_10_method_24_code 10 = .ok (.istore_n 3, 1) := by decide +kernel
theorem d_Mod_read_11 : decode prog_10_method_24_code 11 = .ok (.aload_n 0, 1) := by decide +kernel
theorem d_Mod_read_12 : decode prog_10_method_24_code 12 = .ok (.iconst 0, 1) := by decide +kernel
theorem d_Mod_read_13 : decode prog_10_method_24_code 13 = .ok (.putfield 46, 3) := by decide +kernel
theorem d_Mod_read_16 : decode prog_10_method_24_code 16 = .ok (.iload_n 3, 1) := by decide +kernel
theorem d_Mod_read_17 : decode prog_10_method_24_code 17 = .ok (.ifCond .ne 20, 3) := by decide +kernel
theorem d_Mod_read_20 : decode prog_10_method_24_code 20 = .ok (.aload_n 0, 1) := by decide +kernel
theorem d_Mod_read_21 : decode prog_10_method_24_code 21 = .ok (.dup, 1) := by decide +kernel
theorem d_Mod_read_22 : decode prog_10_method_24_code 22 = .ok (.getfield 145, 3) := by decide +kernel
theorem d_Mod_read_25 : decode prog_10_method_24_code 25 = .ok (.iconst 1, 1) := by decide +kernel
theorem d_Mod_read_26 : decode prog_10_method_24_code 26 = .ok (.iadd, 1) := by decide +kernel
theorem d_Mod_read_27 : decode prog_10_method_24_code 27 = .ok (.putfield 145, 3) := by decide +kernel
theorem d_Mod_read_30 : decode prog_10_method_24_code 30 = .ok (.aload_n 0, 1) := by decide +kernel
theorem d_Mod_read_31 : decode prog_10_method_24_code 31 = .ok (.iconst 1, 1) := by decide +kernel
theorem d_Mod_read_32 : decode prog_10_method_24_code 32 = .ok (.invokevirtual 42, 3) := by decide +kernel
theorem d_Mod_read_35 : decode prog_10_method_24_code 35 = .ok (.i2l, 1) := by decide +kernel
theorem d_Mod_read_36 : decode prog_10_method_24_code 36 = .ok (.lreturn, 1) := by decide +kernel
theorem d_Mod_read_37 : decode prog_10_method_24_code 37 = .ok (.iload_n 2, 1) := by decide +kernel
theorem d_Mod_read_38 : decode prog_10_method_24_code 38 = .ok (.ifCond .eq 17, 3) := by decide +kernel
theorem d_Mod_read_41 : decode prog_10_method_24_code 41 = .ok (.aload_n 0, 1) := by decide +kernel
theorem d_Mod_read_42 : decode prog_10_method_24_code 42 = .ok (.getfield 127, 3) := by decide +kernel
theorem d_Mod_read_45 : decode prog_10_method_24_code 45 = .ok (.iconst 4, 1) := by decide +kernel
theorem d_Mod_read_46 : decode prog_10_method_24_code 46 = .ok (.aload_n 0, 1) := by decide +kernel
theorem d_Mod_read_47 : decode prog_10_method_24_code 47 = .ok (.getfield 118, 3) := by decide +kernel
theorem d_Mod_read_50 : decode prog_10_method_24_code 50 = .ok (.imul, 1) := by decide +kernel
theorem d_Mod_read_51 : decode prog_10_method_24_code 51 = .ok (.iadd, 1) := by decide +kernel
theorem d_Mod_read_52 : decode prog_10_method_24_code 52 = .ok (.goto 12, 3) := by decide +kernel
theorem d_Mod_read_55 : decode prog_10_method_24_code 55 = .ok (.aload_n 0, 1) := by decide +kernel
theorem d_Mod_read_56 : decode prog_10_method_24_code 56 = .ok (.getfield 127, 3) := by decide +kernel
theorem d_Mod_read_59 : decode prog_10_method_24_code 59 = .ok (.aload_n 0, 1) := by decide +kernel
theorem d_Mod_read_60 : decode prog_10_method_24_code 60 = .ok (.getfield 118, 3) := by decide +kernel
theorem d_Mod_read_63 : decode prog_10_method_24_code 63 = .ok (.iadd, 1) := by decide +kernel
theorem d_Mod_read_64 : decode prog_10_method_24_code 64 = .ok (.istore 4, 2) := by decide +kernel
theorem d_Mod_read_66 : decode prog_10_method_24_code 66 = .ok (.lconst 0, 1) := by decide +kernel
theorem d_Mod_read_67 : decode prog_10_method_24_code 67 = .ok (.lstore 5, 2) := by decide +kernel
theorem d_Mod_read_69 : decode prog_10_method_24_code 69 = .ok (.aload_n 0, 1) := by decide +kernel
theorem d_Mod_read_70 : decode prog_10_method_24_code 70 = .ok (.getfield 62, 3) := by decide +kernel
theorem d_Mod_read_73 : decode prog_10_method_24_code 73 = .ok (.ifCond .le 94, 3) := by decide +kernel
theorem d_Mod_read_76 : decode prog_10_method_24_code 76 = .ok (.iload 4, 2) := by decide +kernel
theorem d_Mod_read_78 : decode prog_10_method_24_code 78 = .ok (.iload_n 2, 1) := by decide +kernel
theorem d_Mod_read_79 : decode prog_10_method_24_code 79 = .ok (.ifCond .eq 9, 3) := by decide +kernel
theorem d_Mod_read_82 : decode prog_10_method_24_code 82 = .ok (.sipush 1100, 3) := by decide +kernel
theorem d_Mod_read_85 : decode prog_10_method_24_code 85 = .ok (.goto 6, 3) := by decide +kernel
theorem d_Mod_read_88 : decode prog_10_method_24_code 88 = .ok (.sipush 400, 3) := by decide +kernel
theorem d_Mod_read_91 : decode prog_10_method_24_code 91 = .ok (.if_icmp .le 12, 3) := by decide +kernel
theorem d_Mod_read_94 : decode prog_10_method_24_code 94 = .ok (.iload_n 1, 1) := by decide +kernel
theorem d_Mod_read_95 : decode prog_10_method_24_code 95 = .ok (.invokestatic 100, 3) := by decide +kernel
theorem d_Mod_read_98 : decode prog_10_method_24_code 98 = .ok (.lconst 1, 1) := by decide +kernel
theorem d_Mod_read_99 : decode prog_10_method_24_code 99 = .ok (.ladd, 1) := by decide +kernel
theorem d_Mod_read_100 : decode prog_10_method_24_code 100 = .ok (.goto 31, 3) := by decide +kernel
theorem d_Mod_read_103 : decode prog_10_method_24_code 103 = .ok (.iload 4, 2) := by decide +kernel
theorem d_Mod_read_105 : decode prog_10_method_24_code 105 = .ok (.iload_n 2, 1) := by decide +kernel
theorem d_Mod_read_106 : decode prog_10_method_24_code 106 = .ok (.ifCond .eq 9, 3) := by decide +kernel
theorem d_Mod_read_109 : decode prog_10_method_24_code 109 = .ok (.sipush (-1200), 3) := by decide +kernel
theorem d_Mod_read_112 : decode prog_10_method_24_code 112 = .ok (.goto 6, 3) := by decide +kernel
theorem d_Mod_read_115 : decode prog_10_method_24_code 115 = .ok (.sipush (-400), 3) := by decide +kernel
theorem d_Mod_read_118 : decode prog_10_method_24_code 118 = .ok (.if_icmp .ge 7, 3) := by decide +kernel
theorem d_Mod_read_121 : decode prog_10_method_24_code 121 = .ok (.lconst 0, 1) := by decide +kernel
theorem d_Mod_read_122 : decode prog_10_method_24_code 122 = .ok (.goto 9, 3) := by decide +kernel
theorem d_Mod_read_125 : decode prog_10_method_24_code 125 = .ok (.aload_n 0, 1) := by decide +kernel
theorem d_Mod_read_126 : decode prog_10_method_24_code 126 = .ok (.iload_n 2, 1) := by decide +kernel
theorem d_Mod_read_127 : decode prog_10_method_24_code 127 = .ok (.iload_n 1, 1) := by decide +kernel
theorem d_Mod_read_128 : decode prog_10_method_24_code 128 = .ok (.invokevirtual 148, 3) := by decide +kernel
theorem d_Mod_read_131 : decode prog_10_method_24_code 131 = .ok (.lstore 5, 2) := by decide +kernel
theorem d_Mod_read_133 : decode prog_10_method_24_code 133 = .ok (.lload 5, 2) := by decide +kernel
theorem d_Mod_read_135 : decode prog_10_method_24_code 135 = .ok (.lconst 0, 1) := by decide +kernel
theorem d_Mod_read_136 : decode prog_10_method_24_code 136 = .ok (.lcmp, 1) := by decide +kernel
theorem d_Mod_read_137 : decode prog_10_method_24_code 137 = .ok (.ifCond .eq 13, 3) := by decide +kernel
theorem d_Mod_read_140 : decode prog_10_method_24_code 140 = .ok (.lload 5, 2) := by decide +kernel
theorem d_Mod_read_142 : decode prog_10_method_24_code 142 = .ok (.iload_n 1, 1) := by decide +kernel
theorem d_Mod_read_143 : decode prog_10_method_24_code 143 = .ok (.invokestatic 100, 3) := by decide +kernel
theorem d_Mod_read_146 : decode prog_10_method_24_code 146 = .ok (.lcmp, 1) := by decide +kernel
theorem d_Mod_read_147 : decode prog_10_method_24_code 147 = .ok (.ifCond .le 20, 3) := by decide +kernel
theorem d_Mod_read_150 : decode prog_10_method_24_code 150 = .ok (.aload_n 0, 1) := by decide +kernel
theorem d_Mod_read_151 : decode prog_10_method_24_code 151 = .ok (.dup, 1) := by decide +kernel
theorem d_Mod_read_152 : decode prog_10_method_24_code 152 = .ok (.getfield 152, 3) := by decide +kernel
theorem d_Mod_read_155 : decode prog_10_method_24_code 155 = .ok (.iconst 1, 1) := by decide +kernel
theorem d_Mod_read_156 : decode prog_10_method_24_code 156 = .ok (.iadd, 1) := by decide +kernel
theorem d_Mod_read_157 : decode prog_10_method_24_code 157 = .ok (.putfield 152, 3) := by decide +kernel
theorem d_Mod_read_160 : decode prog_10_method_24_code 160 = .ok (.aload_n 0, 1) := by decide +kernel
theorem d_Mod_read_161 : decode prog_10_method_24_code 161 = .ok (.iconst 2, 1) := by decide +kernel
theorem d_Mod_read_162 : decode prog_10_method_24_code 162 = .ok (.invokevirtual 42, 3) := by decide +kernel
theorem d_Mod_read_165 : decode prog_10_method_24_code 165 = .ok (.i2l, 1) := by decide +kernel
theorem d_Mod_read_166 : decode prog_10_method_24_code 166 = .ok (.lreturn, 1) := by decide +kernel
theorem d_Mod_read_167 : decode prog_10_method_24_code 167 = .ok (.aload_n 0, 1) := by decide +kernel
theorem d_Mod_read_168 : decode prog_10_method_24_code 168 = .ok (.iconst 0, 1) := by decide +kernel
theorem d_Mod_read_169 : decode prog_10_method_24_code 169 = .ok (.putfield 34, 3) := by decide +kernel
theorem d_Mod_read_172 : decode prog_10_method_24_code 172 = .ok (.aload_n 0, 1) := by decide +kernel
theorem d_Mod_read_173 : decode prog_10_method_24_code 173 = .ok (.dup, 1) := by decide +kernel
theorem d_Mod_read_174 : decode prog_10_method_24_code 174 = .ok (.getfield 155, 3) := by decide +kernel
theorem d_Mod_read_177 : decode prog_10_method_24_code 177 = .ok (.iconst 1, 1) := by decide +kernel
theorem d_Mod_read_178 : decode prog_10_method_24_code 178 = .ok (.iadd, 1) := by decide +kernel
theorem d_Mod_read_179 : decode prog_10_method_24_code 179 = .ok (.putfield 155, 3) := by decide +kernel
theorem d_Mod_read_182 : decode prog_10_method_24_code 182 = .ok (.lload 5, 2) := by decide +kernel
theorem d_Mod_read_184 : decode prog_10_method_24_code 184 = .ok (.lreturn, 1) := by decide +kernel
def f_Mod_read_167 (fu : Nat) (n_v_text : Nat) (n_v_a : Nat) (n_v_b : Nat) (n_v_left : Nat) (n_v_right : Nat) (x1 : Int32) (v_text_a : Nat → Int32)  (y5 : Int64) (v_length : Int32) (v_thrown : Int32) (v_were : Int32) (v_none : Int32) (v_beyond : Int32) (v_aMany : Int32) (v_bMany : Int32) (v_leftMany : Int32) (v_rightMany : Int32) (v_twos : Int32) (v_at : Int32) (v_digits : Int32) (v_power : Int32) (v_good : Int32) (v_a_a : Nat → Int32) (v_b_a : Nat → Int32) (v_left_a : Nat → Int32) (v_right_a : Nat → Int32) : Option (Int64 × Int32 × Int32 × Int32 × Int32 × Int32 × Int32 × Int32 × Int32 × Int32 × Int32 × Int32 × Int32 × Int32 × Int32 × (Nat → Int32) × (Nat → Int32) × (Nat → Int32) × (Nat → Int32)) :=
  some (y5, v_length, 0, v_were + 1, v_none, v_beyond, v_aMany, v_bMany, v_leftMany, v_rightMany, v_twos, v_at, v_digits, v_power, v_good, v_a_a, v_b_a, v_left_a, v_right_a)
def f_Mod_read_150 (fu : Nat) (n_v_text : Nat) (n_v_a : Nat) (n_v_b : Nat) (n_v_left : Nat) (n_v_right : Nat) (x1 : Int32) (v_text_a : Nat → Int32)  (v_length : Int32) (v_thrown : Int32) (v_were : Int32) (v_none : Int32) (v_beyond : Int32) (v_aMany : Int32) (v_bMany : Int32) (v_leftMany : Int32) (v_rightMany : Int32) (v_twos : Int32) (v_at : Int32) (v_digits : Int32) (v_power : Int32) (v_good : Int32) (v_a_a : Nat → Int32) (v_b_a : Nat → Int32) (v_left_a : Nat → Int32) (v_right_a : Nat → Int32) : Option (Int64 × Int32 × Int32 × Int32 × Int32 × Int32 × Int32 × Int32 × Int32 × Int32 × Int32 × Int32 × Int32 × Int32 × Int32 × (Nat → Int32) × (Nat → Int32) × (Nat → Int32) × (Nat → Int32)) :=
  (f_Mod_fail 2 v_thrown).bind fun u_4 =>
  some (u_4.1.toInt64, v_length, u_4.2, v_were, v_none, v_beyond + 1, v_aMany, v_bMany, v_leftMany, v_rightMany, v_twos, v_at, v_digits, v_power, v_good, v_a_a, v_b_a, v_left_a, v_right_a)
def f_Mod_read_131 (fu : Nat) (n_v_text : Nat) (n_v_a : Nat) (n_v_b : Nat) (n_v_left : Nat) (n_v_right : Nat) (x1 : Int32) (v_text_a : Nat → Int32)  (k0 : Int64) (v_length : Int32) (v_thrown : Int32) (v_were : Int32) (v_none : Int32) (v_beyond : Int32) (v_aMany : Int32) (v_bMany : Int32) (v_leftMany : Int32) (v_rightMany : Int32) (v_twos : Int32) (v_at : Int32) (v_digits : Int32) (v_power : Int32) (v_good : Int32) (v_a_a : Nat → Int32) (v_b_a : Nat → Int32) (v_left_a : Nat → Int32) (v_right_a : Nat → Int32) : Option (Int64 × Int32 × Int32 × Int32 × Int32 × Int32 × Int32 × Int32 × Int32 × Int32 × Int32 × Int32 × Int32 × Int32 × Int32 × (Nat → Int32) × (Nat → Int32) × (Nat → Int32) × (Nat → Int32)) :=
  (if (lg_cmp k0 0) = 0 then
  f_Mod_read_150 fu n_v_text n_v_a n_v_b n_v_left n_v_right x1 v_text_a v_length v_thrown v_were v_none v_beyond v_aMany v_bMany v_leftMany v_rightMany v_twos v_at v_digits v_power v_good v_a_a v_b_a v_left_a v_right_a
  else
  (f_Mod_greatest x1).bind fun u_5 =>
  (if (lg_cmp k0 u_5) ≤ 0 then
  f_Mod_read_167 fu n_v_text n_v_a n_v_b n_v_left n_v_right x1 v_text_a k0 v_length v_thrown v_were v_none v_beyond v_aMany v_bMany v_leftMany v_rightMany v_twos v_at v_digits v_power v_good v_a_a v_b_a v_left_a v_right_a
  else
  f_Mod_read_150 fu n_v_text n_v_a n_v_b n_v_left n_v_right x1 v_text_a v_length v_thrown v_were v_none v_beyond v_aMany v_bMany v_leftMany v_rightMany v_twos v_at v_digits v_power v_good v_a_a v_b_a v_left_a v_right_a))
def f_Mod_read_118 (fu : Nat) (n_v_text : Nat) (n_v_a : Nat) (n_v_b : Nat) (n_v_left : Nat) (n_v_right : Nat) (x1 : Int32) (v_text_a : Nat → Int32)  (y2 : Int32) (k0 : Int32) (k1 : Int32) (v_length : Int32) (v_thrown : Int32) (v_were : Int32) (v_none : Int32) (v_beyond : Int32) (v_aMany : Int32) (v_bMany : Int32) (v_leftMany : Int32) (v_rightMany : Int32) (v_twos : Int32) (v_at : Int32) (v_digits : Int32) (v_power : Int32) (v_good : Int32) (v_a_a : Nat → Int32) (v_b_a : Nat → Int32) (v_left_a : Nat → Int32) (v_right_a : Nat → Int32) : Option (Int64 × Int32 × Int32 × Int32 × Int32 × Int32 × Int32 × Int32 × Int32 × Int32 × Int32 × Int32 × Int32 × Int32 × Int32 × (Nat → Int32) × (Nat → Int32) × (Nat → Int32) × (Nat → Int32)) :=
  (if k1 ≤ k0 then
  (f_Mod_found fu n_v_a n_v_b n_v_left n_v_right y2 x1 v_aMany v_bMany v_leftMany v_rightMany v_twos v_power v_a_a v_b_a v_left_a v_right_a).bind fun u_3 =>
  f_Mod_read_131 fu n_v_text n_v_a n_v_b n_v_left n_v_right x1 v_text_a u_3.1 v_length v_thrown v_were v_none v_beyond u_3.2.1 u_3.2.2.1 u_3.2.2.2.1 u_3.2.2.2.2.1 u_3.2.2.2.2.2.1 v_at v_digits v_power v_good u_3.2.2.2.2.2.2.1 u_3.2.2.2.2.2.2.2.1 u_3.2.2.2.2.2.2.2.2.1 u_3.2.2.2.2.2.2.2.2.2
  else
  f_Mod_read_131 fu n_v_text n_v_a n_v_b n_v_left n_v_right x1 v_text_a 0 v_length v_thrown v_were v_none v_beyond v_aMany v_bMany v_leftMany v_rightMany v_twos v_at v_digits v_power v_good v_a_a v_b_a v_left_a v_right_a)
def f_Mod_read_91 (fu : Nat) (n_v_text : Nat) (n_v_a : Nat) (n_v_b : Nat) (n_v_left : Nat) (n_v_right : Nat) (x1 : Int32) (v_text_a : Nat → Int32)  (y2 : Int32) (y4 : Int32) (k0 : Int32) (k1 : Int32) (v_length : Int32) (v_thrown : Int32) (v_were : Int32) (v_none : Int32) (v_beyond : Int32) (v_aMany : Int32) (v_bMany : Int32) (v_leftMany : Int32) (v_rightMany : Int32) (v_twos : Int32) (v_at : Int32) (v_digits : Int32) (v_power : Int32) (v_good : Int32) (v_a_a : Nat → Int32) (v_b_a : Nat → Int32) (v_left_a : Nat → Int32) (v_right_a : Nat → Int32) : Option (Int64 × Int32 × Int32 × Int32 × Int32 × Int32 × Int32 × Int32 × Int32 × Int32 × Int32 × Int32 × Int32 × Int32 × Int32 × (Nat → Int32) × (Nat → Int32) × (Nat → Int32) × (Nat → Int32)) :=
  (if k0 ≤ k1 then
  (if y2 = 0 then
  f_Mod_read_118 fu n_v_text n_v_a n_v_b n_v_left n_v_right x1 v_text_a y2 y4 (-400) v_length v_thrown v_were v_none v_beyond v_aMany v_bMany v_leftMany v_rightMany v_twos v_at v_digits v_power v_good v_a_a v_b_a v_left_a v_right_a
  else
  f_Mod_read_118 fu n_v_text n_v_a n_v_b n_v_left n_v_right x1 v_text_a y2 y4 (-1200) v_length v_thrown v_were v_none v_beyond v_aMany v_bMany v_leftMany v_rightMany v_twos v_at v_digits v_power v_good v_a_a v_b_a v_left_a v_right_a)
  else
  (f_Mod_greatest x1).bind fun u_6 =>
  f_Mod_read_131 fu n_v_text n_v_a n_v_b n_v_left n_v_right x1 v_text_a (u_6 + 1) v_length v_thrown v_were v_none v_beyond v_aMany v_bMany v_leftMany v_rightMany v_twos v_at v_digits v_power v_good v_a_a v_b_a v_left_a v_right_a)
def f_Mod_read_64 (fu : Nat) (n_v_text : Nat) (n_v_a : Nat) (n_v_b : Nat) (n_v_left : Nat) (n_v_right : Nat) (x1 : Int32) (v_text_a : Nat → Int32)  (y2 : Int32) (k0 : Int32) (v_length : Int32) (v_thrown : Int32) (v_were : Int32) (v_none : Int32) (v_beyond : Int32) (v_aMany : Int32) (v_bMany : Int32) (v_leftMany : Int32) (v_rightMany : Int32) (v_twos : Int32) (v_at : Int32) (v_digits : Int32) (v_power : Int32) (v_good : Int32) (v_a_a : Nat → Int32) (v_b_a : Nat → Int32) (v_left_a : Nat → Int32) (v_right_a : Nat → Int32) : Option (Int64 × Int32 × Int32 × Int32 × Int32 × Int32 × Int32 × Int32 × Int32 × Int32 × Int32 × Int32 × Int32 × Int32 × Int32 × (Nat → Int32) × (Nat → Int32) × (Nat → Int32) × (Nat → Int32)) :=
  (if v_aMany ≤ 0 then
  f_Mod_read_167 fu n_v_text n_v_a n_v_b n_v_left n_v_right x1 v_text_a 0 v_length v_thrown v_were v_none v_beyond v_aMany v_bMany v_leftMany v_rightMany v_twos v_at v_digits v_power v_good v_a_a v_b_a v_left_a v_right_a
  else
  (if y2 = 0 then
  f_Mod_read_91 fu n_v_text n_v_a n_v_b n_v_left n_v_right x1 v_text_a y2 k0 k0 400 v_length v_thrown v_were v_none v_beyond v_aMany v_bMany v_leftMany v_rightMany v_twos v_at v_digits v_power v_good v_a_a v_b_a v_left_a v_right_a
  else
  f_Mod_read_91 fu n_v_text n_v_a n_v_b n_v_left n_v_right x1 v_text_a y2 k0 k0 1100 v_length v_thrown v_were v_none v_beyond v_aMany v_bMany v_leftMany v_rightMany v_twos v_at v_digits v_power v_good v_a_a v_b_a v_left_a v_right_a))
def f_Mod_read (fu : Nat) (n_v_text : Nat) (n_v_a : Nat) (n_v_b : Nat) (n_v_left : Nat) (n_v_right : Nat) (x1 : Int32) (v_length : Int32) (v_thrown : Int32) (v_were : Int32) (v_none : Int32) (v_beyond : Int32) (v_aMany : Int32) (v_bMany : Int32) (v_leftMany : Int32) (v_rightMany : Int32) (v_twos : Int32) (v_at : Int32) (v_digits : Int32) (v_power : Int32) (v_good : Int32) (v_text_a : Nat → Int32) (v_a_a : Nat → Int32) (v_b_a : Nat → Int32) (v_left_a : Nat → Int32) (v_right_a : Nat → Int32) : Option (Int64 × Int32 × Int32 × Int32 × Int32 × Int32 × Int32 × Int32 × Int32 × Int32 × Int32 × Int32 × Int32 × Int32 × Int32 × (Nat → Int32) × (Nat → Int32) × (Nat → Int32) × (Nat → Int32)) :=
  (f_Mod_isBinary n_v_text v_length v_text_a).bind fun u_1 =>
  (f_Mod_literal fu n_v_text n_v_a u_1 v_length v_aMany v_at v_digits v_power v_good v_text_a v_a_a).bind fun u_2 =>
  (if u_2.1 = 0 then
  (f_Mod_fail 1 v_thrown).bind fun u_7 =>
  some (u_7.1.toInt64, 0, u_7.2, v_were, v_none + 1, v_beyond, u_2.2.1, v_bMany, v_leftMany, v_rightMany, v_twos, u_2.2.2.1, u_2.2.2.2.1, u_2.2.2.2.2.1, u_2.2.2.2.2.2.1, u_2.2.2.2.2.2.2, v_b_a, v_left_a, v_right_a)
  else
  (if u_1 = 0 then
  f_Mod_read_64 fu n_v_text n_v_a n_v_b n_v_left n_v_right x1 v_text_a u_1 (u_2.2.2.2.2.1 + u_2.2.2.2.1) 0 v_thrown v_were v_none v_beyond u_2.2.1 v_bMany v_leftMany v_rightMany v_twos u_2.2.2.1 u_2.2.2.2.1 u_2.2.2.2.2.1 u_2.2.2.2.2.2.1 u_2.2.2.2.2.2.2 v_b_a v_left_a v_right_a
  else
  f_Mod_read_64 fu n_v_text n_v_a n_v_b n_v_left n_v_right x1 v_text_a u_1 (u_2.2.2.2.2.1 + (4 * u_2.2.2.2.1)) 0 v_thrown v_were v_none v_beyond u_2.2.1 v_bMany v_leftMany v_rightMany v_twos u_2.2.2.1 u_2.2.2.2.1 u_2.2.2.2.2.1 u_2.2.2.2.2.2.1 u_2.2.2.2.2.2.2 v_b_a v_left_a v_right_a))
set_option maxHeartbeats 4000000 in
set_option maxRecDepth 100000 in
theorem c_Mod_read (l : Launch) (dC : Nat → ClassId) (dI : Nat → Nat → Nat) (cI cC cB cJ : ClassId) (fu : Nat) (sz : Nat) (h_v : Nat) (h_v_text : Nat) (h_v_a : Nat) (h_v_b : Nat) (h_v_left : Nat) (h_v_right : Nat) (h_v_written : Nat) (h_v_five : Nat) (h_v_part : Nat) (n_v_text : Nat) (n_v_a : Nat) (n_v_b : Nat) (n_v_left : Nat) (n_v_right : Nat) (x1 : Int32) (v_length : Int32) (v_laid : Int32) (v_gone : Int32) (v_thrown : Int32) (v_were : Int32) (v_none : Int32) (v_beyond : Int32) (v_aMany : Int32) (v_bMany : Int32) (v_fiveMany : Int32) (v_leftMany : Int32) (v_rightMany : Int32) (v_partMany : Int32) (v_twos : Int32) (v_at : Int32) (v_digits : Int32) (v_power : Int32) (v_good : Int32) (v_text_a : Nat → Int32) (v_a_a : Nat → Int32) (v_b_a : Nat → Int32) (v_left_a : Nat → Int32) (v_right_a : Nat → Int32) (u : Int64 × Int32 × Int32 × Int32 × Int32 × Int32 × Int32 × Int32 × Int32 × Int32 × Int32 × Int32 × Int32 × Int32 × Int32 × (Nat → Int32) × (Nat → Int32) × (Nat → Int32) × (Nat → Int32)) (hf : f_Mod_read fu n_v_text n_v_a n_v_b n_v_left n_v_right x1 v_length v_thrown v_were v_none v_beyond v_aMany v_bMany v_leftMany v_rightMany v_twos v_at v_digits v_power v_good v_text_a v_a_a v_b_a v_left_a v_right_a = some u) : Met l y_Mod_read ws_Mod_read rm_Mod_read (zz_P zz_T (dC, dI) vwCl (zz_tys cI cC cB cJ) [.ref h_v, .int x1] [(h_v, .inr (7, [.ref h_v_text, .ref h_v_written, .int v_length, .int v_laid, .int v_gone, .int v_thrown, .int v_were, .int v_none, .int v_beyond, .ref h_v_a, .ref h_v_b, .ref h_v_five, .ref h_v_left, .ref h_v_right, .ref h_v_part, .int v_aMany, .int v_bMany, .int v_fiveMany, .int v_leftMany, .int v_rightMany, .int v_partMany, .int v_twos, .int v_at, .int v_digits, .int v_power, .int v_good])), (h_v_text, .inl (cI, n_v_text, .inl v_text_a)), (h_v_a, .inl (cI, n_v_a, .inl v_a_a)), (h_v_b, .inl (cI, n_v_b, .inl v_b_a)), (h_v_left, .inl (cI, n_v_left, .inl v_left_a)), (h_v_right, .inl (cI, n_v_right, .inl v_right_a))] sz) (zz_Ql (dC, dI) vwCl u.1 [(h_v, .inr (7, [.ref h_v_text, .ref h_v_written, .int u.2.1, .int v_laid, .int v_gone, .int u.2.2.1, .int u.2.2.2.1, .int u.2.2.2.2.1, .int u.2.2.2.2.2.1, .ref h_v_a, .ref h_v_b, .ref h_v_five, .ref h_v_left, .ref h_v_right, .ref h_v_part, .int u.2.2.2.2.2.2.1, .int u.2.2.2.2.2.2.2.1, .int v_fiveMany, .int u.2.2.2.2.2.2.2.2.1, .int u.2.2.2.2.2.2.2.2.2.1, .int v_partMany, .int u.2.2.2.2.2.2.2.2.2.2.1, .int u.2.2.2.2.2.2.2.2.2.2.2.1, .int u.2.2.2.2.2.2.2.2.2.2.2.2.1, .int u.2.2.2.2.2.2.2.2.2.2.2.2.2.1, .int u.2.2.2.2.2.2.2.2.2.2.2.2.2.2.1])), (h_v_text, .inl (cI, n_v_text, .inl v_text_a)), (h_v_a, .inl (cI, n_v_a, .inl u.2.2.2.2.2.2.2.2.2.2.2.2.2.2.2.1)), (h_v_b, .inl (cI, n_v_b, .inl u.2.2.2.2.2.2.2.2.2.2.2.2.2.2.2.2.1)), (h_v_left, .inl (cI, n_v_left, .inl u.2.2.2.2.2.2.2.2.2.2.2.2.2.2.2.2.2.1)), (h_v_right, .inl (cI, n_v_right, .inl u.2.2.2.2.2.2.2.2.2.2.2.2.2.2.2.2.2.2))] (va_A [(h_v, .inr (7, [.ref h_v_text, .ref h_v_written, .int v_length, .int v_laid, .int v_gone, .int v_thrown, .int v_were, .int v_none, .int v_beyond, .ref h_v_a, .ref h_v_b, .ref h_v_five, .ref h_v_left, .ref h_v_right, .ref h_v_part, .int v_aMany, .int v_bMany, .int v_fiveMany, .int v_leftMany, .int v_rightMany, .int v_partMany, .int v_twos, .int v_at, .int v_digits, .int v_power, .int v_good])), (h_v_text, .inl (cI, n_v_text, .inl v_text_a)), (h_v_a, .inl (cI, n_v_a, .inl v_a_a)), (h_v_b, .inl (cI, n_v_b, .inl v_b_a)), (h_v_left, .inl (cI, n_v_left, .inl v_left_a)), (h_v_right, .inl (cI, n_v_right, .inl v_right_a))] sz)) 0 0 (va_A [(h_v, .inr (7, [.ref h_v_text, .ref h_v_written, .int v_length, .int v_laid, .int v_gone, .int v_thrown, .int v_were, .int v_none, .int v_beyond, .ref h_v_a, .ref h_v_b, .ref h_v_five, .ref h_v_left, .ref h_v_right, .ref h_v_part, .int v_aMany, .int v_bMany, .int v_fiveMany, .int v_leftMany, .int v_rightMany, .int v_partMany, .int v_twos, .int v_at, .int v_digits, .int v_power, .int v_good])), (h_v_text, .inl (cI, n_v_text, .inl v_text_a)), (h_v_a, .inl (cI, n_v_a, .inl v_a_a)), (h_v_b, .inl (cI, n_v_b, .inl v_b_a)), (h_v_left, .inl (cI, n_v_left, .inl v_left_a)), (h_v_right, .inl (cI, n_v_right, .inl v_right_a))] sz) := by
  refine Met.ofW (cc := prog_10_method_24_code) (maxL := 7) (ret := (some .long)) (by decide +kernel) rfl ?_
  intro p e s m args below meth c s₁ B hml hv
  obtain ⟨rfl, hsz, hP, hK, hD0, hX⟩ := hv
  have hx := B.exec
  have hb := B.bytes
  have hr := B.returns
  have hts := atoms_spec (ws := ws_Mod_read) B.pre
  have hw : ∀ w ∈ zw, w.before [.ref h_v, .int x1].toArray s = true := fun w h => hts w (List.mem_cons_of_mem _ h)
  have hown : s.vm.findClass R_Mod = some m.cls := findClass_of_methodNamed B.named
  have hlocks := B.notSynchronized
  subst hsz
  have hD := hD0.self (sz := s.heap.size)
  generalize hAe : va_A [(h_v, .inr (7, [.ref h_v_text, .ref h_v_written, .int v_length, .int v_laid, .int v_gone, .int v_thrown, .int v_were, .int v_none, .int v_beyond, .ref h_v_a, .ref h_v_b, .ref h_v_five, .ref h_v_left, .ref h_v_right, .ref h_v_part, .int v_aMany, .int v_bMany, .int v_fiveMany, .int v_leftMany, .int v_rightMany, .int v_partMany, .int v_twos, .int v_at, .int v_digits, .int v_power, .int v_good])), (h_v_text, .inl (cI, n_v_text, .inl v_text_a)), (h_v_a, .inl (cI, n_v_a, .inl v_a_a)), (h_v_b, .inl (cI, n_v_b, .inl v_b_a)), (h_v_left, .inl (cI, n_v_left, .inl v_left_a)), (h_v_right, .inl (cI, n_v_right, .inl v_right_a))] s.heap.size = A at hD hX ⊢
  have hA : ∀ q : Nat, s.heap.size ≤ q → A q := fun q h => by rw [← hAe]; exact Or.inr h
  have hS : va_S A s.heap s.heap [] := va_S.rf
  have hl := lv_entry [.ref h_v, .int x1] (n := 7) (Nat.le_of_ble_eq_true rfl)
  rw [lg_entry_eq]
  generalize (lg_sl [.ref h_v, .int x1] ++ List.replicate (7 - (lg_sl [.ref h_v, .int x1]).length) Slot.unset).toArray = ls at hl ⊢
  have hl : lv_has ls 7 [(0, .ref h_v), (1, .int x1)] := hl
  refine zz_endl hx hb hr hlocks (fun Qq hend => ?_)
  have hL_167 : ∀ (y5 : Int64) (v_length : Int32) (v_thrown : Int32) (v_were : Int32) (v_none : Int32) (v_beyond : Int32) (v_aMany : Int32) (v_bMany : Int32) (v_leftMany : Int32) (v_rightMany : Int32) (v_twos : Int32) (v_at : Int32) (v_digits : Int32) (v_power : Int32) (v_good : Int32) (v_a_a : Nat → Int32) (v_b_a : Nat → Int32) (v_left_a : Nat → Int32) (v_right_a : Nat → Int32) (ls : Array Slot) (H : Heap) (locs : List Loc), lv_has ls 7 [(0, .ref h_v), (5, .long y5)] → va_P (dC, dI) vwCl [(h_v, .inr (7, [.ref h_v_text, .ref h_v_written, .int v_length, .int v_laid, .int v_gone, .int v_thrown, .int v_were, .int v_none, .int v_beyond, .ref h_v_a, .ref h_v_b, .ref h_v_five, .ref h_v_left, .ref h_v_right, .ref h_v_part, .int v_aMany, .int v_bMany, .int v_fiveMany, .int v_leftMany, .int v_rightMany, .int v_partMany, .int v_twos, .int v_at, .int v_digits, .int v_power, .int v_good])), (h_v_text, .inl (cI, n_v_text, .inl v_text_a)), (h_v_a, .inl (cI, n_v_a, .inl v_a_a)), (h_v_b, .inl (cI, n_v_b, .inl v_b_a)), (h_v_left, .inl (cI, n_v_left, .inl v_left_a)), (h_v_right, .inl (cI, n_v_right, .inl v_right_a))] H → va_D A [(h_v, .inr (7, [.ref h_v_text, .ref h_v_written, .int v_length, .int v_laid, .int v_gone, .int v_thrown, .int v_were, .int v_none, .int v_beyond, .ref h_v_a, .ref h_v_b, .ref h_v_five, .ref h_v_left, .ref h_v_right, .ref h_v_part, .int v_aMany, .int v_bMany, .int v_fiveMany, .int v_leftMany, .int v_rightMany, .int v_partMany, .int v_twos, .int v_at, .int v_digits, .int v_power, .int v_good])), (h_v_text, .inl (cI, n_v_text, .inl v_text_a)), (h_v_a, .inl (cI, n_v_a, .inl v_a_a)), (h_v_b, .inl (cI, n_v_b, .inl v_b_a)), (h_v_left, .inl (cI, n_v_left, .inl v_left_a)), (h_v_right, .inl (cI, n_v_right, .inl v_right_a))] → va_S A s.heap H locs → f_Mod_read_167 fu n_v_text n_v_a n_v_b n_v_left n_v_right x1 v_text_a y5 v_length v_thrown v_were v_none v_beyond v_aMany v_bMany v_leftMany v_rightMany v_twos v_at v_digits v_power v_good v_a_a v_b_a v_left_a v_right_a = some u → W p l e (headSpec ws_Mod_read rm_Mod_read).room s m [.ref h_v, .int x1].toArray below meth c H locs 0 0 Qq (F0 m 167 ls []) := by
    intro y5 v_length v_thrown v_were v_none v_beyond v_aMany v_bMany v_leftMany v_rightMany v_twos v_at v_digits v_power v_good v_a_a v_b_a v_left_a v_right_a ls H locs hl hP hD hS hf
    unfold f_Mod_read_167 at hf
    refine lv_aload_n hx hb d_Mod_read_167 rfl (lv_at hl 0 rfl) ?_
    refine lv_iconst (v := 0) hx hb d_Mod_read_168 (by decide) ?_
    refine va_put (D := (dC, dI)) (ci := 7) (v := .int 0) (ty := .int) (C := R_Mod) (T := T_Mod) (N := 26) hx hb hw in_Mod ty_Mod tyok_Mod nm_Mod hown hK hP hD hS 0 rfl rfl 5 (by decide) (hw _ wd_679) (fun _ h9 => h9) rfl (tyok_Mod 5 (by decide)) rfl rfl (Nat.le_of_ble_eq_true rfl) d_Mod_read_169 (fun H locs hP hD hS => ?_)
    have hP : va_P (dC, dI) vwCl [(h_v, .inr (7, [.ref h_v_text, .ref h_v_written, .int v_length, .int v_laid, .int v_gone, .int 0, .int v_were, .int v_none, .int v_beyond, .ref h_v_a, .ref h_v_b, .ref h_v_five, .ref h_v_left, .ref h_v_right, .ref h_v_part, .int v_aMany, .int v_bMany, .int v_fiveMany, .int v_leftMany, .int v_rightMany, .int v_partMany, .int v_twos, .int v_at, .int v_digits, .int v_power, .int v_good])), (h_v_text, .inl (cI, n_v_text, .inl v_text_a)), (h_v_a, .inl (cI, n_v_a, .inl v_a_a)), (h_v_b, .inl (cI, n_v_b, .inl v_b_a)), (h_v_left, .inl (cI, n_v_left, .inl v_left_a)), (h_v_right, .inl (cI, n_v_right, .inl v_right_a))] H := hP
    have hD : va_D A [(h_v, .inr (7, [.ref h_v_text, .ref h_v_written, .int v_length, .int v_laid, .int v_gone, .int 0, .int v_were, .int v_none, .int v_beyond, .ref h_v_a, .ref h_v_b, .ref h_v_five, .ref h_v_left, .ref h_v_right, .ref h_v_part, .int v_aMany, .int v_bMany, .int v_fiveMany, .int v_leftMany, .int v_rightMany, .int v_partMany, .int v_twos, .int v_at, .int v_digits, .int v_power, .int v_good])), (h_v_text, .inl (cI, n_v_text, .inl v_text_a)), (h_v_a, .inl (cI, n_v_a, .inl v_a_a)), (h_v_b, .inl (cI, n_v_b, .inl v_b_a)), (h_v_left, .inl (cI, n_v_left, .inl v_left_a)), (h_v_right, .inl (cI, n_v_right, .inl v_right_a))] := hD
    refine lv_aload_n hx hb d_Mod_read_172 rfl (lv_at hl 0 rfl) ?_
    refine lv_dup hx hb d_Mod_read_173 rfl ?_
    refine va_get (D := (dC, dI)) (ci := 7) (v := .int v_were) (C := R_Mod) (T := T_Mod) (N := 26) hx hb hw in_Mod hown hK hP 0 rfl rfl 6 (by decide) (hw _ wd_680) (fun _ h9 => h9) rfl d_Mod_read_174 ?_
    refine lv_iconst (v := 1) hx hb d_Mod_read_177 (by decide) ?_
    refine lv_iadd hx hb d_Mod_read_178 ?_
    refine va_put (D := (dC, dI)) (ci := 7) (v := .int (v_were + 1)) (ty := .int) (C := R_Mod) (T := T_Mod) (N := 26) hx hb hw in_Mod ty_Mod tyok_Mod nm_Mod hown hK hP hD hS 0 rfl rfl 6 (by decide) (hw _ wd_680) (fun _ h9 => h9) rfl (tyok_Mod 6 (by decide)) rfl rfl (Nat.le_of_ble_eq_true rfl) d_Mod_read_179 (fun H locs hP hD hS => ?_)
    have hP : va_P (dC, dI) vwCl [(h_v, .inr (7, [.ref h_v_text, .ref h_v_written, .int v_length, .int v_laid, .int v_gone, .int 0, .int (v_were + 1), .int v_none, .int v_beyond, .ref h_v_a, .ref h_v_b, .ref h_v_five, .ref h_v_left, .ref h_v_right, .ref h_v_part, .int v_aMany, .int v_bMany, .int v_fiveMany, .int v_leftMany, .int v_rightMany, .int v_partMany, .int v_twos, .int v_at, .int v_digits, .int v_power, .int v_good])), (h_v_text, .inl (cI, n_v_text, .inl v_text_a)), (h_v_a, .inl (cI, n_v_a, .inl v_a_a)), (h_v_b, .inl (cI, n_v_b, .inl v_b_a)), (h_v_left, .inl (cI, n_v_left, .inl v_left_a)), (h_v_right, .inl (cI, n_v_right, .inl v_right_a))] H := hP
    have hD : va_D A [(h_v, .inr (7, [.ref h_v_text, .ref h_v_written, .int v_length, .int v_laid, .int v_gone, .int 0, .int (v_were + 1), .int v_none, .int v_beyond, .ref h_v_a, .ref h_v_b, .ref h_v_five, .ref h_v_left, .ref h_v_right, .ref h_v_part, .int v_aMany, .int v_bMany, .int v_fiveMany, .int v_leftMany, .int v_rightMany, .int v_partMany, .int v_twos, .int v_at, .int v_digits, .int v_power, .int v_good])), (h_v_text, .inl (cI, n_v_text, .inl v_text_a)), (h_v_a, .inl (cI, n_v_a, .inl v_a_a)), (h_v_b, .inl (cI, n_v_b, .inl v_b_a)), (h_v_left, .inl (cI, n_v_left, .inl v_left_a)), (h_v_right, .inl (cI, n_v_right, .inl v_right_a))] := hD
    refine lv_lload hx hb d_Mod_read_182 (lv_at hl 1 rfl) ?_
    cases hf
    exact hend 184 ls _ _ d_Mod_read_184 hP hD hS
  have hL_150 : ∀ (v_length : Int32) (v_thrown : Int32) (v_were : Int32) (v_none : Int32) (v_beyond : Int32) (v_aMany : Int32) (v_bMany : Int32) (v_leftMany : Int32) (v_rightMany : Int32) (v_twos : Int32) (v_at : Int32) (v_digits : Int32) (v_power : Int32) (v_good : Int32) (v_a_a : Nat → Int32) (v_b_a : Nat → Int32) (v_left_a : Nat → Int32) (v_right_a : Nat → Int32) (ls : Array Slot) (H : Heap) (locs : List Loc), lv_has ls 7 [(0, .ref h_v)] → va_P (dC, dI) vwCl [(h_v, .inr (7, [.ref h_v_text, .ref h_v_written, .int v_length, .int v_laid, .int v_gone, .int v_thrown, .int v_were, .int v_none, .int v_beyond, .ref h_v_a, .ref h_v_b, .ref h_v_five, .ref h_v_left, .ref h_v_right, .ref h_v_part, .int v_aMany, .int v_bMany, .int v_fiveMany, .int v_leftMany, .int v_rightMany, .int v_partMany, .int v_twos, .int v_at, .int v_digits, .int v_power, .int v_good])), (h_v_text, .inl (cI, n_v_text, .inl v_text_a)), (h_v_a, .inl (cI, n_v_a, .inl v_a_a)), (h_v_b, .inl (cI, n_v_b, .inl v_b_a)), (h_v_left, .inl (cI, n_v_left, .inl v_left_a)), (h_v_right, .inl (cI, n_v_right, .inl v_right_a))] H → va_D A [(h_v, .inr (7, [.ref h_v_text, .ref h_v_written, .int v_length, .int v_laid, .int v_gone, .int v_thrown, .int v_were, .int v_none, .int v_beyond, .ref h_v_a, .ref h_v_b, .ref h_v_five, .ref h_v_left, .ref h_v_right, .ref h_v_part, .int v_aMany, .int v_bMany, .int v_fiveMany, .int v_leftMany, .int v_rightMany, .int v_partMany, .int v_twos, .int v_at, .int v_digits, .int v_power, .int v_good])), (h_v_text, .inl (cI, n_v_text, .inl v_text_a)), (h_v_a, .inl (cI, n_v_a, .inl v_a_a)), (h_v_b, .inl (cI, n_v_b, .inl v_b_a)), (h_v_left, .inl (cI, n_v_left, .inl v_left_a)), (h_v_right, .inl (cI, n_v_right, .inl v_right_a))] → va_S A s.heap H locs → f_Mod_read_150 fu n_v_text n_v_a n_v_b n_v_left n_v_right x1 v_text_a v_length v_thrown v_were v_none v_beyond v_aMany v_bMany v_leftMany v_rightMany v_twos v_at v_digits v_power v_good v_a_a v_b_a v_left_a v_right_a = some u → W p l e (headSpec ws_Mod_read rm_Mod_read).room s m [.ref h_v, .int x1].toArray below meth c H locs 0 0 Qq (F0 m 150 ls []) := by
    intro v_length v_thrown v_were v_none v_beyond v_aMany v_bMany v_leftMany v_rightMany v_twos v_at v_digits v_power v_good v_a_a v_b_a v_left_a v_right_a ls H locs hl hP hD hS hf
    unfold f_Mod_read_150 at hf
    refine lv_aload_n hx hb d_Mod_read_150 rfl (lv_at hl 0 rfl) ?_
    refine lv_dup hx hb d_Mod_read_151 rfl ?_
    refine va_get (D := (dC, dI)) (ci := 7) (v := .int v_beyond) (C := R_Mod) (T := T_Mod) (N := 26) hx hb hw in_Mod hown hK hP 0 rfl rfl 8 (by decide) (hw _ wd_682) (fun _ h9 => h9) rfl d_Mod_read_152 ?_
    refine lv_iconst (v := 1) hx hb d_Mod_read_155 (by decide) ?_
    refine lv_iadd hx hb d_Mod_read_156 ?_
    refine va_put (D := (dC, dI)) (ci := 7) (v := .int (v_beyond + 1)) (ty := .int) (C := R_Mod) (T := T_Mod) (N := 26) hx hb hw in_Mod ty_Mod tyok_Mod nm_Mod hown hK hP hD hS 0 rfl rfl 8 (by decide) (hw _ wd_682) (fun _ h9 => h9) rfl (tyok_Mod 8 (by decide)) rfl rfl (Nat.le_of_ble_eq_true rfl) d_Mod_read_157 (fun H locs hP hD hS => ?_)
    have hP : va_P (dC, dI) vwCl [(h_v, .inr (7, [.ref h_v_text, .ref h_v_written, .int v_length, .int v_laid, .int v_gone, .int v_thrown, .int v_were, .int v_none, .int (v_beyond + 1), .ref h_v_a, .ref h_v_b, .ref h_v_five, .ref h_v_left, .ref h_v_right, .ref h_v_part, .int v_aMany, .int v_bMany, .int v_fiveMany, .int v_leftMany, .int v_rightMany, .int v_partMany, .int v_twos, .int v_at, .int v_digits, .int v_power, .int v_good])), (h_v_text, .inl (cI, n_v_text, .inl v_text_a)), (h_v_a, .inl (cI, n_v_a, .inl v_a_a)), (h_v_b, .inl (cI, n_v_b, .inl v_b_a)), (h_v_left, .inl (cI, n_v_left, .inl v_left_a)), (h_v_right, .inl (cI, n_v_right, .inl v_right_a))] H := hP
    have hD : va_D A [(h_v, .inr (7, [.ref h_v_text, .ref h_v_written, .int v_length, .int v_laid, .int v_gone, .int v_thrown, .int v_were, .int v_none, .int (v_beyond + 1), .ref h_v_a, .ref h_v_b, .ref h_v_five, .ref h_v_left, .ref h_v_right, .ref h_v_part, .int v_aMany, .int v_bMany, .int v_fiveMany, .int v_leftMany, .int v_rightMany, .int v_partMany, .int v_twos, .int v_at, .int v_digits, .int v_power, .int v_good])), (h_v_text, .inl (cI, n_v_text, .inl v_text_a)), (h_v_a, .inl (cI, n_v_a, .inl v_a_a)), (h_v_b, .inl (cI, n_v_b, .inl v_b_a)), (h_v_left, .inl (cI, n_v_left, .inl v_left_a)), (h_v_right, .inl (cI, n_v_right, .inl v_right_a))] := hD
    refine lv_aload_n hx hb d_Mod_read_160 rfl (lv_at hl 0 rfl) ?_
    refine lv_iconst (v := 2) hx hb d_Mod_read_161 (by decide) ?_
    obtain ⟨u_4, hu_4, hf⟩ := zz_bd hf
    refine zz_ci (ws' := [(h_v, .inr (7, [.ref h_v_text, .ref h_v_written, .int v_length, .int v_laid, .int v_gone, .int u_4.2, .int v_were, .int v_none, .int (v_beyond + 1), .ref h_v_a, .ref h_v_b, .ref h_v_five, .ref h_v_left, .ref h_v_right, .ref h_v_part, .int v_aMany, .int v_bMany, .int v_fiveMany, .int v_leftMany, .int v_rightMany, .int v_partMany, .int v_twos, .int v_at, .int v_digits, .int v_power, .int v_good])), (h_v_text, .inl (cI, n_v_text, .inl v_text_a)), (h_v_a, .inl (cI, n_v_a, .inl v_a_a)), (h_v_b, .inl (cI, n_v_b, .inl v_b_a)), (h_v_left, .inl (cI, n_v_left, .inl v_left_a)), (h_v_right, .inl (cI, n_v_right, .inl v_right_a))]) (wc := [(h_v, .inr (7, [.ref h_v_text, .ref h_v_written, .int v_length, .int v_laid, .int v_gone, .int v_thrown, .int v_were, .int v_none, .int (v_beyond + 1), .ref h_v_a, .ref h_v_b, .ref h_v_five, .ref h_v_left, .ref h_v_right, .ref h_v_part, .int v_aMany, .int v_bMany, .int v_fiveMany, .int v_leftMany, .int v_rightMany, .int v_partMany, .int v_twos, .int v_at, .int v_digits, .int v_power, .int v_good]))]) (w' := [(h_v, .inr (7, [.ref h_v_text, .ref h_v_written, .int v_length, .int v_laid, .int v_gone, .int u_4.2, .int v_were, .int v_none, .int (v_beyond + 1), .ref h_v_a, .ref h_v_b, .ref h_v_five, .ref h_v_left, .ref h_v_right, .ref h_v_part, .int v_aMany, .int v_bMany, .int v_fiveMany, .int v_leftMany, .int v_rightMany, .int v_partMany, .int v_twos, .int v_at, .int v_digits, .int v_power, .int v_good]))]) hP hD hS hA [0] [1, 2, 3, 4, 5] [5, 0, 1, 2, 3, 4] rfl rfl (by decide) (by decide) rfl (by decide) (va_runV (As := [.int 2]) (rest := []) ⟨hx, hb, hml, hown, hw⟩ (c_Mod_fail l dC dI cI cC cB cJ _ h_v h_v_text h_v_written h_v_a h_v_b h_v_five h_v_left h_v_right h_v_part 2 v_length v_laid v_gone v_thrown v_were v_none (v_beyond + 1) v_aMany v_bMany v_fiveMany v_leftMany v_rightMany v_partMany v_twos v_at v_digits v_power v_good u_4 hu_4) (cwV 1 hw (zg_V wd_763 wd_765 we_1_9 wd_8 wd_766) rfl rfl rfl hd_Mod_fail ⟨Nat.le_of_ble_eq_true rfl, Nat.le_of_ble_eq_true rfl⟩) (zz_preV zz_TE (va_recv (q0 := 0) (ci := 7) hK hP rfl rfl) hP hD hK hS hA trivial [0] rfl (by decide)) rfl rfl hl.1 rfl (lv_room (Nat.le_of_ble_eq_true rfl)) d_Mod_read_162 ⟨Nat.zero_le _, Nat.zero_le _⟩) (fun H locs hP hD hS => ?_)
    refine lv_i2l hx hb d_Mod_read_165 rfl ?_
    cases hf
    exact hend 166 ls _ _ d_Mod_read_166 hP hD hS
  have hL_131 : ∀ (k0 : Int64) (v_length : Int32) (v_thrown : Int32) (v_were : Int32) (v_none : Int32) (v_beyond : Int32) (v_aMany : Int32) (v_bMany : Int32) (v_leftMany : Int32) (v_rightMany : Int32) (v_twos : Int32) (v_at : Int32) (v_digits : Int32) (v_power : Int32) (v_good : Int32) (v_a_a : Nat → Int32) (v_b_a : Nat → Int32) (v_left_a : Nat → Int32) (v_right_a : Nat → Int32) (ls : Array Slot) (H : Heap) (locs : List Loc), lv_has ls 7 [(0, .ref h_v), (1, .int x1)] → va_P (dC, dI) vwCl [(h_v, .inr (7, [.ref h_v_text, .ref h_v_written, .int v_length, .int v_laid, .int v_gone, .int v_thrown, .int v_were, .int v_none, .int v_beyond, .ref h_v_a, .ref h_v_b, .ref h_v_five, .ref h_v_left, .ref h_v_right, .ref h_v_part, .int v_aMany, .int v_bMany, .int v_fiveMany, .int v_leftMany, .int v_rightMany, .int v_partMany, .int v_twos, .int v_at, .int v_digits, .int v_power, .int v_good])), (h_v_text, .inl (cI, n_v_text, .inl v_text_a)), (h_v_a, .inl (cI, n_v_a, .inl v_a_a)), (h_v_b, .inl (cI, n_v_b, .inl v_b_a)), (h_v_left, .inl (cI, n_v_left, .inl v_left_a)), (h_v_right, .inl (cI, n_v_right, .inl v_right_a))] H → va_D A [(h_v, .inr (7, [.ref h_v_text, .ref h_v_written, .int v_length, .int v_laid, .int v_gone, .int v_thrown, .int v_were, .int v_none, .int v_beyond, .ref h_v_a, .ref h_v_b, .ref h_v_five, .ref h_v_left, .ref h_v_right, .ref h_v_part, .int v_aMany, .int v_bMany, .int v_fiveMany, .int v_leftMany, .int v_rightMany, .int v_partMany, .int v_twos, .int v_at, .int v_digits, .int v_power, .int v_good])), (h_v_text, .inl (cI, n_v_text, .inl v_text_a)), (h_v_a, .inl (cI, n_v_a, .inl v_a_a)), (h_v_b, .inl (cI, n_v_b, .inl v_b_a)), (h_v_left, .inl (cI, n_v_left, .inl v_left_a)), (h_v_right, .inl (cI, n_v_right, .inl v_right_a))] → va_S A s.heap H locs → f_Mod_read_131 fu n_v_text n_v_a n_v_b n_v_left n_v_right x1 v_text_a k0 v_length v_thrown v_were v_none v_beyond v_aMany v_bMany v_leftMany v_rightMany v_twos v_at v_digits v_power v_good v_a_a v_b_a v_left_a v_right_a = some u → W p l e (headSpec ws_Mod_read rm_Mod_read).room s m [.ref h_v, .int x1].toArray below meth c H locs 0 0 Qq (F0 m 131 ls [.long k0]) := by
    intro k0 v_length v_thrown v_were v_none v_beyond v_aMany v_bMany v_leftMany v_rightMany v_twos v_at v_digits v_power v_good v_a_a v_b_a v_left_a v_right_a ls H locs hl hP hD hS hf
    unfold f_Mod_read_131 at hf
    refine lv_lstore hx hb d_Mod_read_131 hl (by decide) rfl (fun ls hl => ?_)
    have hl : lv_has ls 7 [(5, .long k0), (0, .ref h_v), (1, .int x1)] := hl
    refine lv_lload hx hb d_Mod_read_133 (lv_at hl 0 rfl) ?_
    refine lv_lconst (v := 0) hx hb d_Mod_read_135 (by decide) ?_
    refine W.lcmp hx hb d_Mod_read_136 ?_
    refine lv_if_eq (tgt := 150) hx hb d_Mod_read_137 (by decide) (fun hc => ?_) (fun hc => ?_)
    · have hf := zz_ifp hc hf
      exact hL_150 v_length v_thrown v_were v_none v_beyond v_aMany v_bMany v_leftMany v_rightMany v_twos v_at v_digits v_power v_good v_a_a v_b_a v_left_a v_right_a ls _ _ (lv_sub hl [1] rfl) hP hD hS hf
    · have hf := zz_ifn hc hf
      refine lv_lload hx hb d_Mod_read_140 (lv_at hl 0 rfl) ?_
      refine lv_iload_n hx hb d_Mod_read_142 rfl (lv_at hl 2 rfl) ?_
      obtain ⟨u_5, hu_5, hf⟩ := zz_bd hf
      refine zz_cl (ws' := [(h_v, .inr (7, [.ref h_v_text, .ref h_v_written, .int v_length, .int v_laid, .int v_gone, .int v_thrown, .int v_were, .int v_none, .int v_beyond, .ref h_v_a, .ref h_v_b, .ref h_v_five, .ref h_v_left, .ref h_v_right, .ref h_v_part, .int v_aMany, .int v_bMany, .int v_fiveMany, .int v_leftMany, .int v_rightMany, .int v_partMany, .int v_twos, .int v_at, .int v_digits, .int v_power, .int v_good])), (h_v_text, .inl (cI, n_v_text, .inl v_text_a)), (h_v_a, .inl (cI, n_v_a, .inl v_a_a)), (h_v_b, .inl (cI, n_v_b, .inl v_b_a)), (h_v_left, .inl (cI, n_v_left, .inl v_left_a)), (h_v_right, .inl (cI, n_v_right, .inl v_right_a))]) (wc := []) (w' := []) hP hD hS hA [] [0, 1, 2, 3, 4, 5] [0, 1, 2, 3, 4, 5] rfl rfl (by decide) (by decide) rfl (by decide) (va_runS (As := [.int x1]) (rest := [.long k0]) ⟨hx, hb, hml, hown, hw⟩ (c_Mod_greatest l dC dI cI cC cB cJ _ x1 u_5 hu_5) (va_cwS 1 hw (zg_S wd_803 wd_804 wd_8 wd_805) rfl rfl rfl hd_Mod_greatest ⟨Nat.le_of_ble_eq_true rfl, Nat.le_of_ble_eq_true rfl⟩) (zz_preS zz_TE hP hD hK hS hA trivial [] rfl (by decide)) rfl rfl hl.1 rfl (lv_room (Nat.le_of_ble_eq_true rfl)) d_Mod_read_143 ⟨Nat.zero_le _, Nat.zero_le _⟩) (fun H locs hP hD hS => ?_)
      refine W.lcmp hx hb d_Mod_read_146 ?_
      refine lv_if_le (tgt := 167) hx hb d_Mod_read_147 (by decide) (fun hc => ?_) (fun hc => ?_)
      · have hf := zz_ifp hc hf
        exact hL_167 k0 v_length v_thrown v_were v_none v_beyond v_aMany v_bMany v_leftMany v_rightMany v_twos v_at v_digits v_power v_good v_a_a v_b_a v_left_a v_right_a ls _ _ (lv_sub hl [1, 0] rfl) hP hD hS hf
      · have hf := zz_ifn hc hf
        exact hL_150 v_length v_thrown v_were v_none v_beyond v_aMany v_bMany v_leftMany v_rightMany v_twos v_at v_digits v_power v_good v_a_a v_b_a v_left_a v_right_a ls _ _ (lv_sub hl [1] rfl) hP hD hS hf
  have hL_118 : ∀ (y2 : Int32) (k0 : Int32) (k1 : Int32) (v_length : Int32) (v_thrown : Int32) (v_were : Int32) (v_none : Int32) (v_beyond : Int32) (v_aMany : Int32) (v_bMany : Int32) (v_leftMany : Int32) (v_rightMany : Int32) (v_twos : Int32) (v_at : Int32) (v_digits : Int32) (v_power : Int32) (v_good : Int32) (v_a_a : Nat → Int32) (v_b_a : Nat → Int32) (v_left_a : Nat → Int32) (v_right_a : Nat → Int32) (ls : Array Slot) (H : Heap) (locs : List Loc), lv_has ls 7 [(0, .ref h_v), (1, .int x1), (2, .int y2)] → va_P (dC, dI) vwCl [(h_v, .inr (7, [.ref h_v_text, .ref h_v_written, .int v_length, .int v_laid, .int v_gone, .int v_thrown, .int v_were, .int v_none, .int v_beyond, .ref h_v_a, .ref h_v_b, .ref h_v_five, .ref h_v_left, .ref h_v_right, .ref h_v_part, .int v_aMany, .int v_bMany, .int v_fiveMany, .int v_leftMany, .int v_rightMany, .int v_partMany, .int v_twos, .int v_at, .int v_digits, .int v_power, .int v_good])), (h_v_text, .inl (cI, n_v_text, .inl v_text_a)), (h_v_a, .inl (cI, n_v_a, .inl v_a_a)), (h_v_b, .inl (cI, n_v_b, .inl v_b_a)), (h_v_left, .inl (cI, n_v_left, .inl v_left_a)), (h_v_right, .inl (cI, n_v_right, .inl v_right_a))] H → va_D A [(h_v, .inr (7, [.ref h_v_text, .ref h_v_written, .int v_length, .int v_laid, .int v_gone, .int v_thrown, .int v_were, .int v_none, .int v_beyond, .ref h_v_a, .ref h_v_b, .ref h_v_five, .ref h_v_left, .ref h_v_right, .ref h_v_part, .int v_aMany, .int v_bMany, .int v_fiveMany, .int v_leftMany, .int v_rightMany, .int v_partMany, .int v_twos, .int v_at, .int v_digits, .int v_power, .int v_good])), (h_v_text, .inl (cI, n_v_text, .inl v_text_a)), (h_v_a, .inl (cI, n_v_a, .inl v_a_a)), (h_v_b, .inl (cI, n_v_b, .inl v_b_a)), (h_v_left, .inl (cI, n_v_left, .inl v_left_a)), (h_v_right, .inl (cI, n_v_right, .inl v_right_a))] → va_S A s.heap H locs → f_Mod_read_118 fu n_v_text n_v_a n_v_b n_v_left n_v_right x1 v_text_a y2 k0 k1 v_length v_thrown v_were v_none v_beyond v_aMany v_bMany v_leftMany v_rightMany v_twos v_at v_digits v_power v_good v_a_a v_b_a v_left_a v_right_a = some u → W p l e (headSpec ws_Mod_read rm_Mod_read).room s m [.ref h_v, .int x1].toArray below meth c H locs 0 0 Qq (F0 m 118 ls [.int k1, .int k0]) := by
    intro y2 k0 k1 v_length v_thrown v_were v_none v_beyond v_aMany v_bMany v_leftMany v_rightMany v_twos v_at v_digits v_power v_good v_a_a v_b_a v_left_a v_right_a ls H locs hl hP hD hS hf
    unfold f_Mod_read_118 at hf
    refine lv_icmp_ge (tgt := 125) hx hb d_Mod_read_118 (by decide) (fun hc => ?_) (fun hc => ?_)
    · have hf := zz_ifp hc hf
      refine lv_aload_n hx hb d_Mod_read_125 rfl (lv_at hl 0 rfl) ?_
      refine lv_iload_n hx hb d_Mod_read_126 rfl (lv_at hl 2 rfl) ?_
      refine lv_iload_n hx hb d_Mod_read_127 rfl (lv_at hl 1 rfl) ?_
      obtain ⟨u_3, hu_3, hf⟩ := zz_bd hf
      refine zz_cl (ws' := [(h_v, .inr (7, [.ref h_v_text, .ref h_v_written, .int v_length, .int v_laid, .int v_gone, .int v_thrown, .int v_were, .int v_none, .int v_beyond, .ref h_v_a, .ref h_v_b, .ref h_v_five, .ref h_v_left, .ref h_v_right, .ref h_v_part, .int u_3.2.1, .int u_3.2.2.1, .int v_fiveMany, .int u_3.2.2.2.1, .int u_3.2.2.2.2.1, .int v_partMany, .int u_3.2.2.2.2.2.1, .int v_at, .int v_digits, .int v_power, .int v_good])), (h_v_text, .inl (cI, n_v_text, .inl v_text_a)), (h_v_a, .inl (cI, n_v_a, .inl u_3.2.2.2.2.2.2.1)), (h_v_b, .inl (cI, n_v_b, .inl u_3.2.2.2.2.2.2.2.1)), (h_v_left, .inl (cI, n_v_left, .inl u_3.2.2.2.2.2.2.2.2.1)), (h_v_right, .inl (cI, n_v_right, .inl u_3.2.2.2.2.2.2.2.2.2))]) (wc := [(h_v, .inr (7, [.ref h_v_text, .ref h_v_written, .int v_length, .int v_laid, .int v_gone, .int v_thrown, .int v_were, .int v_none, .int v_beyond, .ref h_v_a, .ref h_v_b, .ref h_v_five, .ref h_v_left, .ref h_v_right, .ref h_v_part, .int v_aMany, .int v_bMany, .int v_fiveMany, .int v_leftMany, .int v_rightMany, .int v_partMany, .int v_twos, .int v_at, .int v_digits, .int v_power, .int v_good])), (h_v_a, .inl (cI, n_v_a, .inl v_a_a)), (h_v_b, .inl (cI, n_v_b, .inl v_b_a)), (h_v_left, .inl (cI, n_v_left, .inl v_left_a)), (h_v_right, .inl (cI, n_v_right, .inl v_right_a))]) (w' := [(h_v, .inr (7, [.ref h_v_text, .ref h_v_written, .int v_length, .int v_laid, .int v_gone, .int v_thrown, .int v_were, .int v_none, .int v_beyond, .ref h_v_a, .ref h_v_b, .ref h_v_five, .ref h_v_left, .ref h_v_right, .ref h_v_part, .int u_3.2.1, .int u_3.2.2.1, .int v_fiveMany, .int u_3.2.2.2.1, .int u_3.2.2.2.2.1, .int v_partMany, .int u_3.2.2.2.2.2.1, .int v_at, .int v_digits, .int v_power, .int v_good])), (h_v_a, .inl (cI, n_v_a, .inl u_3.2.2.2.2.2.2.1)), (h_v_b, .inl (cI, n_v_b, .inl u_3.2.2.2.2.2.2.2.1)), (h_v_left, .inl (cI, n_v_left, .inl u_3.2.2.2.2.2.2.2.2.1)), (h_v_right, .inl (cI, n_v_right, .inl u_3.2.2.2.2.2.2.2.2.2))]) hP hD hS hA [0, 2, 3, 4, 5] [1] [1, 0, 2, 3, 4, 5] rfl rfl (by decide) (by decide) rfl (by decide) (va_runV (As := [.int y2, .int x1]) (rest := []) ⟨hx, hb, hml, hown, hw⟩ (c_Mod_found l dC dI cI cC cB cJ fu _ h_v h_v_a h_v_b h_v_left h_v_right h_v_text h_v_written h_v_five h_v_part n_v_a n_v_b n_v_left n_v_right y2 x1 v_length v_laid v_gone v_thrown v_were v_none v_beyond v_aMany v_bMany v_fiveMany v_leftMany v_rightMany v_partMany v_twos v_at v_digits v_power v_good v_a_a v_b_a v_left_a v_right_a u_3 hu_3) (cwV 2 hw (zg_V wd_808 wd_810 we_1_15 wd_8 wd_811) rfl rfl rfl hd_Mod_found ⟨Nat.le_of_ble_eq_true rfl, Nat.le_of_ble_eq_true rfl⟩) (zz_preV zz_TE (va_recv (q0 := 0) (ci := 7) hK hP rfl rfl) hP hD hK hS hA trivial [0, 2, 3, 4, 5] rfl (by decide)) rfl rfl hl.1 rfl (lv_room (Nat.le_of_ble_eq_true rfl)) d_Mod_read_128 ⟨Nat.zero_le _, Nat.zero_le _⟩) (fun H locs hP hD hS => ?_)
      exact hL_131 u_3.1 v_length v_thrown v_were v_none v_beyond u_3.2.1 u_3.2.2.1 u_3.2.2.2.1 u_3.2.2.2.2.1 u_3.2.2.2.2.2.1 v_at v_digits v_power v_good u_3.2.2.2.2.2.2.1 u_3.2.2.2.2.2.2.2.1 u_3.2.2.2.2.2.2.2.2.1 u_3.2.2.2.2.2.2.2.2.2 ls _ _ (lv_sub hl [0, 1] rfl) hP hD hS hf
    · have hf := zz_ifn hc hf
      refine lv_lconst (v := 0) hx hb d_Mod_read_121 (by decide) ?_
      refine lv_goto (tgt := 131) hx hb d_Mod_read_122 (by decide) ?_
      exact hL_131 0 v_length v_thrown v_were v_none v_beyond v_aMany v_bMany v_leftMany v_rightMany v_twos v_at v_digits v_power v_good v_a_a v_b_a v_left_a v_right_a ls _ _ (lv_sub hl [0, 1] rfl) hP hD hS hf
  have hL_91 : ∀ (y2 : Int32) (y4 : Int32) (k0 : Int32) (k1 : Int32) (v_length : Int32) (v_thrown : Int32) (v_were : Int32) (v_none : Int32) (v_beyond : Int32) (v_aMany : Int32) (v_bMany : Int32) (v_leftMany : Int32) (v_rightMany : Int32) (v_twos : Int32) (v_at : Int32) (v_digits : Int32) (v_power : Int32) (v_good : Int32) (v_a_a : Nat → Int32) (v_b_a : Nat → Int32) (v_left_a : Nat → Int32) (v_right_a : Nat → Int32) (ls : Array Slot) (H : Heap) (locs : List Loc), lv_has ls 7 [(0, .ref h_v), (1, .int x1), (2, .int y2), (4, .int y4)] → va_P (dC, dI) vwCl [(h_v, .inr (7, [.ref h_v_text, .ref h_v_written, .int v_length, .int v_laid, .int v_gone, .int v_thrown, .int v_were, .int v_none, .int v_beyond, .ref h_v_a, .ref h_v_b, .ref h_v_five, .ref h_v_left, .ref h_v_right, .ref h_v_part, .int v_aMany, .int v_bMany, .int v_fiveMany, .int v_leftMany, .int v_rightMany, .int v_partMany, .int v_twos, .int v_at, .int v_digits, .int v_power, .int v_good])), (h_v_text, .inl (cI, n_v_text, .inl v_text_a)), (h_v_a, .inl (cI, n_v_a, .inl v_a_a)), (h_v_b, .inl (cI, n_v_b, .inl v_b_a)), (h_v_left, .inl (cI, n_v_left, .inl v_left_a)), (h_v_right, .inl (cI, n_v_right, .inl v_right_a))] H → va_D A [(h_v, .inr (7, [.ref h_v_text, .ref h_v_written, .int v_length, .int v_laid, .int v_gone, .int v_thrown, .int v_were, .int v_none, .int v_beyond, .ref h_v_a, .ref h_v_b, .ref h_v_five, .ref h_v_left, .ref h_v_right, .ref h_v_part, .int v_aMany, .int v_bMany, .int v_fiveMany, .int v_leftMany, .int v_rightMany, .int v_partMany, .int v_twos, .int v_at, .int v_digits, .int v_power, .int v_good])), (h_v_text, .inl (cI, n_v_text, .inl v_text_a)), (h_v_a, .inl (cI, n_v_a, .inl v_a_a)), (h_v_b, .inl (cI, n_v_b, .inl v_b_a)), (h_v_left, .inl (cI, n_v_left, .inl v_left_a)), (h_v_right, .inl (cI, n_v_right, .inl v_right_a))] → va_S A s.heap H locs → f_Mod_read_91 fu n_v_text n_v_a n_v_b n_v_left n_v_right x1 v_text_a y2 y4 k0 k1 v_length v_thrown v_were v_none v_beyond v_aMany v_bMany v_leftMany v_rightMany v_twos v_at v_digits v_power v_good v_a_a v_b_a v_left_a v_right_a = some u → W p l e (headSpec ws_Mod_read rm_Mod_read).room s m [.ref h_v, .int x1].toArray below meth c H locs 0 0 Qq (F0 m 91 ls [.int k1, .int k0]) := by
    intro y2 y4 k0 k1 v_length v_thrown v_were v_none v_beyond v_aMany v_bMany v_leftMany v_rightMany v_twos v_at v_digits v_power v_good v_a_a v_b_a v_left_a v_right_a ls H locs hl hP hD hS hf
    unfold f_Mod_read_91 at hf
    refine lv_icmp_le (tgt := 103) hx hb d_Mod_read_91 (by decide) (fun hc => ?_) (fun hc => ?_)
    · have hf := zz_ifp hc hf
      refine lv_iload hx hb d_Mod_read_103 (lv_at hl 3 rfl) ?_
      refine lv_iload_n hx hb d_Mod_read_105 rfl (lv_at hl 2 rfl) ?_
      refine lv_if_eq (tgt := 115) hx hb d_Mod_read_106 (by decide) (fun hc => ?_) (fun hc => ?_)
      · have hf := zz_ifp hc hf
        refine lv_sipush (v := (-400)) hx hb d_Mod_read_115 (by decide) ?_
        exact hL_118 y2 y4 (-400) v_length v_thrown v_were v_none v_beyond v_aMany v_bMany v_leftMany v_rightMany v_twos v_at v_digits v_power v_good v_a_a v_b_a v_left_a v_right_a ls _ _ (lv_sub hl [0, 1, 2] rfl) hP hD hS hf
      · have hf := zz_ifn hc hf
        refine lv_sipush (v := (-1200)) hx hb d_Mod_read_109 (by decide) ?_
        refine lv_goto (tgt := 118) hx hb d_Mod_read_112 (by decide) ?_
        exact hL_118 y2 y4 (-1200) v_length v_thrown v_were v_none v_beyond v_aMany v_bMany v_leftMany v_rightMany v_twos v_at v_digits v_power v_good v_a_a v_b_a v_left_a v_right_a ls _ _ (lv_sub hl [0, 1, 2] rfl) hP hD hS hf
    · have hf := zz_ifn hc hf
      refine lv_iload_n hx hb d_Mod_read_94 rfl (lv_at hl 1 rfl) ?_
      obtain ⟨u_6, hu_6, hf⟩ := zz_bd hf
      refine zz_cl (ws' := [(h_v, .inr (7, [.ref h_v_text, .ref h_v_written, .int v_length, .int v_laid, .int v_gone, .int v_thrown, .int v_were, .int v_none, .int v_beyond, .ref h_v_a, .ref h_v_b, .ref h_v_five, .ref h_v_left, .ref h_v_right, .ref h_v_part, .int v_aMany, .int v_bMany, .int v_fiveMany, .int v_leftMany, .int v_rightMany, .int v_partMany, .int v_twos, .int v_at, .int v_digits, .int v_power, .int v_good])), (h_v_text, .inl (cI, n_v_text, .inl v_text_a)), (h_v_a, .inl (cI, n_v_a, .inl v_a_a)), (h_v_b, .inl (cI, n_v_b, .inl v_b_a)), (h_v_left, .inl (cI, n_v_left, .inl v_left_a)), (h_v_right, .inl (cI, n_v_right, .inl v_right_a))]) (wc := []) (w' := []) hP hD hS hA [] [0, 1, 2, 3, 4, 5] [0, 1, 2, 3, 4, 5] rfl rfl (by decide) (by decide) rfl (by decide) (va_runS (As := [.int x1]) (rest := []) ⟨hx, hb, hml, hown, hw⟩ (c_Mod_greatest l dC dI cI cC cB cJ _ x1 u_6 hu_6) (va_cwS 1 hw (zg_S wd_803 wd_804 wd_8 wd_805) rfl rfl rfl hd_Mod_greatest ⟨Nat.le_of_ble_eq_true rfl, Nat.le_of_ble_eq_true rfl⟩) (zz_preS zz_TE hP hD hK hS hA trivial [] rfl (by decide)) rfl rfl hl.1 rfl (lv_room (Nat.le_of_ble_eq_true rfl)) d_Mod_read_95 ⟨Nat.zero_le _, Nat.zero_le _⟩) (fun H locs hP hD hS => ?_)
      refine lv_lconst (v := 1) hx hb d_Mod_read_98 (by decide) ?_
      refine lv_ladd hx hb d_Mod_read_99 ?_
      refine lv_goto (tgt := 131) hx hb d_Mod_read_100 (by decide) ?_
      exact hL_131 (u_6 + 1) v_length v_thrown v_were v_none v_beyond v_aMany v_bMany v_leftMany v_rightMany v_twos v_at v_digits v_power v_good v_a_a v_b_a v_left_a v_right_a ls _ _ (lv_sub hl [0, 1] rfl) hP hD hS hf
  have hL_64 : ∀ (y2 : Int32) (k0 : Int32) (v_length : Int32) (v_thrown : Int32) (v_were : Int32) (v_none : Int32) (v_beyond : Int32) (v_aMany : Int32) (v_bMany : Int32) (v_leftMany : Int32) (v_rightMany : Int32) (v_twos : Int32) (v_at : Int32) (v_digits : Int32) (v_power : Int32) (v_good : Int32) (v_a_a : Nat → Int32) (v_b_a : Nat → Int32) (v_left_a : Nat → Int32) (v_right_a : Nat → Int32) (ls : Array Slot) (H : Heap) (locs : List Loc), lv_has ls 7 [(0, .ref h_v), (1, .int x1), (2, .int y2)] → va_P (dC, dI) vwCl [(h_v, .inr (7, [.ref h_v_text, .ref h_v_written, .int v_length, .int v_laid, .int v_gone, .int v_thrown, .int v_were, .int v_none, .int v_beyond, .ref h_v_a, .ref h_v_b, .ref h_v_five, .ref h_v_left, .ref h_v_right, .ref h_v_part, .int v_aMany, .int v_bMany, .int v_fiveMany, .int v_leftMany, .int v_rightMany, .int v_partMany, .int v_twos, .int v_at, .int v_digits, .int v_power, .int v_good])), (h_v_text, .inl (cI, n_v_text, .inl v_text_a)), (h_v_a, .inl (cI, n_v_a, .inl v_a_a)), (h_v_b, .inl (cI, n_v_b, .inl v_b_a)), (h_v_left, .inl (cI, n_v_left, .inl v_left_a)), (h_v_right, .inl (cI, n_v_right, .inl v_right_a))] H → va_D A [(h_v, .inr (7, [.ref h_v_text, .ref h_v_written, .int v_length, .int v_laid, .int v_gone, .int v_thrown, .int v_were, .int v_none, .int v_beyond, .ref h_v_a, .ref h_v_b, .ref h_v_five, .ref h_v_left, .ref h_v_right, .ref h_v_part, .int v_aMany, .int v_bMany, .int v_fiveMany, .int v_leftMany, .int v_rightMany, .int v_partMany, .int v_twos, .int v_at, .int v_digits, .int v_power, .int v_good])), (h_v_text, .inl (cI, n_v_text, .inl v_text_a)), (h_v_a, .inl (cI, n_v_a, .inl v_a_a)), (h_v_b, .inl (cI, n_v_b, .inl v_b_a)), (h_v_left, .inl (cI, n_v_left, .inl v_left_a)), (h_v_right, .inl (cI, n_v_right, .inl v_right_a))] → va_S A s.heap H locs → f_Mod_read_64 fu n_v_text n_v_a n_v_b n_v_left n_v_right x1 v_text_a y2 k0 v_length v_thrown v_were v_none v_beyond v_aMany v_bMany v_leftMany v_rightMany v_twos v_at v_digits v_power v_good v_a_a v_b_a v_left_a v_right_a = some u → W p l e (headSpec ws_Mod_read rm_Mod_read).room s m [.ref h_v, .int x1].toArray below meth c H locs 0 0 Qq (F0 m 64 ls [.int k0]) := by
    intro y2 k0 v_length v_thrown v_were v_none v_beyond v_aMany v_bMany v_leftMany v_rightMany v_twos v_at v_digits v_power v_good v_a_a v_b_a v_left_a v_right_a ls H locs hl hP hD hS hf
    unfold f_Mod_read_64 at hf
    refine lv_istore hx hb d_Mod_read_64 hl (by decide) rfl (fun ls hl => ?_)
    have hl : lv_has ls 7 [(4, .int k0), (0, .ref h_v), (1, .int x1), (2, .int y2)] := hl
    refine lv_lconst (v := 0) hx hb d_Mod_read_66 (by decide) ?_
    refine lv_lstore hx hb d_Mod_read_67 hl (by decide) rfl (fun ls hl => ?_)
    have hl : lv_has ls 7 [(5, .long 0), (4, .int k0), (0, .ref h_v), (1, .int x1), (2, .int y2)] := hl
    refine lv_aload_n hx hb d_Mod_read_69 rfl (lv_at hl 2 rfl) ?_
    refine va_get (D := (dC, dI)) (ci := 7) (v := .int v_aMany) (C := R_Mod) (T := T_Mod) (N := 26) hx hb hw in_Mod hown hK hP 0 rfl rfl 15 (by decide) (hw _ wd_689) (fun _ h9 => h9) rfl d_Mod_read_70 ?_
    refine lv_if_le (tgt := 167) hx hb d_Mod_read_73 (by decide) (fun hc => ?_) (fun hc => ?_)
    · have hf := zz_ifp hc hf
      exact hL_167 0 v_length v_thrown v_were v_none v_beyond v_aMany v_bMany v_leftMany v_rightMany v_twos v_at v_digits v_power v_good v_a_a v_b_a v_left_a v_right_a ls _ _ (lv_sub hl [2, 0] rfl) hP hD hS hf
    · have hf := zz_ifn hc hf
      refine lv_iload hx hb d_Mod_read_76 (lv_at hl 1 rfl) ?_
      refine lv_iload_n hx hb d_Mod_read_78 rfl (lv_at hl 4 rfl) ?_
      refine lv_if_eq (tgt := 88) hx hb d_Mod_read_79 (by decide) (fun hc => ?_) (fun hc => ?_)
      · have hf := zz_ifp hc hf
        refine lv_sipush (v := 400) hx hb d_Mod_read_88 (by decide) ?_
        exact hL_91 y2 k0 k0 400 v_length v_thrown v_were v_none v_beyond v_aMany v_bMany v_leftMany v_rightMany v_twos v_at v_digits v_power v_good v_a_a v_b_a v_left_a v_right_a ls _ _ (lv_sub hl [2, 3, 4, 1] rfl) hP hD hS hf
      · have hf := zz_ifn hc hf
        refine lv_sipush (v := 1100) hx hb d_Mod_read_82 (by decide) ?_
        refine lv_goto (tgt := 91) hx hb d_Mod_read_85 (by decide) ?_
        exact hL_91 y2 k0 k0 1100 v_length v_thrown v_were v_none v_beyond v_aMany v_bMany v_leftMany v_rightMany v_twos v_at v_digits v_power v_good v_a_a v_b_a v_left_a v_right_a ls _ _ (lv_sub hl [2, 3, 4, 1] rfl) hP hD hS hf
  unfold f_Mod_read at hf
  refine lv_aload_n hx hb d_Mod_read_0 rfl (lv_at hl 0 rfl) ?_
  obtain ⟨u_1, hu_1, hf⟩ := zz_bd hf
  refine zz_ci (ws' := [(h_v, .inr (7, [.ref h_v_text, .ref h_v_written, .int v_length, .int v_laid, .int v_gone, .int v_thrown, .int v_were, .int v_none, .int v_beyond, .ref h_v_a, .ref h_v_b, .ref h_v_five, .ref h_v_left, .ref h_v_right, .ref h_v_part, .int v_aMany, .int v_bMany, .int v_fiveMany, .int v_leftMany, .int v_rightMany, .int v_partMany, .int v_twos, .int v_at, .int v_digits, .int v_power, .int v_good])), (h_v_text, .inl (cI, n_v_text, .inl v_text_a)), (h_v_a, .inl (cI, n_v_a, .inl v_a_a)), (h_v_b, .inl (cI, n_v_b, .inl v_b_a)), (h_v_left, .inl (cI, n_v_left, .inl v_left_a)), (h_v_right, .inl (cI, n_v_right, .inl v_right_a))]) (wc := [(h_v, .inr (7, [.ref h_v_text, .ref h_v_written, .int v_length, .int v_laid, .int v_gone, .int v_thrown, .int v_were, .int v_none, .int v_beyond, .ref h_v_a, .ref h_v_b, .ref h_v_five, .ref h_v_left, .ref h_v_right, .ref h_v_part, .int v_aMany, .int v_bMany, .int v_fiveMany, .int v_leftMany, .int v_rightMany, .int v_partMany, .int v_twos, .int v_at, .int v_digits, .int v_power, .int v_good])), (h_v_text, .inl (cI, n_v_text, .inl v_text_a))]) (w' := [(h_v, .inr (7, [.ref h_v_text, .ref h_v_written, .int v_length, .int v_laid, .int v_gone, .int v_thrown, .int v_were, .int v_none, .int v_beyond, .ref h_v_a, .ref h_v_b, .ref h_v_five, .ref h_v_left, .ref h_v_right, .ref h_v_part, .int v_aMany, .int v_bMany, .int v_fiveMany, .int v_leftMany, .int v_rightMany, .int v_partMany, .int v_twos, .int v_at, .int v_digits, .int v_power, .int v_good])), (h_v_text, .inl (cI, n_v_text, .inl v_text_a))]) hP hD hS hA [0, 1] [2, 3, 4, 5] [4, 5, 0, 1, 2, 3] rfl rfl (by decide) (by decide) rfl (by decide) (va_runV (As := []) (rest := []) ⟨hx, hb, hml, hown, hw⟩ (c_Mod_isBinary l dC dI cI cC cB cJ _ h_v h_v_text h_v_written h_v_a h_v_b h_v_five h_v_left h_v_right h_v_part n_v_text v_length v_laid v_gone v_thrown v_were v_none v_beyond v_aMany v_bMany v_fiveMany v_leftMany v_rightMany v_partMany v_twos v_at v_digits v_power v_good v_text_a u_1 hu_1) (cwV 0 hw (zg_V wd_771 wd_773 we_1_10 wd_8 wd_774) rfl rfl rfl hd_Mod_isBinary ⟨Nat.le_of_ble_eq_true rfl, Nat.le_of_ble_eq_true rfl⟩) (zz_preV zz_TE (va_recv (q0 := 0) (ci := 7) hK hP rfl rfl) hP hD hK hS hA trivial [0, 1] rfl (by decide)) rfl rfl hl.1 rfl (lv_room (Nat.le_of_ble_eq_true rfl)) d_Mod_read_1 ⟨Nat.zero_le _, Nat.zero_le _⟩) (fun H locs hP hD hS => ?_)
  refine lv_istore_n hx hb d_Mod_read_4 rfl hl (by decide) rfl (fun ls hl => ?_)
  have hl : lv_has ls 7 [(2, .int u_1), (0, .ref h_v), (1, .int x1)] := hl
  refine lv_aload_n hx hb d_Mod_read_5 rfl (lv_at hl 1 rfl) ?_
  refine lv_iload_n hx hb d_Mod_read_6 rfl (lv_at hl 0 rfl) ?_
  obtain ⟨u_2, hu_2, hf⟩ := zz_bd hf
  refine zz_ci (ws' := [(h_v, .inr (7, [.ref h_v_text, .ref h_v_written, .int v_length, .int v_laid, .int v_gone, .int v_thrown, .int v_were, .int v_none, .int v_beyond, .ref h_v_a, .ref h_v_b, .ref h_v_five, .ref h_v_left, .ref h_v_right, .ref h_v_part, .int u_2.2.1, .int v_bMany, .int v_fiveMany, .int v_leftMany, .int v_rightMany, .int v_partMany, .int v_twos, .int u_2.2.2.1, .int u_2.2.2.2.1, .int u_2.2.2.2.2.1, .int u_2.2.2.2.2.2.1])), (h_v_text, .inl (cI, n_v_text, .inl v_text_a)), (h_v_a, .inl (cI, n_v_a, .inl u_2.2.2.2.2.2.2)), (h_v_b, .inl (cI, n_v_b, .inl v_b_a)), (h_v_left, .inl (cI, n_v_left, .inl v_left_a)), (h_v_right, .inl (cI, n_v_right, .inl v_right_a))]) (wc := [(h_v, .inr (7, [.ref h_v_text, .ref h_v_written, .int v_length, .int v_laid, .int v_gone, .int v_thrown, .int v_were, .int v_none, .int v_beyond, .ref h_v_a, .ref h_v_b, .ref h_v_five, .ref h_v_left, .ref h_v_right, .ref h_v_part, .int v_aMany, .int v_bMany, .int v_fiveMany, .int v_leftMany, .int v_rightMany, .int v_partMany, .int v_twos, .int v_at, .int v_digits, .int v_power, .int v_good])), (h_v_text, .inl (cI, n_v_text, .inl v_text_a)), (h_v_a, .inl (cI, n_v_a, .inl v_a_a))]) (w' := [(h_v, .inr (7, [.ref h_v_text, .ref h_v_written, .int v_length, .int v_laid, .int v_gone, .int v_thrown, .int v_were, .int v_none, .int v_beyond, .ref h_v_a, .ref h_v_b, .ref h_v_five, .ref h_v_left, .ref h_v_right, .ref h_v_part, .int u_2.2.1, .int v_bMany, .int v_fiveMany, .int v_leftMany, .int v_rightMany, .int v_partMany, .int v_twos, .int u_2.2.2.1, .int u_2.2.2.2.1, .int u_2.2.2.2.2.1, .int u_2.2.2.2.2.2.1])), (h_v_text, .inl (cI, n_v_text, .inl v_text_a)), (h_v_a, .inl (cI, n_v_a, .inl u_2.2.2.2.2.2.2))]) hP hD hS hA [0, 1, 2] [3, 4, 5] [3, 4, 5, 0, 1, 2] rfl rfl (by decide) (by decide) rfl (by decide) (va_runV (As := [.int u_1]) (rest := []) ⟨hx, hb, hml, hown, hw⟩ (c_Mod_literal l dC dI cI cC cB cJ fu _ h_v h_v_text h_v_a h_v_written h_v_b h_v_five h_v_left h_v_right h_v_part n_v_text n_v_a u_1 v_length v_laid v_gone v_thrown v_were v_none v_beyond v_aMany v_bMany v_fiveMany v_leftMany v_rightMany v_partMany v_twos v_at v_digits v_power v_good v_text_a v_a_a u_2 hu_2) (cwV 1 hw (zg_V wd_775 wd_777 we_1_11 wd_8 wd_778) rfl rfl rfl hd_Mod_literal ⟨Nat.le_of_ble_eq_true rfl, Nat.le_of_ble_eq_true rfl⟩) (zz_preV zz_TE (va_recv (q0 := 0) (ci := 7) hK hP rfl rfl) hP hD hK hS hA trivial [0, 1, 2] rfl (by decide)) rfl rfl hl.1 rfl (lv_room (Nat.le_of_ble_eq_true rfl)) d_Mod_read_7 ⟨Nat.zero_le _, Nat.zero_le _⟩) (fun H locs hP hD hS => ?_)
  refine lv_istore_n hx hb d_Mod_read_10 rfl hl (by decide) rfl (fun ls hl => ?_)
  have hl : lv_has ls 7 [(3, .int u_2.1), (2, .int u_1), (0, .ref h_v), (1, .int x1)] := hl
  refine lv_aload_n hx hb d_Mod_read_11 rfl (lv_at hl 2 rfl) ?_
  refine lv_iconst (v := 0) hx hb d_Mod_read_12 (by decide) ?_
  refine va_put (D := (dC, dI)) (ci := 7) (v := .int 0) (ty := .int) (C := R_Mod) (T := T_Mod) (N := 26) hx hb hw in_Mod ty_Mod tyok_Mod nm_Mod hown hK hP hD hS 0 rfl rfl 2 (by decide) (hw _ wd_676) (fun _ h9 => h9) rfl (tyok_Mod 2 (by decide)) rfl rfl (Nat.le_of_ble_eq_true rfl) d_Mod_read_13 (fun H locs hP hD hS => ?_)
  have hP : va_P (dC, dI) vwCl [(h_v, .inr (7, [.ref h_v_text, .ref h_v_written, .int 0, .int v_laid, .int v_gone, .int v_thrown, .int v_were, .int v_none, .int v_beyond, .ref h_v_a, .ref h_v_b, .ref h_v_five, .ref h_v_left, .ref h_v_right, .ref h_v_part, .int u_2.2.1, .int v_bMany, .int v_fiveMany, .int v_leftMany, .int v_rightMany, .int v_partMany, .int v_twos, .int u_2.2.2.1, .int u_2.2.2.2.1, .int u_2.2.2.2.2.1, .int u_2.2.2.2.2.2.1])), (h_v_text, .inl (cI, n_v_text, .inl v_text_a)), (h_v_a, .inl (cI, n_v_a, .inl u_2.2.2.2.2.2.2)), (h_v_b, .inl (cI, n_v_b, .inl v_b_a)), (h_v_left, .inl (cI, n_v_left, .inl v_left_a)), (h_v_right, .inl (cI, n_v_right, .inl v_right_a))] H := hP
  have hD : va_D A [(h_v, .inr (7, [.ref h_v_text, .ref h_v_written, .int 0, .int v_laid, .int v_gone, .int v_thrown, .int v_were, .int v_none, .int v_beyond, .ref h_v_a, .ref h_v_b, .ref h_v_five, .ref h_v_left, .ref h_v_right, .ref h_v_part, .int u_2.2.1, .int v_bMany, .int v_fiveMany, .int v_leftMany, .int v_rightMany, .int v_partMany, .int v_twos, .int u_2.2.2.1, .int u_2.2.2.2.1, .int u_2.2.2.2.2.1, .int u_2.2.2.2.2.2.1])), (h_v_text, .inl (cI, n_v_text, .inl v_text_a)), (h_v_a, .inl (cI, n_v_a, .inl u_2.2.2.2.2.2.2)), (h_v_b, .inl (cI, n_v_b, .inl v_b_a)), (h_v_left, .inl (cI, n_v_left, .inl v_left_a)), (h_v_right, .inl (cI, n_v_right, .inl v_right_a))] := hD
  refine lv_iload_n hx hb d_Mod_read_16 rfl (lv_at hl 0 rfl) ?_
  refine lv_if_ne (tgt := 37) hx hb d_Mod_read_17 (by decide) (fun hc => ?_) (fun hc => ?_)
  · have hf := zz_ifn hc hf
    refine lv_iload_n hx hb d_Mod_read_37 rfl (lv_at hl 1 rfl) ?_
    refine lv_if_eq (tgt := 55) hx hb d_Mod_read_38 (by decide) (fun hc => ?_) (fun hc => ?_)
    · have hf := zz_ifp hc hf
      refine lv_aload_n hx hb d_Mod_read_55 rfl (lv_at hl 2 rfl) ?_
      refine va_get (D := (dC, dI)) (ci := 7) (v := .int u_2.2.2.2.2.1) (C := R_Mod) (T := T_Mod) (N := 26) hx hb hw in_Mod hown hK hP 0 rfl rfl 24 (by decide) (hw _ wd_697) (fun _ h9 => h9) rfl d_Mod_read_56 ?_
      refine lv_aload_n hx hb d_Mod_read_59 rfl (lv_at hl 2 rfl) ?_
      refine va_get (D := (dC, dI)) (ci := 7) (v := .int u_2.2.2.2.1) (C := R_Mod) (T := T_Mod) (N := 26) hx hb hw in_Mod hown hK hP 0 rfl rfl 23 (by decide) (hw _ wd_696) (fun _ h9 => h9) rfl d_Mod_read_60 ?_
      refine lv_iadd hx hb d_Mod_read_63 ?_
      exact hL_64 u_1 (u_2.2.2.2.2.1 + u_2.2.2.2.1) 0 v_thrown v_were v_none v_beyond u_2.2.1 v_bMany v_leftMany v_rightMany v_twos u_2.2.2.1 u_2.2.2.2.1 u_2.2.2.2.2.1 u_2.2.2.2.2.2.1 u_2.2.2.2.2.2.2 v_b_a v_left_a v_right_a ls _ _ (lv_sub hl [2, 3, 1] rfl) hP hD hS hf
    · have hf := zz_ifn hc hf
      refine lv_aload_n hx hb d_Mod_read_41 rfl (lv_at hl 2 rfl) ?_
      refine va_get (D := (dC, dI)) (ci := 7) (v := .int u_2.2.2.2.2.1) (C := R_Mod) (T := T_Mod) (N := 26) hx hb hw in_Mod hown hK hP 0 rfl rfl 24 (by decide) (hw _ wd_697) (fun _ h9 => h9) rfl d_Mod_read_42 ?_
      refine lv_iconst (v := 4) hx hb d_Mod_read_45 (by decide) ?_
      refine lv_aload_n hx hb d_Mod_read_46 rfl (lv_at hl 2 rfl) ?_
      refine va_get (D := (dC, dI)) (ci := 7) (v := .int u_2.2.2.2.1) (C := R_Mod) (T := T_Mod) (N := 26) hx hb hw in_Mod hown hK hP 0 rfl rfl 23 (by decide) (hw _ wd_696) (fun _ h9 => h9) rfl d_Mod_read_47 ?_
      refine lv_imul hx hb d_Mod_read_50 ?_
      refine lv_iadd hx hb d_Mod_read_51 ?_
      refine lv_goto (tgt := 64) hx hb d_Mod_read_52 (by decide) ?_
      exact hL_64 u_1 (u_2.2.2.2.2.1 + (4 * u_2.2.2.2.1)) 0 v_thrown v_were v_none v_beyond u_2.2.1 v_bMany v_leftMany v_rightMany v_twos u_2.2.2.1 u_2.2.2.2.1 u_2.2.2.2.2.1 u_2.2.2.2.2.2.1 u_2.2.2.2.2.2.2 v_b_a v_left_a v_right_a ls _ _ (lv_sub hl [2, 3, 1] rfl) hP hD hS hf
  · have hf := zz_ifp hc hf
    refine lv_aload_n hx hb d_Mod_read_20 rfl (lv_at hl 2 rfl) ?_
    refine lv_dup hx hb d_Mod_read_21 rfl ?_
    refine va_get (D := (dC, dI)) (ci := 7) (v := .int v_none) (C := R_Mod) (T := T_Mod) (N := 26) hx hb hw in_Mod hown hK hP 0 rfl rfl 7 (by decide) (hw _ wd_681) (fun _ h9 => h9) rfl d_Mod_read_22 ?_
    refine lv_iconst (v := 1) hx hb d_Mod_read_25 (by decide) ?_
    refine lv_iadd hx hb d_Mod_read_26 ?_
    refine va_put (D := (dC, dI)) (ci := 7) (v := .int (v_none + 1)) (ty := .int) (C := R_Mod) (T := T_Mod) (N := 26) hx hb hw in_Mod ty_Mod tyok_Mod nm_Mod hown hK hP hD hS 0 rfl rfl 7 (by decide) (hw _ wd_681) (fun _ h9 => h9) rfl (tyok_Mod 7 (by decide)) rfl rfl (Nat.le_of_ble_eq_true rfl) d_Mod_read_27 (fun H locs hP hD hS => ?_)
    have hP : va_P (dC, dI) vwCl [(h_v, .inr (7, [.ref h_v_text, .ref h_v_written, .int 0, .int v_laid, .int v_gone, .int v_thrown, .int v_were, .int (v_none + 1), .int v_beyond, .ref h_v_a, .ref h_v_b, .ref h_v_five, .ref h_v_left, .ref h_v_right, .ref h_v_part, .int u_2.2.1, .int v_bMany, .int v_fiveMany, .int v_leftMany, .int v_rightMany, .int v_partMany, .int v_twos, .int u_2.2.2.1, .int u_2.2.2.2.1, .int u_2.2.2.2.2.1, .int u_2.2.2.2.2.2.1])), (h_v_text, .inl (cI, n_v_text, .inl v_text_a)), (h_v_a, .inl (cI, n_v_a, .inl u_2.2.2.2.2.2.2)), (h_v_b, .inl (cI, n_v_b, .inl v_b_a)), (h_v_left, .inl (cI, n_v_left, .inl v_left_a)), (h_v_right, .inl (cI, n_v_right, .inl v_right_a))] H := hP
    have hD : va_D A [(h_v, .inr (7, [.ref h_v_text, .ref h_v_written, .int 0, .int v_laid, .int v_gone, .int v_thrown, .int v_were, .int (v_none + 1), .int v_beyond, .ref h_v_a, .ref h_v_b, .ref h_v_five, .ref h_v_left, .ref h_v_right, .ref h_v_part, .int u_2.2.1, .int v_bMany, .int v_fiveMany, .int v_leftMany, .int v_rightMany, .int v_partMany, .int v_twos, .int u_2.2.2.1, .int u_2.2.2.2.1, .int u_2.2.2.2.2.1, .int u_2.2.2.2.2.2.1])), (h_v_text, .inl (cI, n_v_text, .inl v_text_a)), (h_v_a, .inl (cI, n_v_a, .inl u_2.2.2.2.2.2.2)), (h_v_b, .inl (cI, n_v_b, .inl v_b_a)), (h_v_left, .inl (cI, n_v_left, .inl v_left_a)), (h_v_right, .inl (cI, n_v_right, .inl v_right_a))] := hD
    refine lv_aload_n hx hb d_Mod_read_30 rfl (lv_at hl 2 rfl) ?_
    refine lv_iconst (v := 1) hx hb d_Mod_read_31 (by decide) ?_
    obtain ⟨u_7, hu_7, hf⟩ := zz_bd hf
    refine zz_ci (ws' := [(h_v, .inr (7, [.ref h_v_text, .ref h_v_written, .int 0, .int v_laid, .int v_gone, .int u_7.2, .int v_were, .int (v_none + 1), .int v_beyond, .ref h_v_a, .ref h_v_b, .ref h_v_five, .ref h_v_left, .ref h_v_right, .ref h_v_part, .int u_2.2.1, .int v_bMany, .int v_fiveMany, .int v_leftMany, .int v_rightMany, .int v_partMany, .int v_twos, .int u_2.2.2.1, .int u_2.2.2.2.1, .int u_2.2.2.2.2.1, .int u_2.2.2.2.2.2.1])), (h_v_text, .inl (cI, n_v_text, .inl v_text_a)), (h_v_a, .inl (cI, n_v_a, .inl u_2.2.2.2.2.2.2)), (h_v_b, .inl (cI, n_v_b, .inl v_b_a)), (h_v_left, .inl (cI, n_v_left, .inl v_left_a)), (h_v_right, .inl (cI, n_v_right, .inl v_right_a))]) (wc := [(h_v, .inr (7, [.ref h_v_text, .ref h_v_written, .int 0, .int v_laid, .int v_gone, .int v_thrown, .int v_were, .int (v_none + 1), .int v_beyond, .ref h_v_a, .ref h_v_b, .ref h_v_five, .ref h_v_left, .ref h_v_right, .ref h_v_part, .int u_2.2.1, .int v_bMany, .int v_fiveMany, .int v_leftMany, .int v_rightMany, .int v_partMany, .int v_twos, .int u_2.2.2.1, .int u_2.2.2.2.1, .int u_2.2.2.2.2.1, .int u_2.2.2.2.2.2.1]))]) (w' := [(h_v, .inr (7, [.ref h_v_text, .ref h_v_written, .int 0, .int v_laid, .int v_gone, .int u_7.2, .int v_were, .int (v_none + 1), .int v_beyond, .ref h_v_a, .ref h_v_b, .ref h_v_five, .ref h_v_left, .ref h_v_right, .ref h_v_part, .int u_2.2.1, .int v_bMany, .int v_fiveMany, .int v_leftMany, .int v_rightMany, .int v_partMany, .int v_twos, .int u_2.2.2.1, .int u_2.2.2.2.1, .int u_2.2.2.2.2.1, .int u_2.2.2.2.2.2.1]))]) hP hD hS hA [0] [1, 2, 3, 4, 5] [5, 0, 1, 2, 3, 4] rfl rfl (by decide) (by decide) rfl (by decide) (va_runV (As := [.int 1]) (rest := []) ⟨hx, hb, hml, hown, hw⟩ (c_Mod_fail l dC dI cI cC cB cJ _ h_v h_v_text h_v_written h_v_a h_v_b h_v_five h_v_left h_v_right h_v_part 1 0 v_laid v_gone v_thrown v_were (v_none + 1) v_beyond u_2.2.1 v_bMany v_fiveMany v_leftMany v_rightMany v_partMany v_twos u_2.2.2.1 u_2.2.2.2.1 u_2.2.2.2.2.1 u_2.2.2.2.2.2.1 u_7 hu_7) (cwV 1 hw (zg_V wd_763 wd_765 we_1_9 wd_8 wd_766) rfl rfl rfl hd_Mod_fail ⟨Nat.le_of_ble_eq_true rfl, Nat.le_of_ble_eq_true rfl⟩) (zz_preV zz_TE (va_recv (q0 := 0) (ci := 7) hK hP rfl rfl) hP hD hK hS hA trivial [0] rfl (by decide)) rfl rfl hl.1 rfl (lv_room (Nat.le_of_ble_eq_true rfl)) d_Mod_read_32 ⟨Nat.zero_le _, Nat.zero_le _⟩) (fun H locs hP hD hS => ?_)
    refine lv_i2l hx hb d_Mod_read_35 rfl ?_
    cases hf
    exact hend 36 ls _ _ d_Mod_read_36 hP hD hS
