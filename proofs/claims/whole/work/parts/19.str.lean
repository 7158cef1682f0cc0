theorem zz_ny0 : narrow .byte (.int 0) = .int 0 := rfl
theorem zz_ny1 : narrow .byte (.int 1) = .int 1 := rfl
abbrev R_Str : String := "java/lang/String"
abbrev R_Lat : String := "java/lang/StringLatin1"
abbrev R_Pre : String := "jdk/internal/util/Preconditions"
abbrev ws_Pre_checkIndex : List Cond := .code y_Pre_checkIndex prog_23_method_11_code 3 (some .int) :: zw
abbrev rm_Pre_checkIndex : Room := { frames := 0, cells := 0, slots := 0, locals := 0 }
theorem hd_Pre_checkIndex : y_Pre_checkIndex.cls ≠ "java/lang/invoke/MethodHandle" ∧ y_Pre_checkIndex.cls ≠ "java/lang/invoke/VarHandle" ∧ (parseMethodDescriptor y_Pre_checkIndex.desc).map (fun d => d.parameters.length) = some 3 := by decide +kernel
theorem d_Pre_checkIndex_0 : decode prog_23_method_11_code 0 = .ok (.iload_n 0, 1) := by decide +kernel
theorem d_Pre_checkIndex_1 : decode prog_23_method_11_code 1 = .ok (.ifCond .lt 8, 3) := by decide +kernel
theorem d_Pre_checkIndex_4 : decode prog_23_method_11_code 4 = .ok (.iload_n 0, 1) := by decide +kernel
theorem d_Pre_checkIndex_5 : decode prog_23_method_11_code 5 = .ok (.iload_n 1, 1) := by decide +kernel
theorem d_Pre_checkIndex_6 : decode prog_23_method_11_code 6 = .ok (.if_icmp .lt 10, 3) := by decide +kernel
theorem d_Pre_checkIndex_16 : decode prog_23_method_11_code 16 = .ok (.iload_n 0, 1) := by decide +kernel
theorem d_Pre_checkIndex_17 : decode prog_23_method_11_code 17 = .ok (.ireturn, 1) := by decide +kernel
def f_Pre_checkIndex (x0 : Int32) (x1 : Int32) : Option (Int32) :=
  (if x0 < 0 then
  none
  else
  (if x0 < x1 then
  some (x0)
  else
  none))
set_option maxHeartbeats 4000000 in
set_option maxRecDepth 100000 in
theorem c_Pre_checkIndex_n (l : Launch) (dC : Nat → ClassId) (dI : Nat → Nat → Nat) (cI cC cB cJ : ClassId) (sz : Nat) (x0 : Int32) (x1 : Int32) (u : Int32) (hf : f_Pre_checkIndex x0 x1 = some u) : Met l y_Pre_checkIndex ws_Pre_checkIndex rm_Pre_checkIndex (zz_P zz_T (dC, dI) vwCl (zz_tys cI cC cB cJ) [.int x0, .int x1, .null] [] sz) (zz_Qi (dC, dI) vwCl u [] (va_A [] sz)) 0 0 (va_A [] sz) := by
  refine va_MetF (cc := prog_23_method_11_code) (maxL := 3) (ret := (some .int)) (by decide +kernel) rfl ?_
  intro p e s m args below meth c s₁ B hml hv
  obtain ⟨rfl, hsz, hP, hK, hD0, hX⟩ := hv
  have hx := B.exec
  have hb := B.bytes
  have hr := B.returns
  have hts := atoms_spec (ws := ws_Pre_checkIndex) B.pre
  have hw : ∀ w ∈ zw, w.before [.int x0, .int x1, .null].toArray s = true := fun w h => hts w (List.mem_cons_of_mem _ h)
  have hown : s.vm.findClass R_Pre = some m.cls := findClass_of_methodNamed B.named
  have hlocks := B.notSynchronized
  subst hsz
  have hD := hD0.self (sz := s.heap.size)
  generalize hAe : va_A [] s.heap.size = A at hD hX ⊢
  have hA : ∀ q : Nat, s.heap.size ≤ q → A q := fun q h => by rw [← hAe]; exact Or.inr h
  have hS : va_S A s.heap s.heap [] := va_S.rf
  have hl := lv_entry [.int x0, .int x1, .null] (n := 3) (Nat.le_of_ble_eq_true rfl)
  rw [lg_entry_eq]
  generalize (lg_sl [.int x0, .int x1, .null] ++ List.replicate (3 - (lg_sl [.int x0, .int x1, .null]).length) Slot.unset).toArray = ls at hl ⊢
  have hl : lv_has ls 3 [(0, .int x0), (1, .int x1), (2, .null)] := hl
  refine zz_endi hx hb hr hlocks (fun Qq hend => ?_)
  unfold f_Pre_checkIndex at hf
  refine lv_iload_n hx hb d_Pre_checkIndex_0 rfl (lv_at hl 0 rfl) ?_
  refine lv_if_lt (tgt := 9) hx hb d_Pre_checkIndex_1 (by decide) (fun hc => ?_) (fun hc => ?_)
  · have hf := zz_ifp hc hf
    exact zz_no hf
  · have hf := zz_ifn hc hf
    refine lv_iload_n hx hb d_Pre_checkIndex_4 rfl (lv_at hl 0 rfl) ?_
    refine lv_iload_n hx hb d_Pre_checkIndex_5 rfl (lv_at hl 1 rfl) ?_
    refine lv_icmp_lt (tgt := 16) hx hb d_Pre_checkIndex_6 (by decide) (fun hc => ?_) (fun hc => ?_)
    · have hf := zz_ifp hc hf
      refine lv_iload_n hx hb d_Pre_checkIndex_16 rfl (lv_at hl 0 rfl) ?_
      cases hf
      exact hend 17 ls _ _ d_Pre_checkIndex_17 hP hD hS
    · have hf := zz_ifn hc hf
      exact zz_no hf
set_option maxHeartbeats 4000000 in
set_option maxRecDepth 100000 in
theorem c_Pre_checkIndex_r (l : Launch) (dC : Nat → ClassId) (dI : Nat → Nat → Nat) (cI cC cB cJ : ClassId) (sz : Nat) (x0 : Int32) (x1 : Int32) (r2 : Nat) (u : Int32) (hf : f_Pre_checkIndex x0 x1 = some u) : Met l y_Pre_checkIndex ws_Pre_checkIndex rm_Pre_checkIndex (zz_P zz_T (dC, dI) vwCl (zz_tys cI cC cB cJ) [.int x0, .int x1, .ref r2] [] sz) (zz_Qi (dC, dI) vwCl u [] (va_A [] sz)) 0 0 (va_A [] sz) := by
  refine va_MetF (cc := prog_23_method_11_code) (maxL := 3) (ret := (some .int)) (by decide +kernel) rfl ?_
  intro p e s m args below meth c s₁ B hml hv
  obtain ⟨rfl, hsz, hP, hK, hD0, hX⟩ := hv
  have hx := B.exec
  have hb := B.bytes
  have hr := B.returns
  have hts := atoms_spec (ws := ws_Pre_checkIndex) B.pre
  have hw : ∀ w ∈ zw, w.before [.int x0, .int x1, .ref r2].toArray s = true := fun w h => hts w (List.mem_cons_of_mem _ h)
  have hown : s.vm.findClass R_Pre = some m.cls := findClass_of_methodNamed B.named
  have hlocks := B.notSynchronized
  subst hsz
  have hD := hD0.self (sz := s.heap.size)
  generalize hAe : va_A [] s.heap.size = A at hD hX ⊢
  have hA : ∀ q : Nat, s.heap.size ≤ q → A q := fun q h => by rw [← hAe]; exact Or.inr h
  have hS : va_S A s.heap s.heap [] := va_S.rf
  have hl := lv_entry [.int x0, .int x1, .ref r2] (n := 3) (Nat.le_of_ble_eq_true rfl)
  rw [lg_entry_eq]
  generalize (lg_sl [.int x0, .int x1, .ref r2] ++ List.replicate (3 - (lg_sl [.int x0, .int x1, .ref r2]).length) Slot.unset).toArray = ls at hl ⊢
  have hl : lv_has ls 3 [(0, .int x0), (1, .int x1), (2, .ref r2)] := hl
  refine zz_endi hx hb hr hlocks (fun Qq hend => ?_)
  unfold f_Pre_checkIndex at hf
  refine lv_iload_n hx hb d_Pre_checkIndex_0 rfl (lv_at hl 0 rfl) ?_
  refine lv_if_lt (tgt := 9) hx hb d_Pre_checkIndex_1 (by decide) (fun hc => ?_) (fun hc => ?_)
  · have hf := zz_ifp hc hf
    exact zz_no hf
  · have hf := zz_ifn hc hf
    refine lv_iload_n hx hb d_Pre_checkIndex_4 rfl (lv_at hl 0 rfl) ?_
    refine lv_iload_n hx hb d_Pre_checkIndex_5 rfl (lv_at hl 1 rfl) ?_
    refine lv_icmp_lt (tgt := 16) hx hb d_Pre_checkIndex_6 (by decide) (fun hc => ?_) (fun hc => ?_)
    · have hf := zz_ifp hc hf
      refine lv_iload_n hx hb d_Pre_checkIndex_16 rfl (lv_at hl 0 rfl) ?_
      cases hf
      exact hend 17 ls _ _ d_Pre_checkIndex_17 hP hD hS
    · have hf := zz_ifn hc hf
      exact zz_no hf
abbrev ws_Str_checkIndex : List Cond := .code y_Str_checkIndex prog_18_method_155_code 2 none :: zw
abbrev rm_Str_checkIndex : Room := { frames := 1, cells := 0, slots := 0, locals := 22 }
theorem hd_Str_checkIndex : y_Str_checkIndex.cls ≠ "java/lang/invoke/MethodHandle" ∧ y_Str_checkIndex.cls ≠ "java/lang/invoke/VarHandle" ∧ (parseMethodDescriptor y_Str_checkIndex.desc).map (fun d => d.parameters.length) = some 2 := by decide +kernel
theorem d_Str_checkIndex_0 : decode prog_18_method_155_code 0 = .ok (.iload_n 0, 1) := by decide +kernel
theorem d_Str_checkIndex_1 : decode prog_18_method_155_code 1 = .ok (.iload_n 1, 1) := by decide +kernel
theorem d_Str_checkIndex_2 : decode prog_18_method_155_code 2 = .ok (.getstatic 1053, 3) := by decide +kernel
theorem d_Str_checkIndex_5 : decode prog_18_method_155_code 5 = .ok (.invokestatic 1059, 3) := by decide +kernel
theorem d_Str_checkIndex_8 : decode prog_18_method_155_code 8 = .ok (.pop, 1) := by decide +kernel
theorem d_Str_checkIndex_9 : decode prog_18_method_155_code 9 = .ok (.return_, 1) := by decide +kernel
def f_Str_checkIndex (x0 : Int32) (x1 : Int32) : Option (Unit) :=
  (f_Pre_checkIndex x0 x1).bind fun u_1 =>
  some ()
set_option maxHeartbeats 4000000 in
set_option maxRecDepth 100000 in
theorem c_Str_checkIndex (l : Launch) (dC : Nat → ClassId) (dI : Nat → Nat → Nat) (cI cC cB cJ : ClassId) (adF : Nat → Nat) (tp : Nat) (adK adV : Nat → Nat) (sz : Nat) (x0 : Int32) (x1 : Int32) (u : Unit) (hf : f_Str_checkIndex x0 x1 = some u) : Met l y_Str_checkIndex ws_Str_checkIndex rm_Str_checkIndex (zz_P (zx_E adF tp adK adV) (dC, dI) vwCl (zz_tys cI cC cB cJ) [.int x0, .int x1] [] sz) (zz_Qv (dC, dI) vwCl [] (va_A [] sz)) 0 0 (va_A [] sz) := by
  refine va_MetF (cc := prog_18_method_155_code) (maxL := 2) (ret := none) (by decide +kernel) rfl ?_
  intro p e s m args below meth c s₁ B hml hv
  obtain ⟨rfl, hsz, hP, hK, hD0, hX⟩ := hv
  have hx := B.exec
  have hb := B.bytes
  have hr := B.returns
  have hts := atoms_spec (ws := ws_Str_checkIndex) B.pre
  have hw : ∀ w ∈ zw, w.before [.int x0, .int x1].toArray s = true := fun w h => hts w (List.mem_cons_of_mem _ h)
  have hown : s.vm.findClass R_Str = some m.cls := findClass_of_methodNamed B.named
  have hlocks := B.notSynchronized
  subst hsz
  have hD := hD0.self (sz := s.heap.size)
  generalize hAe : va_A [] s.heap.size = A at hD hX ⊢
  have hA : ∀ q : Nat, s.heap.size ≤ q → A q := fun q h => by rw [← hAe]; exact Or.inr h
  have hS : va_S A s.heap s.heap [] := va_S.rf
  have hl := lv_entry [.int x0, .int x1] (n := 2) (Nat.le_of_ble_eq_true rfl)
  rw [lg_entry_eq]
  generalize (lg_sl [.int x0, .int x1] ++ List.replicate (2 - (lg_sl [.int x0, .int x1]).length) Slot.unset).toArray = ls at hl ⊢
  have hl : lv_has ls 2 [(0, .int x0), (1, .int x1)] := hl
  refine zz_endv hx hb hr hlocks (fun Qq hend => ?_)
  unfold f_Str_checkIndex at hf
  refine lv_iload_n hx hb d_Str_checkIndex_0 rfl (lv_at hl 0 rfl) ?_
  refine lv_iload_n hx hb d_Str_checkIndex_1 rfl (lv_at hl 1 rfl) ?_
  rcases hX.2.2.2.2.2.2.1 with hq | ⟨tq, hq⟩
  · refine va_gets hx hb hq hS hown (hw _ wd_255) (fun _ h9 => h9) d_Str_checkIndex_2 ?_
    obtain ⟨u_1, hu_1, hf⟩ := zz_bd hf
    refine zz_ci (ws' := []) (wc := []) (w' := []) hP hD hS hA [] [] [] rfl rfl (by decide) (by decide) rfl (by decide) (va_runS (As := [.int x0, .int x1, .null]) (rest := []) ⟨hx, hb, hml, hown, hw⟩ (c_Pre_checkIndex_n l dC dI cI cC cB cJ _ x0 x1 u_1 hu_1) (va_cwS 3 hw (zg_S wd_257 wd_258 wd_20 wd_259) rfl rfl rfl hd_Pre_checkIndex ⟨Nat.le_of_ble_eq_true rfl, Nat.le_of_ble_eq_true rfl⟩) (zz_preS zz_TE hP hD hK hS hA trivial [] rfl (by decide)) rfl rfl hl.1 rfl (lv_room (Nat.le_of_ble_eq_true rfl)) d_Str_checkIndex_5 ⟨Nat.zero_le _, Nat.zero_le _⟩) (fun H locs hP hD hS => ?_)
    refine lv_pop hx hb d_Str_checkIndex_8 rfl ?_
    cases hf
    exact hend 9 ls _ _ d_Str_checkIndex_9 hP hD hS
  · refine va_gets hx hb hq hS hown (hw _ wd_255) (fun _ h9 => h9) d_Str_checkIndex_2 ?_
    obtain ⟨u_1, hu_1, hf⟩ := zz_bd hf
    refine zz_ci (ws' := []) (wc := []) (w' := []) hP hD hS hA [] [] [] rfl rfl (by decide) (by decide) rfl (by decide) (va_runS (As := [.int x0, .int x1, .ref tq]) (rest := []) ⟨hx, hb, hml, hown, hw⟩ (c_Pre_checkIndex_r l dC dI cI cC cB cJ _ x0 x1 tq u_1 hu_1) (va_cwS 3 hw (zg_S wd_257 wd_258 wd_20 wd_259) rfl rfl rfl hd_Pre_checkIndex ⟨Nat.le_of_ble_eq_true rfl, Nat.le_of_ble_eq_true rfl⟩) (zz_preS zz_TE hP hD hK hS hA trivial [] rfl (by decide)) rfl rfl hl.1 rfl (lv_room (Nat.le_of_ble_eq_true rfl)) d_Str_checkIndex_5 ⟨Nat.zero_le _, Nat.zero_le _⟩) (fun H locs hP hD hS => ?_)
    refine lv_pop hx hb d_Str_checkIndex_8 rfl ?_
    cases hf
    exact hend 9 ls _ _ d_Str_checkIndex_9 hP hD hS
abbrev ws_Str_coder : List Cond := .code y_Str_coder prog_18_method_152_code 1 (some .byte) :: zw
abbrev rm_Str_coder : Room := { frames := 0, cells := 0, slots := 0, locals := 0 }
theorem hd_Str_coder : y_Str_coder.cls = "java/lang/String" ∧ y_Str_coder.cls ≠ "java/lang/invoke/MethodHandle" ∧ y_Str_coder.cls ≠ "java/lang/invoke/VarHandle" ∧ (parseMethodDescriptor y_Str_coder.desc).map (fun d => d.parameters.length) = some 0 := by decide +kernel
theorem d_Str_coder_0 : decode prog_18_method_152_code 0 = .ok (.getstatic 38, 3) := by decide +kernel
theorem d_Str_coder_3 : decode prog_18_method_152_code 3 = .ok (.ifCond .eq 10, 3) := by decide +kernel
theorem d_Str_coder_6 : decode prog_18_method_152_code 6 = .ok (.aload_n 0, 1) := by decide +kernel
theorem d_Str_coder_7 : decode prog_18_method_152_code 7 = .ok (.getfield 15, 3) := by decide +kernel
theorem d_Str_coder_10 : decode prog_18_method_152_code 10 = .ok (.goto 4, 3) := by decide +kernel
theorem d_Str_coder_13 : decode prog_18_method_152_code 13 = .ok (.iconst 1, 1) := by decide +kernel
theorem d_Str_coder_14 : decode prog_18_method_152_code 14 = .ok (.ireturn, 1) := by decide +kernel
def f_Str_coder (x0 : Nat) : Option (Int32) :=
  (if (1 : Int32) = 0 then
  some (1)
  else
  some (0))
set_option maxHeartbeats 4000000 in
set_option maxRecDepth 100000 in
theorem c_Str_coder (l : Launch) (dC : Nat → ClassId) (dI : Nat → Nat → Nat) (cI cC cB cJ : ClassId) (adF : Nat → Nat) (tp : Nat) (adK adV : Nat → Nat) (sz : Nat) (x0 : Nat) (he_x0 : x0 < 3) (u : Int32) (hf : f_Str_coder x0 = some u) : Met l y_Str_coder ws_Str_coder rm_Str_coder (zz_P (zx_E adF tp adK adV) (dC, dI) vwCl (zz_tys cI cC cB cJ) [.ref (adK x0)] [] sz) (zz_Qi (dC, dI) vwCl u [] (va_A [] sz)) 0 0 (va_A [] sz) := by
  refine va_MetF (cc := prog_18_method_152_code) (maxL := 1) (ret := (some .byte)) (by decide +kernel) rfl ?_
  intro p e s m args below meth c s₁ B hml hv
  obtain ⟨rfl, hsz, hP, hK, hD0, hX⟩ := hv
  have hx := B.exec
  have hb := B.bytes
  have hr := B.returns
  have hts := atoms_spec (ws := ws_Str_coder) B.pre
  have hw : ∀ w ∈ zw, w.before [.ref (adK x0)].toArray s = true := fun w h => hts w (List.mem_cons_of_mem _ h)
  have hown : s.vm.findClass R_Str = some m.cls := findClass_of_methodNamed B.named
  have hlocks := B.notSynchronized
  subst hsz
  have hD := hD0.self (sz := s.heap.size)
  generalize hAe : va_A [] s.heap.size = A at hD hX ⊢
  have hA : ∀ q : Nat, s.heap.size ≤ q → A q := fun q h => by rw [← hAe]; exact Or.inr h
  have hS : va_S A s.heap s.heap [] := va_S.rf
  have hl := lv_entry [.ref (adK x0)] (n := 1) (Nat.le_of_ble_eq_true rfl)
  rw [lg_entry_eq]
  generalize (lg_sl [.ref (adK x0)] ++ List.replicate (1 - (lg_sl [.ref (adK x0)]).length) Slot.unset).toArray = ls at hl ⊢
  have hl : lv_has ls 1 [(0, .ref (adK x0))] := hl
  refine zz_endz hx hb hr hlocks (fun Qq hend => ?_)
  unfold f_Str_coder at hf
  refine va_gets hx hb hX.2.2.2.2.2.1 hS hown (hw _ wd_239) (fun _ h9 => h9) d_Str_coder_0 ?_
  refine lv_if_eq (tgt := 13) hx hb d_Str_coder_3 (by decide) (fun hc => ?_) (fun hc => ?_)
  · have hf := zz_ifp hc hf
    refine lv_iconst (v := 1) hx hb d_Str_coder_13 (by decide) ?_
    cases hf
    exact hend 14 ls _ _ zz_ny1 d_Str_coder_14 hP hD hS
  · have hf := zz_ifn hc hf
    refine lv_aload_n hx hb d_Str_coder_6 rfl (lv_at hl 0 rfl) ?_
    refine vk_getf hx hb ((hX.2.2.2.1.1 x0 he_x0).2.1) hS hown (hw _ wd_920) (fun _ h9 => h9) d_Str_coder_7 ?_
    refine lv_goto (tgt := 14) hx hb d_Str_coder_10 (by decide) ?_
    cases hf
    exact hend 14 ls _ _ zz_ny0 d_Str_coder_14 hP hD hS
abbrev ws_Str_length : List Cond := .code y_Str_length prog_18_method_54_code 1 (some .int) :: zw
abbrev rm_Str_length : Room := { frames := 1, cells := 0, slots := 0, locals := 20 }
theorem hd_Str_length : y_Str_length.cls = "java/lang/String" ∧ y_Str_length.cls ≠ "java/lang/invoke/MethodHandle" ∧ y_Str_length.cls ≠ "java/lang/invoke/VarHandle" ∧ (parseMethodDescriptor y_Str_length.desc).map (fun d => d.parameters.length) = some 0 := by decide +kernel
theorem d_Str_length_0 : decode prog_18_method_54_code 0 = .ok (.aload_n 0, 1) := by decide +kernel
theorem d_Str_length_1 : decode prog_18_method_54_code 1 = .ok (.getfield 9, 3) := by decide +kernel
theorem d_Str_length_4 : decode prog_18_method_54_code 4 = .ok (.arraylength, 1) := by decide +kernel
theorem d_Str_length_5 : decode prog_18_method_54_code 5 = .ok (.aload_n 0, 1) := by decide +kernel
theorem d_Str_length_6 : decode prog_18_method_54_code 6 = .ok (.invokevirtual 335, 3) := by decide +kernel
theorem d_Str_length_9 : decode prog_18_method_54_code 9 = .ok (.ishr, 1) := by decide +kernel
theorem d_Str_length_10 : decode prog_18_method_54_code 10 = .ok (.ireturn, 1) := by decide +kernel
def f_Str_length (x0 : Nat) : Option (Int32) :=
  (f_Str_coder x0).bind fun u_1 =>
  some ((nI (zx_len.getD x0 0)) >>> (u_1 &&& 31))
set_option maxHeartbeats 4000000 in
set_option maxRecDepth 100000 in
theorem c_Str_length (l : Launch) (dC : Nat → ClassId) (dI : Nat → Nat → Nat) (cI cC cB cJ : ClassId) (adF : Nat → Nat) (tp : Nat) (adK adV : Nat → Nat) (sz : Nat) (x0 : Nat) (he_x0 : x0 < 3) (u : Int32) (hf : f_Str_length x0 = some u) : Met l y_Str_length ws_Str_length rm_Str_length (zz_P (zx_E adF tp adK adV) (dC, dI) vwCl (zz_tys cI cC cB cJ) [.ref (adK x0)] [] sz) (zz_Qi (dC, dI) vwCl u [] (va_A [] sz)) 0 0 (va_A [] sz) := by
  refine va_MetF (cc := prog_18_method_54_code) (maxL := 1) (ret := (some .int)) (by decide +kernel) rfl ?_
  intro p e s m args below meth c s₁ B hml hv
  obtain ⟨rfl, hsz, hP, hK, hD0, hX⟩ := hv
  have hx := B.exec
  have hb := B.bytes
  have hr := B.returns
  have hts := atoms_spec (ws := ws_Str_length) B.pre
  have hw : ∀ w ∈ zw, w.before [.ref (adK x0)].toArray s = true := fun w h => hts w (List.mem_cons_of_mem _ h)
  have hown : s.vm.findClass R_Str = some m.cls := findClass_of_methodNamed B.named
  have hlocks := B.notSynchronized
  subst hsz
  have hD := hD0.self (sz := s.heap.size)
  generalize hAe : va_A [] s.heap.size = A at hD hX ⊢
  have hA : ∀ q : Nat, s.heap.size ≤ q → A q := fun q h => by rw [← hAe]; exact Or.inr h
  have hS : va_S A s.heap s.heap [] := va_S.rf
  have hl := lv_entry [.ref (adK x0)] (n := 1) (Nat.le_of_ble_eq_true rfl)
  rw [lg_entry_eq]
  generalize (lg_sl [.ref (adK x0)] ++ List.replicate (1 - (lg_sl [.ref (adK x0)]).length) Slot.unset).toArray = ls at hl ⊢
  have hl : lv_has ls 1 [(0, .ref (adK x0))] := hl
  refine zz_endi hx hb hr hlocks (fun Qq hend => ?_)
  unfold f_Str_length at hf
  refine lv_aload_n hx hb d_Str_length_0 rfl (lv_at hl 0 rfl) ?_
  refine vk_getf hx hb ((hX.2.2.2.1.1 x0 he_x0).2.2.1) hS hown (hw _ wd_919) (fun _ h9 => h9) d_Str_length_1 ?_
  refine va_tlen (v := nI (zx_len.getD x0 0)) hx hb ((hX.2.2.2.1.1 x0 he_x0).2.2.2) hS rfl d_Str_length_4 ?_
  refine lv_aload_n hx hb d_Str_length_5 rfl (lv_at hl 0 rfl) ?_
  obtain ⟨u_1, hu_1, hf⟩ := zz_bd hf
  refine zz_ci (ws' := []) (wc := []) (w' := []) hP hD hS hA [] [] [] rfl rfl (by decide) (by decide) rfl (by decide) (va_runV (As := []) (rest := [.int (nI (zx_len.getD x0 0))]) ⟨hx, hb, hml, hown, hw⟩ (c_Str_coder l dC dI cI cC cB cJ adF tp adK adV _ x0 he_x0 u_1 hu_1) (cwV 0 hw (zg_V wd_235 wd_236 wd_237 wd_18 wd_238) rfl rfl rfl hd_Str_coder ⟨Nat.le_of_ble_eq_true rfl, Nat.le_of_ble_eq_true rfl⟩) (zz_preV (zx_ok adF tp adK adV) (vk_recv hX.2.2.2.1 he_x0 hS) hP hD hK hS hA hX [] rfl (by decide)) rfl rfl hl.1 rfl (lv_room (Nat.le_of_ble_eq_true rfl)) d_Str_length_6 ⟨Nat.zero_le _, Nat.zero_le _⟩) (fun H locs hP hD hS => ?_)
  refine lv_ishr hx hb d_Str_length_9 ?_
  cases hf
  exact hend 10 ls _ _ d_Str_length_10 hP hD hS
abbrev ws_Str_isLatin1 : List Cond := .code y_Str_isLatin1 prog_18_method_154_code 1 (some .boolean) :: zw
abbrev rm_Str_isLatin1 : Room := { frames := 0, cells := 0, slots := 0, locals := 0 }
theorem hd_Str_isLatin1 : y_Str_isLatin1.cls = "java/lang/String" ∧ y_Str_isLatin1.cls ≠ "java/lang/invoke/MethodHandle" ∧ y_Str_isLatin1.cls ≠ "java/lang/invoke/VarHandle" ∧ (parseMethodDescriptor y_Str_isLatin1.desc).map (fun d => d.parameters.length) = some 0 := by decide +kernel
theorem d_Str_isLatin1_0 : decode prog_18_method_154_code 0 = .ok (.getstatic 38, 3) := by decide +kernel
theorem d_Str_isLatin1_3 : decode prog_18_method_154_code 3 = .ok (.ifCond .eq 14, 3) := by decide +kernel
theorem d_Str_isLatin1_6 : decode prog_18_method_154_code 6 = .ok (.aload_n 0, 1) := by decide +kernel
theorem d_Str_isLatin1_7 : decode prog_18_method_154_code 7 = .ok (.getfield 15, 3) := by decide +kernel
theorem d_Str_isLatin1_10 : decode prog_18_method_154_code 10 = .ok (.ifCond .ne 7, 3) := by decide +kernel
theorem d_Str_isLatin1_13 : decode prog_18_method_154_code 13 = .ok (.iconst 1, 1) := by decide +kernel
theorem d_Str_isLatin1_14 : decode prog_18_method_154_code 14 = .ok (.goto 4, 3) := by decide +kernel
theorem d_Str_isLatin1_17 : decode prog_18_method_154_code 17 = .ok (.iconst 0, 1) := by decide +kernel
theorem d_Str_isLatin1_18 : decode prog_18_method_154_code 18 = .ok (.ireturn, 1) := by decide +kernel
def f_Str_isLatin1 (x0 : Nat) : Option (Int32) :=
  (if (1 : Int32) = 0 then
  some (0)
  else
  (if (0 : Int32) = 0 then
  some (1)
  else
  some (0)))
set_option maxHeartbeats 4000000 in
set_option maxRecDepth 100000 in
theorem c_Str_isLatin1 (l : Launch) (dC : Nat → ClassId) (dI : Nat → Nat → Nat) (cI cC cB cJ : ClassId) (adF : Nat → Nat) (tp : Nat) (adK adV : Nat → Nat) (sz : Nat) (x0 : Nat) (he_x0 : x0 < 3) (u : Int32) (hf : f_Str_isLatin1 x0 = some u) : Met l y_Str_isLatin1 ws_Str_isLatin1 rm_Str_isLatin1 (zz_P (zx_E adF tp adK adV) (dC, dI) vwCl (zz_tys cI cC cB cJ) [.ref (adK x0)] [] sz) (zz_Qi (dC, dI) vwCl u [] (va_A [] sz)) 0 0 (va_A [] sz) := by
  refine va_MetF (cc := prog_18_method_154_code) (maxL := 1) (ret := (some .boolean)) (by decide +kernel) rfl ?_
  intro p e s m args below meth c s₁ B hml hv
  obtain ⟨rfl, hsz, hP, hK, hD0, hX⟩ := hv
  have hx := B.exec
  have hb := B.bytes
  have hr := B.returns
  have hts := atoms_spec (ws := ws_Str_isLatin1) B.pre
  have hw : ∀ w ∈ zw, w.before [.ref (adK x0)].toArray s = true := fun w h => hts w (List.mem_cons_of_mem _ h)
  have hown : s.vm.findClass R_Str = some m.cls := findClass_of_methodNamed B.named
  have hlocks := B.notSynchronized
  subst hsz
  have hD := hD0.self (sz := s.heap.size)
  generalize hAe : va_A [] s.heap.size = A at hD hX ⊢
  have hA : ∀ q : Nat, s.heap.size ≤ q → A q := fun q h => by rw [← hAe]; exact Or.inr h
  have hS : va_S A s.heap s.heap [] := va_S.rf
  have hl := lv_entry [.ref (adK x0)] (n := 1) (Nat.le_of_ble_eq_true rfl)
  rw [lg_entry_eq]
  generalize (lg_sl [.ref (adK x0)] ++ List.replicate (1 - (lg_sl [.ref (adK x0)]).length) Slot.unset).toArray = ls at hl ⊢
  have hl : lv_has ls 1 [(0, .ref (adK x0))] := hl
  refine zz_endz hx hb hr hlocks (fun Qq hend => ?_)
  unfold f_Str_isLatin1 at hf
  refine va_gets hx hb hX.2.2.2.2.2.1 hS hown (hw _ wd_239) (fun _ h9 => h9) d_Str_isLatin1_0 ?_
  refine lv_if_eq (tgt := 17) hx hb d_Str_isLatin1_3 (by decide) (fun hc => ?_) (fun hc => ?_)
  · have hf := zz_ifp hc hf
    refine lv_iconst (v := 0) hx hb d_Str_isLatin1_17 (by decide) ?_
    cases hf
    exact hend 18 ls _ _ narrow_b0 d_Str_isLatin1_18 hP hD hS
  · have hf := zz_ifn hc hf
    refine lv_aload_n hx hb d_Str_isLatin1_6 rfl (lv_at hl 0 rfl) ?_
    refine vk_getf hx hb ((hX.2.2.2.1.1 x0 he_x0).2.1) hS hown (hw _ wd_920) (fun _ h9 => h9) d_Str_isLatin1_7 ?_
    refine lv_if_ne (tgt := 17) hx hb d_Str_isLatin1_10 (by decide) (fun hc => ?_) (fun hc => ?_)
    · have hf := zz_ifn hc hf
      refine lv_iconst (v := 0) hx hb d_Str_isLatin1_17 (by decide) ?_
      cases hf
      exact hend 18 ls _ _ narrow_b0 d_Str_isLatin1_18 hP hD hS
    · have hf := zz_ifp hc hf
      refine lv_iconst (v := 1) hx hb d_Str_isLatin1_13 (by decide) ?_
      refine lv_goto (tgt := 18) hx hb d_Str_isLatin1_14 (by decide) ?_
      cases hf
      exact hend 18 ls _ _ narrow_b1 d_Str_isLatin1_18 hP hD hS
abbrev ws_Lat_charAt : List Cond := .code y_Lat_charAt prog_19_method_2_code 2 (some .char) :: zw
abbrev rm_Lat_charAt : Room := { frames := 2, cells := 0, slots := 0, locals := 43 }
theorem hd_Lat_charAt : y_Lat_charAt.cls ≠ "java/lang/invoke/MethodHandle" ∧ y_Lat_charAt.cls ≠ "java/lang/invoke/VarHandle" ∧ (parseMethodDescriptor y_Lat_charAt.desc).map (fun d => d.parameters.length) = some 2 := by decide +kernel
theorem d_Lat_charAt_0 : decode prog_19_method_2_code 0 = .ok (.iload_n 1, 1) := by decide +kernel
theorem d_Lat_charAt_1 : decode prog_19_method_2_code 1 = .ok (.aload_n 0, 1) := by decide +kernel
theorem d_Lat_charAt_2 : decode prog_19_method_2_code 2 = .ok (.arraylength, 1) := by decide +kernel
theorem d_Lat_charAt_3 : decode prog_19_method_2_code 3 = .ok (.invokestatic 9, 3) := by decide +kernel
theorem d_Lat_charAt_6 : decode prog_19_method_2_code 6 = .ok (.aload_n 0, 1) := by decide +kernel
theorem d_Lat_charAt_7 : decode prog_19_method_2_code 7 = .ok (.iload_n 1, 1) := by decide +kernel
theorem d_Lat_charAt_8 : decode prog_19_method_2_code 8 = .ok (.baload, 1) := by decide +kernel
theorem d_Lat_charAt_9 : decode prog_19_method_2_code 9 = .ok (.sipush 255, 3) := by decide +kernel
theorem d_Lat_charAt_12 : decode prog_19_method_2_code 12 = .ok (.iand, 1) := by decide +kernel
theorem d_Lat_charAt_13 : decode prog_19_method_2_code 13 = .ok (.i2c, 1) := by decide +kernel
theorem d_Lat_charAt_14 : decode prog_19_method_2_code 14 = .ok (.ireturn, 1) := by decide +kernel
def f_Lat_charAt (x0 : Nat) (x1 : Int32) : Option (Int32) :=
  (f_Str_checkIndex x1 (nI (zx_len.getD x0 0))).bind fun u_1 =>
  if zz_in x1 (zx_len.getD x0 0) = true then
  if zz_ch (((((zx_byt.getD x0 []).getD x1.toNatClampNeg 0) &&& 255).toUInt32 % 65536).toInt32) = true then
  some (((((zx_byt.getD x0 []).getD x1.toNatClampNeg 0) &&& 255).toUInt32 % 65536).toInt32)
  else none
  else none
set_option maxHeartbeats 4000000 in
set_option maxRecDepth 100000 in
theorem c_Lat_charAt (l : Launch) (dC : Nat → ClassId) (dI : Nat → Nat → Nat) (cI cC cB cJ : ClassId) (adF : Nat → Nat) (tp : Nat) (adK adV : Nat → Nat) (sz : Nat) (x0 : Nat) (x1 : Int32) (he_x0 : x0 < 3) (u : Int32) (hf : f_Lat_charAt x0 x1 = some u) : Met l y_Lat_charAt ws_Lat_charAt rm_Lat_charAt (zz_P (zx_E adF tp adK adV) (dC, dI) vwCl (zz_tys cI cC cB cJ) [.ref (adV x0), .int x1] [] sz) (zz_Qi (dC, dI) vwCl u [] (va_A [] sz)) 0 0 (va_A [] sz) := by
  refine va_MetF (cc := prog_19_method_2_code) (maxL := 2) (ret := (some .char)) (by decide +kernel) rfl ?_
  intro p e s m args below meth c s₁ B hml hv
  obtain ⟨rfl, hsz, hP, hK, hD0, hX⟩ := hv
  have hx := B.exec
  have hb := B.bytes
  have hr := B.returns
  have hts := atoms_spec (ws := ws_Lat_charAt) B.pre
  have hw : ∀ w ∈ zw, w.before [.ref (adV x0), .int x1].toArray s = true := fun w h => hts w (List.mem_cons_of_mem _ h)
  have hown : s.vm.findClass R_Lat = some m.cls := findClass_of_methodNamed B.named
  have hlocks := B.notSynchronized
  subst hsz
  have hD := hD0.self (sz := s.heap.size)
  generalize hAe : va_A [] s.heap.size = A at hD hX ⊢
  have hA : ∀ q : Nat, s.heap.size ≤ q → A q := fun q h => by rw [← hAe]; exact Or.inr h
  have hS : va_S A s.heap s.heap [] := va_S.rf
  have hl := lv_entry [.ref (adV x0), .int x1] (n := 2) (Nat.le_of_ble_eq_true rfl)
  rw [lg_entry_eq]
  generalize (lg_sl [.ref (adV x0), .int x1] ++ List.replicate (2 - (lg_sl [.ref (adV x0), .int x1]).length) Slot.unset).toArray = ls at hl ⊢
  have hl : lv_has ls 2 [(0, .ref (adV x0)), (1, .int x1)] := hl
  refine zz_endz hx hb hr hlocks (fun Qq hend => ?_)
  unfold f_Lat_charAt at hf
  refine lv_iload_n hx hb d_Lat_charAt_0 rfl (lv_at hl 1 rfl) ?_
  refine lv_aload_n hx hb d_Lat_charAt_1 rfl (lv_at hl 0 rfl) ?_
  refine va_tlen (v := nI (zx_len.getD x0 0)) hx hb ((hX.2.2.2.1.1 x0 he_x0).2.2.2) hS rfl d_Lat_charAt_2 ?_
  obtain ⟨u_1, hu_1, hf⟩ := zz_bd hf
  refine zz_cv (ws' := []) (wc := []) (w' := []) hP hD hS hA [] [] [] rfl rfl (by decide) (by decide) rfl (by decide) (va_runS (As := [.int x1, .int (nI (zx_len.getD x0 0))]) (rest := []) ⟨hx, hb, hml, hown, hw⟩ (c_Str_checkIndex l dC dI cI cC cB cJ adF tp adK adV _ x1 (nI (zx_len.getD x0 0)) u_1 hu_1) (va_cwS 2 hw (zg_S wd_252 wd_253 wd_18 wd_254) rfl rfl rfl hd_Str_checkIndex ⟨Nat.le_of_ble_eq_true rfl, Nat.le_of_ble_eq_true rfl⟩) (zz_preS (zx_ok adF tp adK adV) hP hD hK hS hA hX [] rfl (by decide)) rfl rfl hl.1 rfl (lv_room (Nat.le_of_ble_eq_true rfl)) d_Lat_charAt_3 ⟨Nat.zero_le _, Nat.zero_le _⟩) (fun H locs hP hD hS => ?_)
  refine lv_aload_n hx hb d_Lat_charAt_6 rfl (lv_at hl 0 rfl) ?_
  refine lv_iload_n hx hb d_Lat_charAt_7 rfl (lv_at hl 1 rfl) ?_
  obtain ⟨hb_2, hf⟩ := zz_gd hf
  refine va_tb hx hb ((hX.2.2.2.1.1 x0 he_x0).2.2.2) hS (zz_vp hb_2) rfl d_Lat_charAt_8 ?_
  refine lv_sipush (v := 255) hx hb d_Lat_charAt_9 (by decide) ?_
  refine lv_iand hx hb d_Lat_charAt_12 ?_
  refine lv_i2c hx hb d_Lat_charAt_13 rfl ?_
  obtain ⟨hn, hf⟩ := zz_gd hf
  cases hf
  exact hend 14 ls _ _ (zz_nar_char hn) d_Lat_charAt_14 hP hD hS
abbrev ws_Str_charAt : List Cond := .code y_Str_charAt prog_18_method_56_code 2 (some .char) :: zw
abbrev rm_Str_charAt : Room := { frames := 3, cells := 0, slots := 0, locals := 64 }
theorem hd_Str_charAt : y_Str_charAt.cls = "java/lang/String" ∧ y_Str_charAt.cls ≠ "java/lang/invoke/MethodHandle" ∧ y_Str_charAt.cls ≠ "java/lang/invoke/VarHandle" ∧ (parseMethodDescriptor y_Str_charAt.desc).map (fun d => d.parameters.length) = some 1 := by decide +kernel
theorem d_Str_charAt_0 : decode prog_18_method_56_code 0 = .ok (.aload_n 0, 1) := by decide +kernel
theorem d_Str_charAt_1 : decode prog_18_method_56_code 1 = .ok (.invokevirtual 492, 3) := by decide +kernel
theorem d_Str_charAt_4 : decode prog_18_method_56_code 4 = .ok (.ifCond .eq 12, 3) := by decide +kernel
theorem d_Str_charAt_7 : decode prog_18_method_56_code 7 = .ok (.aload_n 0, 1) := by decide +kernel
theorem d_Str_charAt_8 : decode prog_18_method_56_code 8 = .ok (.getfield 9, 3) := by decide +kernel
theorem d_Str_charAt_11 : decode prog_18_method_56_code 11 = .ok (.iload_n 1, 1) := by decide +kernel
theorem d_Str_charAt_12 : decode prog_18_method_56_code 12 = .ok (.invokestatic 495, 3) := by decide +kernel
theorem d_Str_charAt_15 : decode prog_18_method_56_code 15 = .ok (.ireturn, 1) := by decide +kernel
def f_Str_charAt (x0 : Nat) (x1 : Int32) : Option (Int32) :=
  (f_Str_isLatin1 x0).bind fun u_1 =>
  (if u_1 = 0 then
  none
  else
  (f_Lat_charAt x0 x1).bind fun u_2 =>
  if zz_ch u_2 = true then
  some (u_2)
  else none)
set_option maxHeartbeats 4000000 in
set_option maxRecDepth 100000 in
theorem c_Str_charAt (l : Launch) (dC : Nat → ClassId) (dI : Nat → Nat → Nat) (cI cC cB cJ : ClassId) (adF : Nat → Nat) (tp : Nat) (adK adV : Nat → Nat) (sz : Nat) (x0 : Nat) (x1 : Int32) (he_x0 : x0 < 3) (u : Int32) (hf : f_Str_charAt x0 x1 = some u) : Met l y_Str_charAt ws_Str_charAt rm_Str_charAt (zz_P (zx_E adF tp adK adV) (dC, dI) vwCl (zz_tys cI cC cB cJ) [.ref (adK x0), .int x1] [] sz) (zz_Qi (dC, dI) vwCl u [] (va_A [] sz)) 0 0 (va_A [] sz) := by
  refine va_MetF (cc := prog_18_method_56_code) (maxL := 2) (ret := (some .char)) (by decide +kernel) rfl ?_
  intro p e s m args below meth c s₁ B hml hv
  obtain ⟨rfl, hsz, hP, hK, hD0, hX⟩ := hv
  have hx := B.exec
  have hb := B.bytes
  have hr := B.returns
  have hts := atoms_spec (ws := ws_Str_charAt) B.pre
  have hw : ∀ w ∈ zw, w.before [.ref (adK x0), .int x1].toArray s = true := fun w h => hts w (List.mem_cons_of_mem _ h)
  have hown : s.vm.findClass R_Str = some m.cls := findClass_of_methodNamed B.named
  have hlocks := B.notSynchronized
  subst hsz
  have hD := hD0.self (sz := s.heap.size)
  generalize hAe : va_A [] s.heap.size = A at hD hX ⊢
  have hA : ∀ q : Nat, s.heap.size ≤ q → A q := fun q h => by rw [← hAe]; exact Or.inr h
  have hS : va_S A s.heap s.heap [] := va_S.rf
  have hl := lv_entry [.ref (adK x0), .int x1] (n := 2) (Nat.le_of_ble_eq_true rfl)
  rw [lg_entry_eq]
  generalize (lg_sl [.ref (adK x0), .int x1] ++ List.replicate (2 - (lg_sl [.ref (adK x0), .int x1]).length) Slot.unset).toArray = ls at hl ⊢
  have hl : lv_has ls 2 [(0, .ref (adK x0)), (1, .int x1)] := hl
  refine zz_endz hx hb hr hlocks (fun Qq hend => ?_)
  unfold f_Str_charAt at hf
  refine lv_aload_n hx hb d_Str_charAt_0 rfl (lv_at hl 0 rfl) ?_
  obtain ⟨u_1, hu_1, hf⟩ := zz_bd hf
  refine zz_ci (ws' := []) (wc := []) (w' := []) hP hD hS hA [] [] [] rfl rfl (by decide) (by decide) rfl (by decide) (va_runV (As := []) (rest := []) ⟨hx, hb, hml, hown, hw⟩ (c_Str_isLatin1 l dC dI cI cC cB cJ adF tp adK adV _ x0 he_x0 u_1 hu_1) (cwV 0 hw (zg_V wd_245 wd_246 wd_247 wd_18 wd_248) rfl rfl rfl hd_Str_isLatin1 ⟨Nat.le_of_ble_eq_true rfl, Nat.le_of_ble_eq_true rfl⟩) (zz_preV (zx_ok adF tp adK adV) (vk_recv hX.2.2.2.1 he_x0 hS) hP hD hK hS hA hX [] rfl (by decide)) rfl rfl hl.1 rfl (lv_room (Nat.le_of_ble_eq_true rfl)) d_Str_charAt_1 ⟨Nat.zero_le _, Nat.zero_le _⟩) (fun H locs hP hD hS => ?_)
  refine lv_if_eq (tgt := 16) hx hb d_Str_charAt_4 (by decide) (fun hc => ?_) (fun hc => ?_)
  · have hf := zz_ifp hc hf
    exact zz_no hf
  · have hf := zz_ifn hc hf
    refine lv_aload_n hx hb d_Str_charAt_7 rfl (lv_at hl 0 rfl) ?_
    refine vk_getf hx hb ((hX.2.2.2.1.1 x0 he_x0).2.2.1) hS hown (hw _ wd_919) (fun _ h9 => h9) d_Str_charAt_8 ?_
    refine lv_iload_n hx hb d_Str_charAt_11 rfl (lv_at hl 1 rfl) ?_
    obtain ⟨u_2, hu_2, hf⟩ := zz_bd hf
    refine zz_ci (ws' := []) (wc := []) (w' := []) hP hD hS hA [] [] [] rfl rfl (by decide) (by decide) rfl (by decide) (va_runS (As := [.ref (adV x0), .int x1]) (rest := []) ⟨hx, hb, hml, hown, hw⟩ (c_Lat_charAt l dC dI cI cC cB cJ adF tp adK adV _ x0 x1 he_x0 u_2 hu_2) (va_cwS 2 hw (zg_S wd_249 wd_250 wd_19 wd_251) rfl rfl rfl hd_Lat_charAt ⟨Nat.le_of_ble_eq_true rfl, Nat.le_of_ble_eq_true rfl⟩) (zz_preS (zx_ok adF tp adK adV) hP hD hK hS hA hX [] rfl (by decide)) rfl rfl hl.1 rfl (lv_room (Nat.le_of_ble_eq_true rfl)) d_Str_charAt_12 ⟨Nat.zero_le _, Nat.zero_le _⟩) (fun H locs hP hD hS => ?_)
    obtain ⟨hn, hf⟩ := zz_gd hf
    cases hf
    exact hend 15 ls _ _ (zz_nar_char hn) d_Str_charAt_15 hP hD hS
abbrev ws_Row_putAll : List Cond := .code y_Row_putAll prog_7_method_5_code 3 none :: zw
abbrev rm_Row_putAll : Room := { frames := 4, cells := 0, slots := 0, locals := 85 }
theorem hd_Row_putAll : y_Row_putAll.cls = "RealText$Row" ∧ y_Row_putAll.cls ≠ "java/lang/invoke/MethodHandle" ∧ y_Row_putAll.cls ≠ "java/lang/invoke/VarHandle" ∧ (parseMethodDescriptor y_Row_putAll.desc).map (fun d => d.parameters.length) = some 1 := by decide +kernel
theorem d_Row_putAll_0 : decode prog_7_method_5_code 0 = .ok (.iconst 0, 1) := by decide +kernel
theorem d_Row_putAll_1 : decode prog_7_method_5_code 1 = .ok (.istore_n 2, 1) := by decide +kernel
theorem d_Row_putAll_2 : decode prog_7_method_5_code 2 = .ok (.iload_n 2, 1) := by decide +kernel
theorem d_Row_putAll_3 : decode prog_7_method_5_code 3 = .ok (.aload_n 1, 1) := by decide +kernel
theorem d_Row_putAll_4 : decode prog_7_method_5_code 4 = .ok (.invokevirtual 20, 3) := by decide +kernel
theorem d_Row_putAll_7 : decode prog_7_method_5_code 7 = .ok (.if_icmp .ge 18, 3) := by decide +kernel
theorem d_Row_putAll_10 : decode prog_7_method_5_code 10 = .ok (.aload_n 0, 1) := by decide +kernel
theorem d_Row_putAll_11 : decode prog_7_method_5_code 11 = .ok (.aload_n 1, 1) := by decide +kernel
theorem d_Row_putAll_12 : decode prog_7_method_5_code 12 = .ok (.iload_n 2, 1) := by decide +kernel
theorem d_Row_putAll_13 : decode prog_7_method_5_code 13 = .ok (.invokevirtual 26, 3) := by decide +kernel
theorem d_Row_putAll_16 : decode prog_7_method_5_code 16 = .ok (.invokevirtual 30, 3) := by decide +kernel
theorem d_Row_putAll_19 : decode prog_7_method_5_code 19 = .ok (.iinc 2 1, 3) := by decide +kernel
theorem d_Row_putAll_22 : decode prog_7_method_5_code 22 = .ok (.goto (-20), 3) := by decide +kernel
theorem d_Row_putAll_25 : decode prog_7_method_5_code 25 = .ok (.return_, 1) := by decide +kernel
def f_Row_putAll_2 (fu : Nat) (n_v_letters : Nat) (x1 : Nat)  : Nat → Int32 → Int32 → (Nat → Int32) → Option (Int32 × (Nat → Int32))
  | 0, _, _, _ => none
  | n + 1, y2, v_end, v_letters_a =>
  (f_Str_length x1).bind fun u_1 =>
  (if u_1 ≤ y2 then
  some (v_end, v_letters_a)
  else
  (f_Str_charAt x1 y2).bind fun u_2 =>
  (f_Row_put n_v_letters u_2 v_end v_letters_a).bind fun u_3 =>
  f_Row_putAll_2 fu n_v_letters x1 n (y2 + 1) u_3.1 u_3.2)
theorem f_Row_putAll_2_s (fu : Nat) (n_v_letters : Nat) (x1 : Nat)  (n : Nat) (y2 : Int32) (v_end : Int32) (v_letters_a : Nat → Int32) : f_Row_putAll_2 fu n_v_letters x1 (n + 1) y2 v_end v_letters_a =
  (f_Str_length x1).bind fun u_1 =>
  (if u_1 ≤ y2 then
  some (v_end, v_letters_a)
  else
  (f_Str_charAt x1 y2).bind fun u_2 =>
  (f_Row_put n_v_letters u_2 v_end v_letters_a).bind fun u_3 =>
  f_Row_putAll_2 fu n_v_letters x1 n (y2 + 1) u_3.1 u_3.2) := rfl
def f_Row_putAll (fu : Nat) (n_v_letters : Nat) (x1 : Nat) (v_end : Int32) (v_letters_a : Nat → Int32) : Option (Int32 × (Nat → Int32)) :=
  f_Row_putAll_2 fu n_v_letters x1 fu 0 v_end v_letters_a
set_option maxHeartbeats 4000000 in
set_option maxRecDepth 100000 in
theorem c_Row_putAll (l : Launch) (dC : Nat → ClassId) (dI : Nat → Nat → Nat) (cI cC cB cJ : ClassId) (adF : Nat → Nat) (tp : Nat) (adK adV : Nat → Nat) (fu : Nat) (sz : Nat) (h_v : Nat) (h_v_letters : Nat) (n_v_letters : Nat) (x1 : Nat) (v_start : Int32) (v_end : Int32) (v_letters_a : Nat → Int32) (he_x1 : x1 < 3) (u : Int32 × (Nat → Int32)) (hf : f_Row_putAll fu n_v_letters x1 v_end v_letters_a = some u) : Met l y_Row_putAll ws_Row_putAll rm_Row_putAll (zz_P (zx_E adF tp adK adV) (dC, dI) vwCl (zz_tys cI cC cB cJ) [.ref h_v, .ref (adK x1)] [(h_v, .inr (4, [.ref h_v_letters, .int v_start, .int v_end])), (h_v_letters, .inl (cC, n_v_letters, .inl v_letters_a))] sz) (zz_Qv (dC, dI) vwCl [(h_v, .inr (4, [.ref h_v_letters, .int v_start, .int u.1])), (h_v_letters, .inl (cC, n_v_letters, .inl u.2))] (va_A [(h_v, .inr (4, [.ref h_v_letters, .int v_start, .int v_end])), (h_v_letters, .inl (cC, n_v_letters, .inl v_letters_a))] sz)) 0 0 (va_A [(h_v, .inr (4, [.ref h_v_letters, .int v_start, .int v_end])), (h_v_letters, .inl (cC, n_v_letters, .inl v_letters_a))] sz) := by
  refine Met.ofW (cc := prog_7_method_5_code) (maxL := 3) (ret := none) (by decide +kernel) rfl ?_
  intro p e s m args below meth c s₁ B hml hv
  obtain ⟨rfl, hsz, hP, hK, hD0, hX⟩ := hv
  have hx := B.exec
  have hb := B.bytes
  have hr := B.returns
  have hts := atoms_spec (ws := ws_Row_putAll) B.pre
  have hw : ∀ w ∈ zw, w.before [.ref h_v, .ref (adK x1)].toArray s = true := fun w h => hts w (List.mem_cons_of_mem _ h)
  have hown : s.vm.findClass R_Row = some m.cls := findClass_of_methodNamed B.named
  have hlocks := B.notSynchronized
  subst hsz
  have hD := hD0.self (sz := s.heap.size)
  generalize hAe : va_A [(h_v, .inr (4, [.ref h_v_letters, .int v_start, .int v_end])), (h_v_letters, .inl (cC, n_v_letters, .inl v_letters_a))] s.heap.size = A at hD hX ⊢
  have hA : ∀ q : Nat, s.heap.size ≤ q → A q := fun q h => by rw [← hAe]; exact Or.inr h
  have hS : va_S A s.heap s.heap [] := va_S.rf
  have hl := lv_entry [.ref h_v, .ref (adK x1)] (n := 3) (Nat.le_of_ble_eq_true rfl)
  rw [lg_entry_eq]
  generalize (lg_sl [.ref h_v, .ref (adK x1)] ++ List.replicate (3 - (lg_sl [.ref h_v, .ref (adK x1)]).length) Slot.unset).toArray = ls at hl ⊢
  have hl : lv_has ls 3 [(0, .ref h_v), (1, .ref (adK x1))] := hl
  refine zz_endv hx hb hr hlocks (fun Qq hend => ?_)
  have hL_2 : ∀ (n : Nat), ∀ (y2 : Int32) (v_end : Int32) (v_letters_a : Nat → Int32) (ls : Array Slot) (H : Heap) (locs : List Loc), lv_has ls 3 [(0, .ref h_v), (1, .ref (adK x1)), (2, .int y2)] → va_P (dC, dI) vwCl [(h_v, .inr (4, [.ref h_v_letters, .int v_start, .int v_end])), (h_v_letters, .inl (cC, n_v_letters, .inl v_letters_a))] H → va_D A [(h_v, .inr (4, [.ref h_v_letters, .int v_start, .int v_end])), (h_v_letters, .inl (cC, n_v_letters, .inl v_letters_a))] → va_S A s.heap H locs → f_Row_putAll_2 fu n_v_letters x1 n y2 v_end v_letters_a = some u → W p l e (headSpec ws_Row_putAll rm_Row_putAll).room s m [.ref h_v, .ref (adK x1)].toArray below meth c H locs 0 0 Qq (F0 m 2 ls []) := by
    intro n
    induction n with
    | zero =>
      intro y2 v_end v_letters_a ls H locs hl hP hD hS hf
      exact zz_no hf
    | succ n ih =>
      intro y2 v_end v_letters_a ls H locs hl hP hD hS hf
      rw [f_Row_putAll_2_s] at hf
      refine lv_iload_n hx hb d_Row_putAll_2 rfl (lv_at hl 2 rfl) ?_
      refine lv_aload_n hx hb d_Row_putAll_3 rfl (lv_at hl 1 rfl) ?_
      obtain ⟨u_1, hu_1, hf⟩ := zz_bd hf
      refine zz_ci (ws' := [(h_v, .inr (4, [.ref h_v_letters, .int v_start, .int v_end])), (h_v_letters, .inl (cC, n_v_letters, .inl v_letters_a))]) (wc := []) (w' := []) hP hD hS hA [] [0, 1] [0, 1] rfl rfl (by decide) (by decide) rfl (by decide) (va_runV (As := []) (rest := [.int y2]) ⟨hx, hb, hml, hown, hw⟩ (c_Str_length l dC dI cI cC cB cJ adF tp adK adV _ x1 he_x1 u_1 hu_1) (cwV 0 hw (zg_V wd_231 wd_232 wd_233 wd_18 wd_234) rfl rfl rfl hd_Str_length ⟨Nat.le_of_ble_eq_true rfl, Nat.le_of_ble_eq_true rfl⟩) (zz_preV (zx_ok adF tp adK adV) (vk_recv hX.2.2.2.1 he_x1 hS) hP hD hK hS hA hX [] rfl (by decide)) rfl rfl hl.1 rfl (lv_room (Nat.le_of_ble_eq_true rfl)) d_Row_putAll_4 ⟨Nat.zero_le _, Nat.zero_le _⟩) (fun H locs hP hD hS => ?_)
      refine lv_icmp_ge (tgt := 25) hx hb d_Row_putAll_7 (by decide) (fun hc => ?_) (fun hc => ?_)
      · have hf := zz_ifp hc hf
        cases hf
        exact hend 25 ls _ _ d_Row_putAll_25 hP hD hS
      · have hf := zz_ifn hc hf
        refine lv_aload_n hx hb d_Row_putAll_10 rfl (lv_at hl 0 rfl) ?_
        refine lv_aload_n hx hb d_Row_putAll_11 rfl (lv_at hl 1 rfl) ?_
        refine lv_iload_n hx hb d_Row_putAll_12 rfl (lv_at hl 2 rfl) ?_
        obtain ⟨u_2, hu_2, hf⟩ := zz_bd hf
        refine zz_ci (ws' := [(h_v, .inr (4, [.ref h_v_letters, .int v_start, .int v_end])), (h_v_letters, .inl (cC, n_v_letters, .inl v_letters_a))]) (wc := []) (w' := []) hP hD hS hA [] [0, 1] [0, 1] rfl rfl (by decide) (by decide) rfl (by decide) (va_runV (As := [.int y2]) (rest := [.ref h_v]) ⟨hx, hb, hml, hown, hw⟩ (c_Str_charAt l dC dI cI cC cB cJ adF tp adK adV _ x1 y2 he_x1 u_2 hu_2) (cwV 1 hw (zg_V wd_241 wd_242 wd_243 wd_18 wd_244) rfl rfl rfl hd_Str_charAt ⟨Nat.le_of_ble_eq_true rfl, Nat.le_of_ble_eq_true rfl⟩) (zz_preV (zx_ok adF tp adK adV) (vk_recv hX.2.2.2.1 he_x1 hS) hP hD hK hS hA hX [] rfl (by decide)) rfl rfl hl.1 rfl (lv_room (Nat.le_of_ble_eq_true rfl)) d_Row_putAll_13 ⟨Nat.zero_le _, Nat.zero_le _⟩) (fun H locs hP hD hS => ?_)
        obtain ⟨u_3, hu_3, hf⟩ := zz_bd hf
        refine zz_cv (ws' := [(h_v, .inr (4, [.ref h_v_letters, .int v_start, .int u_3.1])), (h_v_letters, .inl (cC, n_v_letters, .inl u_3.2))]) (wc := [(h_v, .inr (4, [.ref h_v_letters, .int v_start, .int v_end])), (h_v_letters, .inl (cC, n_v_letters, .inl v_letters_a))]) (w' := [(h_v, .inr (4, [.ref h_v_letters, .int v_start, .int u_3.1])), (h_v_letters, .inl (cC, n_v_letters, .inl u_3.2))]) hP hD hS hA [0, 1] [] [0, 1] rfl rfl (by decide) (by decide) rfl (by decide) (va_runV (As := [.int u_2]) (rest := []) ⟨hx, hb, hml, hown, hw⟩ (c_Row_put l dC dI cI cC cB cJ _ h_v h_v_letters n_v_letters u_2 v_start v_end v_letters_a u_3 hu_3) (cwV 1 hw (zg_V wd_279 wd_280 wd_281 wd_2 wd_282) rfl rfl rfl hd_Row_put ⟨Nat.le_of_ble_eq_true rfl, Nat.le_of_ble_eq_true rfl⟩) (zz_preV zz_TE (va_recv (q0 := 0) (ci := 4) hK hP rfl rfl) hP hD hK hS hA trivial [0, 1] rfl (by decide)) rfl rfl hl.1 rfl (lv_room (Nat.le_of_ble_eq_true rfl)) d_Row_putAll_16 ⟨Nat.zero_le _, Nat.zero_le _⟩) (fun H locs hP hD hS => ?_)
        refine lv_iinc (k := 2) (v := y2 + 1) hx hb d_Row_putAll_19 hl rfl rfl (by decide) rfl (fun ls hl => ?_)
        have hl : lv_has ls 3 [(2, .int (y2 + 1)), (0, .ref h_v), (1, .ref (adK x1))] := hl
        refine lv_goto (tgt := 2) hx hb d_Row_putAll_22 (by decide) ?_
        exact ih (y2 + 1) u_3.1 u_3.2 ls _ _ (lv_sub hl [1, 2, 0] rfl) hP hD hS hf
  unfold f_Row_putAll at hf
  refine lv_iconst (v := 0) hx hb d_Row_putAll_0 (by decide) ?_
  refine lv_istore_n hx hb d_Row_putAll_1 rfl hl (by decide) rfl (fun ls hl => ?_)
  have hl : lv_has ls 3 [(2, .int 0), (0, .ref h_v), (1, .ref (adK x1))] := hl
  exact hL_2 fu 0 v_end v_letters_a ls _ _ (lv_sub hl [1, 2, 0] rfl) hP hD hS hf
