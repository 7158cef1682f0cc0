abbrev ws_Fmt_infinity : List Cond := .code y_Fmt_infinity prog_4_method_4_code 1 (some .long) :: zw
abbrev rm_Fmt_infinity : Room := { frames := 0, cells := 0, slots := 0, locals := 0 }
theorem hd_Fmt_infinity : y_Fmt_infinity.cls = "RealText$Format" ∧ y_Fmt_infinity.cls ≠ "java/lang/invoke/MethodHandle" ∧ y_Fmt_infinity.cls ≠ "java/lang/invoke/VarHandle" ∧ (parseMethodDescriptor y_Fmt_infinity.desc).map (fun d => d.parameters.length) = some 0 := by decide +kernel
theorem d_Fmt_infinity_0 : decode prog_4_method_4_code 0 = .ok (.aload_n 0, 1) := by decide +kernel
theorem d_Fmt_infinity_1 : decode prog_4_method_4_code 1 = .ok (.getfield 35, 3) := by decide +kernel
theorem d_Fmt_infinity_4 : decode prog_4_method_4_code 4 = .ok (.i2l, 1) := by decide +kernel
theorem d_Fmt_infinity_5 : decode prog_4_method_4_code 5 = .ok (.aload_n 0, 1) := by decide +kernel
theorem d_Fmt_infinity_6 : decode prog_4_method_4_code 6 = .ok (.getfield 31, 3) := by decide +kernel
theorem d_Fmt_infinity_9 : decode prog_4_method_4_code 9 = .ok (.lshl, 1) := by decide +kernel
theorem d_Fmt_infinity_10 : decode prog_4_method_4_code 10 = .ok (.lreturn, 1) := by decide +kernel
def f_Fmt_infinity (x0 : Nat) : Option (Int64) :=
  some (((zx_exponentMask x0).toInt64) <<< ((zx_fractionBits x0).toInt64 &&& 63))
set_option maxHeartbeats 4000000 in
set_option maxRecDepth 100000 in
theorem c_Fmt_infinity (l : Launch) (dC : Nat → ClassId) (dI : Nat → Nat → Nat) (cI cC cB cJ : ClassId) (adF : Nat → Nat) (tp : Nat) (adK adV : Nat → Nat) (sz : Nat) (x0 : Nat) (he_x0 : x0 < 2) (u : Int64) (hf : f_Fmt_infinity x0 = some u) : Met l y_Fmt_infinity ws_Fmt_infinity rm_Fmt_infinity (zz_P (zx_E adF tp adK adV) (dC, dI) vwCl (zz_tys cI cC cB cJ) [.ref (adF x0)] [] sz) (zz_Ql (dC, dI) vwCl u [] (va_A [] sz)) 0 0 (va_A [] sz) := by
  refine Met.ofW (cc := prog_4_method_4_code) (maxL := 1) (ret := (some .long)) (by decide +kernel) rfl ?_
  intro p e s m args below meth c s₁ B hml hv
  obtain ⟨rfl, hsz, hP, hK, hD0, hX⟩ := hv
  have hx := B.exec
  have hb := B.bytes
  have hr := B.returns
  have hts := atoms_spec (ws := ws_Fmt_infinity) B.pre
  have hw : ∀ w ∈ zw, w.before [.ref (adF x0)].toArray s = true := fun w h => hts w (List.mem_cons_of_mem _ h)
  have hown : s.vm.findClass R_Fmt = some m.cls := findClass_of_methodNamed B.named
  have hlocks := B.notSynchronized
  subst hsz
  have hD := hD0.self (sz := s.heap.size)
  generalize hAe : va_A [] s.heap.size = A at hD hX ⊢
  have hA : ∀ q : Nat, s.heap.size ≤ q → A q := fun q h => by rw [← hAe]; exact Or.inr h
  have hS : va_S A s.heap s.heap [] := va_S.rf
  have hl := lv_entry [.ref (adF x0)] (n := 1) (Nat.le_of_ble_eq_true rfl)
  rw [lg_entry_eq]
  generalize (lg_sl [.ref (adF x0)] ++ List.replicate (1 - (lg_sl [.ref (adF x0)]).length) Slot.unset).toArray = ls at hl ⊢
  have hl : lv_has ls 1 [(0, .ref (adF x0))] := hl
  refine zz_endl hx hb hr hlocks (fun Qq hend => ?_)
  unfold f_Fmt_infinity at hf
  refine lv_aload_n hx hb d_Fmt_infinity_0 rfl (lv_at hl 0 rfl) ?_
  refine va_getE (q := zx_q1) hx hb hX.1 he_x0 hS hown zx_m1 (hw _ wd_918) (fun _ h9 => h9) d_Fmt_infinity_1 ?_
  refine lv_i2l hx hb d_Fmt_infinity_4 rfl ?_
  refine lv_aload_n hx hb d_Fmt_infinity_5 rfl (lv_at hl 0 rfl) ?_
  refine va_getE (q := zx_q0) hx hb hX.1 he_x0 hS hown zx_m0 (hw _ wd_916) (fun _ h9 => h9) d_Fmt_infinity_6 ?_
  refine lv_lshl hx hb d_Fmt_infinity_9 rfl ?_
  cases hf
  exact hend 10 ls _ _ d_Fmt_infinity_10 hP hD hS
abbrev ws_Fmt_hiddenBit : List Cond := .code y_Fmt_hiddenBit prog_4_method_7_code 1 (some .long) :: zw
abbrev rm_Fmt_hiddenBit : Room := { frames := 0, cells := 0, slots := 0, locals := 0 }
theorem hd_Fmt_hiddenBit : y_Fmt_hiddenBit.cls = "RealText$Format" ∧ y_Fmt_hiddenBit.cls ≠ "java/lang/invoke/MethodHandle" ∧ y_Fmt_hiddenBit.cls ≠ "java/lang/invoke/VarHandle" ∧ (parseMethodDescriptor y_Fmt_hiddenBit.desc).map (fun d => d.parameters.length) = some 0 := by decide +kernel
theorem d_Fmt_hiddenBit_0 : decode prog_4_method_7_code 0 = .ok (.lconst 1, 1) := by decide +kernel
theorem d_Fmt_hiddenBit_1 : decode prog_4_method_7_code 1 = .ok (.aload_n 0, 1) := by decide +kernel
theorem d_Fmt_hiddenBit_2 : decode prog_4_method_7_code 2 = .ok (.getfield 31, 3) := by decide +kernel
theorem d_Fmt_hiddenBit_5 : decode prog_4_method_7_code 5 = .ok (.lshl, 1) := by decide +kernel
theorem d_Fmt_hiddenBit_6 : decode prog_4_method_7_code 6 = .ok (.lreturn, 1) := by decide +kernel
def f_Fmt_hiddenBit (x0 : Nat) : Option (Int64) :=
  some (1 <<< ((zx_fractionBits x0).toInt64 &&& 63))
set_option maxHeartbeats 4000000 in
set_option maxRecDepth 100000 in
theorem c_Fmt_hiddenBit (l : Launch) (dC : Nat → ClassId) (dI : Nat → Nat → Nat) (cI cC cB cJ : ClassId) (adF : Nat → Nat) (tp : Nat) (adK adV : Nat → Nat) (sz : Nat) (x0 : Nat) (he_x0 : x0 < 2) (u : Int64) (hf : f_Fmt_hiddenBit x0 = some u) : Met l y_Fmt_hiddenBit ws_Fmt_hiddenBit rm_Fmt_hiddenBit (zz_P (zx_E adF tp adK adV) (dC, dI) vwCl (zz_tys cI cC cB cJ) [.ref (adF x0)] [] sz) (zz_Ql (dC, dI) vwCl u [] (va_A [] sz)) 0 0 (va_A [] sz) := by
  refine Met.ofW (cc := prog_4_method_7_code) (maxL := 1) (ret := (some .long)) (by decide +kernel) rfl ?_
  intro p e s m args below meth c s₁ B hml hv
  obtain ⟨rfl, hsz, hP, hK, hD0, hX⟩ := hv
  have hx := B.exec
  have hb := B.bytes
  have hr := B.returns
  have hts := atoms_spec (ws := ws_Fmt_hiddenBit) B.pre
  have hw : ∀ w ∈ zw, w.before [.ref (adF x0)].toArray s = true := fun w h => hts w (List.mem_cons_of_mem _ h)
  have hown : s.vm.findClass R_Fmt = some m.cls := findClass_of_methodNamed B.named
  have hlocks := B.notSynchronized
  subst hsz
  have hD := hD0.self (sz := s.heap.size)
  generalize hAe : va_A [] s.heap.size = A at hD hX ⊢
  have hA : ∀ q : Nat, s.heap.size ≤ q → A q := fun q h => by rw [← hAe]; exact Or.inr h
  have hS : va_S A s.heap s.heap [] := va_S.rf
  have hl := lv_entry [.ref (adF x0)] (n := 1) (Nat.le_of_ble_eq_true rfl)
  rw [lg_entry_eq]
  generalize (lg_sl [.ref (adF x0)] ++ List.replicate (1 - (lg_sl [.ref (adF x0)]).length) Slot.unset).toArray = ls at hl ⊢
  have hl : lv_has ls 1 [(0, .ref (adF x0))] := hl
  refine zz_endl hx hb hr hlocks (fun Qq hend => ?_)
  unfold f_Fmt_hiddenBit at hf
  refine lv_lconst (v := 1) hx hb d_Fmt_hiddenBit_0 (by decide) ?_
  refine lv_aload_n hx hb d_Fmt_hiddenBit_1 rfl (lv_at hl 0 rfl) ?_
  refine va_getE (q := zx_q0) hx hb hX.1 he_x0 hS hown zx_m0 (hw _ wd_916) (fun _ h9 => h9) d_Fmt_hiddenBit_2 ?_
  refine lv_lshl hx hb d_Fmt_hiddenBit_5 rfl ?_
  cases hf
  exact hend 6 ls _ _ d_Fmt_hiddenBit_6 hP hD hS
abbrev ws_Fmt_fractionMask : List Cond := .code y_Fmt_fractionMask prog_4_method_8_code 1 (some .long) :: zw
abbrev rm_Fmt_fractionMask : Room := { frames := 1, cells := 0, slots := 0, locals := 20 }
theorem hd_Fmt_fractionMask : y_Fmt_fractionMask.cls = "RealText$Format" ∧ y_Fmt_fractionMask.cls ≠ "java/lang/invoke/MethodHandle" ∧ y_Fmt_fractionMask.cls ≠ "java/lang/invoke/VarHandle" ∧ (parseMethodDescriptor y_Fmt_fractionMask.desc).map (fun d => d.parameters.length) = some 0 := by decide +kernel
theorem d_Fmt_fractionMask_0 : decode prog_4_method_8_code 0 = .ok (.aload_n 0, 1) := by decide +kernel
theorem d_Fmt_fractionMask_1 : decode prog_4_method_8_code 1 = .ok (.invokevirtual 51, 3) := by decide +kernel
theorem d_Fmt_fractionMask_4 : decode prog_4_method_8_code 4 = .ok (.lconst 1, 1) := by decide +kernel
theorem d_Fmt_fractionMask_5 : decode prog_4_method_8_code 5 = .ok (.lsub, 1) := by decide +kernel
theorem d_Fmt_fractionMask_6 : decode prog_4_method_8_code 6 = .ok (.lreturn, 1) := by decide +kernel
def f_Fmt_fractionMask (x0 : Nat) : Option (Int64) :=
  (f_Fmt_hiddenBit x0).bind fun u_1 =>
  some (u_1 - 1)
set_option maxHeartbeats 4000000 in
set_option maxRecDepth 100000 in
theorem c_Fmt_fractionMask (l : Launch) (dC : Nat → ClassId) (dI : Nat → Nat → Nat) (cI cC cB cJ : ClassId) (adF : Nat → Nat) (tp : Nat) (adK adV : Nat → Nat) (sz : Nat) (x0 : Nat) (he_x0 : x0 < 2) (u : Int64) (hf : f_Fmt_fractionMask x0 = some u) : Met l y_Fmt_fractionMask ws_Fmt_fractionMask rm_Fmt_fractionMask (zz_P (zx_E adF tp adK adV) (dC, dI) vwCl (zz_tys cI cC cB cJ) [.ref (adF x0)] [] sz) (zz_Ql (dC, dI) vwCl u [] (va_A [] sz)) 0 0 (va_A [] sz) := by
  refine Met.ofW (cc := prog_4_method_8_code) (maxL := 1) (ret := (some .long)) (by decide +kernel) rfl ?_
  intro p e s m args below meth c s₁ B hml hv
  obtain ⟨rfl, hsz, hP, hK, hD0, hX⟩ := hv
  have hx := B.exec
  have hb := B.bytes
  have hr := B.returns
  have hts := atoms_spec (ws := ws_Fmt_fractionMask) B.pre
  have hw : ∀ w ∈ zw, w.before [.ref (adF x0)].toArray s = true := fun w h => hts w (List.mem_cons_of_mem _ h)
  have hown : s.vm.findClass R_Fmt = some m.cls := findClass_of_methodNamed B.named
  have hlocks := B.notSynchronized
  subst hsz
  have hD := hD0.self (sz := s.heap.size)
  generalize hAe : va_A [] s.heap.size = A at hD hX ⊢
  have hA : ∀ q : Nat, s.heap.size ≤ q → A q := fun q h => by rw [← hAe]; exact Or.inr h
  have hS : va_S A s.heap s.heap [] := va_S.rf
  have hl := lv_entry [.ref (adF x0)] (n := 1) (Nat.le_of_ble_eq_true rfl)
  rw [lg_entry_eq]
  generalize (lg_sl [.ref (adF x0)] ++ List.replicate (1 - (lg_sl [.ref (adF x0)]).length) Slot.unset).toArray = ls at hl ⊢
  have hl : lv_has ls 1 [(0, .ref (adF x0))] := hl
  refine zz_endl hx hb hr hlocks (fun Qq hend => ?_)
  unfold f_Fmt_fractionMask at hf
  refine lv_aload_n hx hb d_Fmt_fractionMask_0 rfl (lv_at hl 0 rfl) ?_
  obtain ⟨u_1, hu_1, hf⟩ := zz_bd hf
  refine zz_cl (ws' := []) (wc := []) (w' := []) hP hD hS hA [] [] [] rfl rfl (by decide) (by decide) rfl (by decide) (va_runV (As := []) (rest := []) ⟨hx, hb, hml, hown, hw⟩ (c_Fmt_hiddenBit l dC dI cI cC cB cJ adF tp adK adV _ x0 he_x0 u_1 hu_1) (cwV 0 hw (zg_V wd_217 wd_219 we_0_1 wd_15 wd_220) rfl rfl rfl hd_Fmt_hiddenBit ⟨Nat.le_of_ble_eq_true rfl, Nat.le_of_ble_eq_true rfl⟩) (zz_preV (zx_ok adF tp adK adV) (va_recvE hX.1 he_x0 hS) hP hD hK hS hA hX [] rfl (by decide)) rfl rfl hl.1 rfl (lv_room (Nat.le_of_ble_eq_true rfl)) d_Fmt_fractionMask_1 ⟨Nat.zero_le _, Nat.zero_le _⟩) (fun H locs hP hD hS => ?_)
  refine lv_lconst (v := 1) hx hb d_Fmt_fractionMask_4 (by decide) ?_
  refine lv_lsub hx hb d_Fmt_fractionMask_5 ?_
  cases hf
  exact hend 6 ls _ _ d_Fmt_fractionMask_6 hP hD hS
abbrev ws_Fmt_magnitudeMask : List Cond := .code y_Fmt_magnitudeMask prog_4_method_5_code 1 (some .long) :: zw
abbrev rm_Fmt_magnitudeMask : Room := { frames := 2, cells := 0, slots := 0, locals := 40 }
theorem hd_Fmt_magnitudeMask : y_Fmt_magnitudeMask.cls = "RealText$Format" ∧ y_Fmt_magnitudeMask.cls ≠ "java/lang/invoke/MethodHandle" ∧ y_Fmt_magnitudeMask.cls ≠ "java/lang/invoke/VarHandle" ∧ (parseMethodDescriptor y_Fmt_magnitudeMask.desc).map (fun d => d.parameters.length) = some 0 := by decide +kernel
theorem d_Fmt_magnitudeMask_0 : decode prog_4_method_5_code 0 = .ok (.aload_n 0, 1) := by decide +kernel
theorem d_Fmt_magnitudeMask_1 : decode prog_4_method_5_code 1 = .ok (.invokevirtual 41, 3) := by decide +kernel
theorem d_Fmt_magnitudeMask_4 : decode prog_4_method_5_code 4 = .ok (.aload_n 0, 1) := by decide +kernel
theorem d_Fmt_magnitudeMask_5 : decode prog_4_method_5_code 5 = .ok (.invokevirtual 45, 3) := by decide +kernel
theorem d_Fmt_magnitudeMask_8 : decode prog_4_method_5_code 8 = .ok (.lor, 1) := by decide +kernel
theorem d_Fmt_magnitudeMask_9 : decode prog_4_method_5_code 9 = .ok (.lreturn, 1) := by decide +kernel
def f_Fmt_magnitudeMask (x0 : Nat) : Option (Int64) :=
  (f_Fmt_infinity x0).bind fun u_1 =>
  (f_Fmt_fractionMask x0).bind fun u_2 =>
  some (u_1 ||| u_2)
set_option maxHeartbeats 4000000 in
set_option maxRecDepth 100000 in
theorem c_Fmt_magnitudeMask (l : Launch) (dC : Nat → ClassId) (dI : Nat → Nat → Nat) (cI cC cB cJ : ClassId) (adF : Nat → Nat) (tp : Nat) (adK adV : Nat → Nat) (sz : Nat) (x0 : Nat) (he_x0 : x0 < 2) (u : Int64) (hf : f_Fmt_magnitudeMask x0 = some u) : Met l y_Fmt_magnitudeMask ws_Fmt_magnitudeMask rm_Fmt_magnitudeMask (zz_P (zx_E adF tp adK adV) (dC, dI) vwCl (zz_tys cI cC cB cJ) [.ref (adF x0)] [] sz) (zz_Ql (dC, dI) vwCl u [] (va_A [] sz)) 0 0 (va_A [] sz) := by
  refine Met.ofW (cc := prog_4_method_5_code) (maxL := 1) (ret := (some .long)) (by decide +kernel) rfl ?_
  intro p e s m args below meth c s₁ B hml hv
  obtain ⟨rfl, hsz, hP, hK, hD0, hX⟩ := hv
  have hx := B.exec
  have hb := B.bytes
  have hr := B.returns
  have hts := atoms_spec (ws := ws_Fmt_magnitudeMask) B.pre
  have hw : ∀ w ∈ zw, w.before [.ref (adF x0)].toArray s = true := fun w h => hts w (List.mem_cons_of_mem _ h)
  have hown : s.vm.findClass R_Fmt = some m.cls := findClass_of_methodNamed B.named
  have hlocks := B.notSynchronized
  subst hsz
  have hD := hD0.self (sz := s.heap.size)
  generalize hAe : va_A [] s.heap.size = A at hD hX ⊢
  have hA : ∀ q : Nat, s.heap.size ≤ q → A q := fun q h => by rw [← hAe]; exact Or.inr h
  have hS : va_S A s.heap s.heap [] := va_S.rf
  have hl := lv_entry [.ref (adF x0)] (n := 1) (Nat.le_of_ble_eq_true rfl)
  rw [lg_entry_eq]
  generalize (lg_sl [.ref (adF x0)] ++ List.replicate (1 - (lg_sl [.ref (adF x0)]).length) Slot.unset).toArray = ls at hl ⊢
  have hl : lv_has ls 1 [(0, .ref (adF x0))] := hl
  refine zz_endl hx hb hr hlocks (fun Qq hend => ?_)
  unfold f_Fmt_magnitudeMask at hf
  refine lv_aload_n hx hb d_Fmt_magnitudeMask_0 rfl (lv_at hl 0 rfl) ?_
  obtain ⟨u_1, hu_1, hf⟩ := zz_bd hf
  refine zz_cl (ws' := []) (wc := []) (w' := []) hP hD hS hA [] [] [] rfl rfl (by decide) (by decide) rfl (by decide) (va_runV (As := []) (rest := []) ⟨hx, hb, hml, hown, hw⟩ (c_Fmt_infinity l dC dI cI cC cB cJ adF tp adK adV _ x0 he_x0 u_1 hu_1) (cwV 0 hw (zg_V wd_208 wd_209 wd_210 wd_15 wd_211) rfl rfl rfl hd_Fmt_infinity ⟨Nat.le_of_ble_eq_true rfl, Nat.le_of_ble_eq_true rfl⟩) (zz_preV (zx_ok adF tp adK adV) (va_recvE hX.1 he_x0 hS) hP hD hK hS hA hX [] rfl (by decide)) rfl rfl hl.1 rfl (lv_room (Nat.le_of_ble_eq_true rfl)) d_Fmt_magnitudeMask_1 ⟨Nat.zero_le _, Nat.zero_le _⟩) (fun H locs hP hD hS => ?_)
  refine lv_aload_n hx hb d_Fmt_magnitudeMask_4 rfl (lv_at hl 0 rfl) ?_
  obtain ⟨u_2, hu_2, hf⟩ := zz_bd hf
  refine zz_cl (ws' := []) (wc := []) (w' := []) hP hD hS hA [] [] [] rfl rfl (by decide) (by decide) rfl (by decide) (va_runV (As := []) (rest := [.long u_1]) ⟨hx, hb, hml, hown, hw⟩ (c_Fmt_fractionMask l dC dI cI cC cB cJ adF tp adK adV _ x0 he_x0 u_2 hu_2) (cwV 0 hw (zg_V wd_212 wd_214 we_0_0 wd_15 wd_216) rfl rfl rfl hd_Fmt_fractionMask ⟨Nat.le_of_ble_eq_true rfl, Nat.le_of_ble_eq_true rfl⟩) (zz_preV (zx_ok adF tp adK adV) (va_recvE hX.1 he_x0 hS) hP hD hK hS hA hX [] rfl (by decide)) rfl rfl hl.1 rfl (lv_room (Nat.le_of_ble_eq_true rfl)) d_Fmt_magnitudeMask_5 ⟨Nat.zero_le _, Nat.zero_le _⟩) (fun H locs hP hD hS => ?_)
  refine lv_lor hx hb d_Fmt_magnitudeMask_8 ?_
  cases hf
  exact hend 9 ls _ _ d_Fmt_magnitudeMask_9 hP hD hS
abbrev ws_Fmt_signMask : List Cond := .code y_Fmt_signMask prog_4_method_6_code 1 (some .long) :: zw
abbrev rm_Fmt_signMask : Room := { frames := 3, cells := 0, slots := 0, locals := 60 }
theorem hd_Fmt_signMask : y_Fmt_signMask.cls = "RealText$Format" ∧ y_Fmt_signMask.cls ≠ "java/lang/invoke/MethodHandle" ∧ y_Fmt_signMask.cls ≠ "java/lang/invoke/VarHandle" ∧ (parseMethodDescriptor y_Fmt_signMask.desc).map (fun d => d.parameters.length) = some 0 := by decide +kernel
theorem d_Fmt_signMask_0 : decode prog_4_method_6_code 0 = .ok (.aload_n 0, 1) := by decide +kernel
theorem d_Fmt_signMask_1 : decode prog_4_method_6_code 1 = .ok (.invokevirtual 48, 3) := by decide +kernel
theorem d_Fmt_signMask_4 : decode prog_4_method_6_code 4 = .ok (.lconst 1, 1) := by decide +kernel
theorem d_Fmt_signMask_5 : decode prog_4_method_6_code 5 = .ok (.ladd, 1) := by decide +kernel
theorem d_Fmt_signMask_6 : decode prog_4_method_6_code 6 = .ok (.lreturn, 1) := by decide +kernel
def f_Fmt_signMask (x0 : Nat) : Option (Int64) :=
  (f_Fmt_magnitudeMask x0).bind fun u_1 =>
  some (u_1 + 1)
set_option maxHeartbeats 4000000 in
set_option maxRecDepth 100000 in
theorem c_Fmt_signMask (l : Launch) (dC : Nat → ClassId) (dI : Nat → Nat → Nat) (cI cC cB cJ : ClassId) (adF : Nat → Nat) (tp : Nat) (adK adV : Nat → Nat) (sz : Nat) (x0 : Nat) (he_x0 : x0 < 2) (u : Int64) (hf : f_Fmt_signMask x0 = some u) : Met l y_Fmt_signMask ws_Fmt_signMask rm_Fmt_signMask (zz_P (zx_E adF tp adK adV) (dC, dI) vwCl (zz_tys cI cC cB cJ) [.ref (adF x0)] [] sz) (zz_Ql (dC, dI) vwCl u [] (va_A [] sz)) 0 0 (va_A [] sz) := by
  refine Met.ofW (cc := prog_4_method_6_code) (maxL := 1) (ret := (some .long)) (by decide +kernel) rfl ?_
  intro p e s m args below meth c s₁ B hml hv
  obtain ⟨rfl, hsz, hP, hK, hD0, hX⟩ := hv
  have hx := B.exec
  have hb := B.bytes
  have hr := B.returns
  have hts := atoms_spec (ws := ws_Fmt_signMask) B.pre
  have hw : ∀ w ∈ zw, w.before [.ref (adF x0)].toArray s = true := fun w h => hts w (List.mem_cons_of_mem _ h)
  have hown : s.vm.findClass R_Fmt = some m.cls := findClass_of_methodNamed B.named
  have hlocks := B.notSynchronized
  subst hsz
  have hD := hD0.self (sz := s.heap.size)
  generalize hAe : va_A [] s.heap.size = A at hD hX ⊢
  have hA : ∀ q : Nat, s.heap.size ≤ q → A q := fun q h => by rw [← hAe]; exact Or.inr h
  have hS : va_S A s.heap s.heap [] := va_S.rf
  have hl := lv_entry [.ref (adF x0)] (n := 1) (Nat.le_of_ble_eq_true rfl)
  rw [lg_entry_eq]
  generalize (lg_sl [.ref (adF x0)] ++ List.replicate (1 - (lg_sl [.ref (adF x0)]).length) Slot.unset).toArray = ls at hl ⊢
  have hl : lv_has ls 1 [(0, .ref (adF x0))] := hl
  refine zz_endl hx hb hr hlocks (fun Qq hend => ?_)
  unfold f_Fmt_signMask at hf
  refine lv_aload_n hx hb d_Fmt_signMask_0 rfl (lv_at hl 0 rfl) ?_
  obtain ⟨u_1, hu_1, hf⟩ := zz_bd hf
  refine zz_cl (ws' := []) (wc := []) (w' := []) hP hD hS hA [] [] [] rfl rfl (by decide) (by decide) rfl (by decide) (va_runV (As := []) (rest := []) ⟨hx, hb, hml, hown, hw⟩ (c_Fmt_magnitudeMask l dC dI cI cC cB cJ adF tp adK adV _ x0 he_x0 u_1 hu_1) (cwV 0 hw (zg_V wd_291 wd_205 wd_206 wd_15 wd_207) rfl rfl rfl hd_Fmt_magnitudeMask ⟨Nat.le_of_ble_eq_true rfl, Nat.le_of_ble_eq_true rfl⟩) (zz_preV (zx_ok adF tp adK adV) (va_recvE hX.1 he_x0 hS) hP hD hK hS hA hX [] rfl (by decide)) rfl rfl hl.1 rfl (lv_room (Nat.le_of_ble_eq_true rfl)) d_Fmt_signMask_1 ⟨Nat.zero_le _, Nat.zero_le _⟩) (fun H locs hP hD hS => ?_)
  refine lv_lconst (v := 1) hx hb d_Fmt_signMask_4 (by decide) ?_
  refine lv_ladd hx hb d_Fmt_signMask_5 ?_
  cases hf
  exact hend 6 ls _ _ d_Fmt_signMask_6 hP hD hS
abbrev ws_Fmt_exponentOf : List Cond := .code y_Fmt_exponentOf prog_4_method_9_code 3 (some .int) :: zw
abbrev rm_Fmt_exponentOf : Room := { frames := 0, cells := 0, slots := 0, locals := 0 }
theorem hd_Fmt_exponentOf : y_Fmt_exponentOf.cls = "RealText$Format" ∧ y_Fmt_exponentOf.cls ≠ "java/lang/invoke/MethodHandle" ∧ y_Fmt_exponentOf.cls ≠ "java/lang/invoke/VarHandle" ∧ (parseMethodDescriptor y_Fmt_exponentOf.desc).map (fun d => d.parameters.length) = some 1 := by decide +kernel
theorem d_Fmt_exponentOf_0 : decode prog_4_method_9_code 0 = .ok (.lload_n 1, 1) := by decide +kernel
theorem d_Fmt_exponentOf_1 : decode prog_4_method_9_code 1 = .ok (.aload_n 0, 1) := by decide +kernel
theorem d_Fmt_exponentOf_2 : decode prog_4_method_9_code 2 = .ok (.getfield 31, 3) := by decide +kernel
theorem d_Fmt_exponentOf_5 : decode prog_4_method_9_code 5 = .ok (.lushr, 1) := by decide +kernel
theorem d_Fmt_exponentOf_6 : decode prog_4_method_9_code 6 = .ok (.l2i, 1) := by decide +kernel
theorem d_Fmt_exponentOf_7 : decode prog_4_method_9_code 7 = .ok (.ireturn, 1) := by decide +kernel
def f_Fmt_exponentOf (x0 : Nat) (x1 : Int64) : Option (Int32) :=
  some (((x1.toUInt64 >>> ((zx_fractionBits x0).toInt64.toUInt64 &&& Int64.toUInt64 63)).toInt64).toInt32)
set_option maxHeartbeats 4000000 in
set_option maxRecDepth 100000 in
theorem c_Fmt_exponentOf (l : Launch) (dC : Nat → ClassId) (dI : Nat → Nat → Nat) (cI cC cB cJ : ClassId) (adF : Nat → Nat) (tp : Nat) (adK adV : Nat → Nat) (sz : Nat) (x0 : Nat) (x1 : Int64) (he_x0 : x0 < 2) (u : Int32) (hf : f_Fmt_exponentOf x0 x1 = some u) : Met l y_Fmt_exponentOf ws_Fmt_exponentOf rm_Fmt_exponentOf (zz_P (zx_E adF tp adK adV) (dC, dI) vwCl (zz_tys cI cC cB cJ) [.ref (adF x0), .long x1] [] sz) (zz_Qi (dC, dI) vwCl u [] (va_A [] sz)) 0 0 (va_A [] sz) := by
  refine Met.ofW (cc := prog_4_method_9_code) (maxL := 3) (ret := (some .int)) (by decide +kernel) rfl ?_
  intro p e s m args below meth c s₁ B hml hv
  obtain ⟨rfl, hsz, hP, hK, hD0, hX⟩ := hv
  have hx := B.exec
  have hb := B.bytes
  have hr := B.returns
  have hts := atoms_spec (ws := ws_Fmt_exponentOf) B.pre
  have hw : ∀ w ∈ zw, w.before [.ref (adF x0), .long x1].toArray s = true := fun w h => hts w (List.mem_cons_of_mem _ h)
  have hown : s.vm.findClass R_Fmt = some m.cls := findClass_of_methodNamed B.named
  have hlocks := B.notSynchronized
  subst hsz
  have hD := hD0.self (sz := s.heap.size)
  generalize hAe : va_A [] s.heap.size = A at hD hX ⊢
  have hA : ∀ q : Nat, s.heap.size ≤ q → A q := fun q h => by rw [← hAe]; exact Or.inr h
  have hS : va_S A s.heap s.heap [] := va_S.rf
  have hl := lv_entry [.ref (adF x0), .long x1] (n := 3) (Nat.le_of_ble_eq_true rfl)
  rw [lg_entry_eq]
  generalize (lg_sl [.ref (adF x0), .long x1] ++ List.replicate (3 - (lg_sl [.ref (adF x0), .long x1]).length) Slot.unset).toArray = ls at hl ⊢
  have hl : lv_has ls 3 [(0, .ref (adF x0)), (1, .long x1)] := hl
  refine zz_endi hx hb hr hlocks (fun Qq hend => ?_)
  unfold f_Fmt_exponentOf at hf
  refine lv_lload_n hx hb d_Fmt_exponentOf_0 rfl (lv_at hl 1 rfl) ?_
  refine lv_aload_n hx hb d_Fmt_exponentOf_1 rfl (lv_at hl 0 rfl) ?_
  refine va_getE (q := zx_q0) hx hb hX.1 he_x0 hS hown zx_m0 (hw _ wd_916) (fun _ h9 => h9) d_Fmt_exponentOf_2 ?_
  refine lv_lushr hx hb d_Fmt_exponentOf_5 rfl ?_
  refine lv_l2i hx hb d_Fmt_exponentOf_6 rfl ?_
  cases hf
  exact hend 7 ls _ _ d_Fmt_exponentOf_7 hP hD hS
abbrev ws_Fmt_significandOf : List Cond := .code y_Fmt_significandOf prog_4_method_10_code 5 (some .long) :: zw
abbrev rm_Fmt_significandOf : Room := { frames := 2, cells := 0, slots := 0, locals := 40 }
theorem hd_Fmt_significandOf : y_Fmt_significandOf.cls = "RealText$Format" ∧ y_Fmt_significandOf.cls ≠ "java/lang/invoke/MethodHandle" ∧ y_Fmt_significandOf.cls ≠ "java/lang/invoke/VarHandle" ∧ (parseMethodDescriptor y_Fmt_significandOf.desc).map (fun d => d.parameters.length) = some 1 := by decide +kernel
theorem d_Fmt_significandOf_0 : decode prog_4_method_10_code 0 = .ok (.lload_n 1, 1) := by decide +kernel
theorem d_Fmt_significandOf_1 : decode prog_4_method_10_code 1 = .ok (.aload_n 0, 1) := by decide +kernel
theorem d_Fmt_significandOf_2 : decode prog_4_method_10_code 2 = .ok (.invokevirtual 45, 3) := by decide +kernel
theorem d_Fmt_significandOf_5 : decode prog_4_method_10_code 5 = .ok (.land, 1) := by decide +kernel
theorem d_Fmt_significandOf_6 : decode prog_4_method_10_code 6 = .ok (.lstore_n 3, 1) := by decide +kernel
theorem d_Fmt_significandOf_7 : decode prog_4_method_10_code 7 = .ok (.aload_n 0, 1) := by decide +kernel
theorem d_Fmt_significandOf_8 : decode prog_4_method_10_code 8 = .ok (.lload_n 1, 1) := by decide +kernel
theorem d_Fmt_significandOf_9 : decode prog_4_method_10_code 9 = .ok (.invokevirtual 54, 3) := by decide +kernel
theorem d_Fmt_significandOf_12 : decode prog_4_method_10_code 12 = .ok (.ifCond .ne 7, 3) := by decide +kernel
theorem d_Fmt_significandOf_15 : decode prog_4_method_10_code 15 = .ok (.lload_n 3, 1) := by decide +kernel
theorem d_Fmt_significandOf_16 : decode prog_4_method_10_code 16 = .ok (.goto 9, 3) := by decide +kernel
theorem d_Fmt_significandOf_19 : decode prog_4_method_10_code 19 = .ok (.lload_n 3, 1) := by decide +kernel
theorem d_Fmt_significandOf_20 : decode prog_4_method_10_code 20 = .ok (.aload_n 0, 1) := by decide +kernel
theorem d_Fmt_significandOf_21 : decode prog_4_method_10_code 21 = .ok (.invokevirtual 51, 3) := by decide +kernel
theorem d_Fmt_significandOf_24 : decode prog_4_method_10_code 24 = .ok (.lor, 1) := by decide +kernel
theorem d_Fmt_significandOf_25 : decode prog_4_method_10_code 25 = .ok (.lreturn, 1) := by decide +kernel
def f_Fmt_significandOf (x0 : Nat) (x1 : Int64) : Option (Int64) :=
  (f_Fmt_fractionMask x0).bind fun u_1 =>
  zz_lt (x1 &&& u_1) fun x3_2 =>
  (f_Fmt_exponentOf x0 x1).bind fun u_3 =>
  (if u_3 = 0 then
  some (x3_2)
  else
  (f_Fmt_hiddenBit x0).bind fun u_4 =>
  some (x3_2 ||| u_4))
set_option maxHeartbeats 4000000 in
set_option maxRecDepth 100000 in
theorem c_Fmt_significandOf (l : Launch) (dC : Nat → ClassId) (dI : Nat → Nat → Nat) (cI cC cB cJ : ClassId) (adF : Nat → Nat) (tp : Nat) (adK adV : Nat → Nat) (sz : Nat) (x0 : Nat) (x1 : Int64) (he_x0 : x0 < 2) (u : Int64) (hf : f_Fmt_significandOf x0 x1 = some u) : Met l y_Fmt_significandOf ws_Fmt_significandOf rm_Fmt_significandOf (zz_P (zx_E adF tp adK adV) (dC, dI) vwCl (zz_tys cI cC cB cJ) [.ref (adF x0), .long x1] [] sz) (zz_Ql (dC, dI) vwCl u [] (va_A [] sz)) 0 0 (va_A [] sz) := by
  refine Met.ofW (cc := prog_4_method_10_code) (maxL := 5) (ret := (some .long)) (by decide +kernel) rfl ?_
  intro p e s m args below meth c s₁ B hml hv
  obtain ⟨rfl, hsz, hP, hK, hD0, hX⟩ := hv
  have hx := B.exec
  have hb := B.bytes
  have hr := B.returns
  have hts := atoms_spec (ws := ws_Fmt_significandOf) B.pre
  have hw : ∀ w ∈ zw, w.before [.ref (adF x0), .long x1].toArray s = true := fun w h => hts w (List.mem_cons_of_mem _ h)
  have hown : s.vm.findClass R_Fmt = some m.cls := findClass_of_methodNamed B.named
  have hlocks := B.notSynchronized
  subst hsz
  have hD := hD0.self (sz := s.heap.size)
  generalize hAe : va_A [] s.heap.size = A at hD hX ⊢
  have hA : ∀ q : Nat, s.heap.size ≤ q → A q := fun q h => by rw [← hAe]; exact Or.inr h
  have hS : va_S A s.heap s.heap [] := va_S.rf
  have hl := lv_entry [.ref (adF x0), .long x1] (n := 5) (Nat.le_of_ble_eq_true rfl)
  rw [lg_entry_eq]
  generalize (lg_sl [.ref (adF x0), .long x1] ++ List.replicate (5 - (lg_sl [.ref (adF x0), .long x1]).length) Slot.unset).toArray = ls at hl ⊢
  have hl : lv_has ls 5 [(0, .ref (adF x0)), (1, .long x1)] := hl
  refine zz_endl hx hb hr hlocks (fun Qq hend => ?_)
  unfold f_Fmt_significandOf at hf
  refine lv_lload_n hx hb d_Fmt_significandOf_0 rfl (lv_at hl 1 rfl) ?_
  refine lv_aload_n hx hb d_Fmt_significandOf_1 rfl (lv_at hl 0 rfl) ?_
  obtain ⟨u_1, hu_1, hf⟩ := zz_bd hf
  refine zz_cl (ws' := []) (wc := []) (w' := []) hP hD hS hA [] [] [] rfl rfl (by decide) (by decide) rfl (by decide) (va_runV (As := []) (rest := [.long x1]) ⟨hx, hb, hml, hown, hw⟩ (c_Fmt_fractionMask l dC dI cI cC cB cJ adF tp adK adV _ x0 he_x0 u_1 hu_1) (cwV 0 hw (zg_V wd_212 wd_214 we_0_0 wd_15 wd_216) rfl rfl rfl hd_Fmt_fractionMask ⟨Nat.le_of_ble_eq_true rfl, Nat.le_of_ble_eq_true rfl⟩) (zz_preV (zx_ok adF tp adK adV) (va_recvE hX.1 he_x0 hS) hP hD hK hS hA hX [] rfl (by decide)) rfl rfl hl.1 rfl (lv_room (Nat.le_of_ble_eq_true rfl)) d_Fmt_significandOf_2 ⟨Nat.zero_le _, Nat.zero_le _⟩) (fun H locs hP hD hS => ?_)
  refine lv_land hx hb d_Fmt_significandOf_5 ?_
  refine lv_topl (fun x3_2 e_x3_2 => ?_)
  have hf := zz_ltp hf x3_2 e_x3_2
  refine lv_lstore_n hx hb d_Fmt_significandOf_6 rfl hl (by decide) rfl (fun ls hl => ?_)
  have hl : lv_has ls 5 [(3, .long x3_2), (0, .ref (adF x0)), (1, .long x1)] := hl
  refine lv_aload_n hx hb d_Fmt_significandOf_7 rfl (lv_at hl 1 rfl) ?_
  refine lv_lload_n hx hb d_Fmt_significandOf_8 rfl (lv_at hl 2 rfl) ?_
  obtain ⟨u_3, hu_3, hf⟩ := zz_bd hf
  refine zz_ci (ws' := []) (wc := []) (w' := []) hP hD hS hA [] [] [] rfl rfl (by decide) (by decide) rfl (by decide) (va_runV (As := [.long x1]) (rest := []) ⟨hx, hb, hml, hown, hw⟩ (c_Fmt_exponentOf l dC dI cI cC cB cJ adF tp adK adV _ x0 x1 he_x0 u_3 hu_3) (cwV 1 hw (zg_V wd_303 wd_305 we_0_2 wd_15 wd_306) rfl rfl rfl hd_Fmt_exponentOf ⟨Nat.le_of_ble_eq_true rfl, Nat.le_of_ble_eq_true rfl⟩) (zz_preV (zx_ok adF tp adK adV) (va_recvE hX.1 he_x0 hS) hP hD hK hS hA hX [] rfl (by decide)) rfl rfl hl.1 rfl (lv_room (Nat.le_of_ble_eq_true rfl)) d_Fmt_significandOf_9 ⟨Nat.zero_le _, Nat.zero_le _⟩) (fun H locs hP hD hS => ?_)
  refine lv_if_ne (tgt := 19) hx hb d_Fmt_significandOf_12 (by decide) (fun hc => ?_) (fun hc => ?_)
  · have hf := zz_ifn hc hf
    refine lv_lload_n hx hb d_Fmt_significandOf_19 rfl (lv_at hl 0 rfl) ?_
    refine lv_aload_n hx hb d_Fmt_significandOf_20 rfl (lv_at hl 1 rfl) ?_
    obtain ⟨u_4, hu_4, hf⟩ := zz_bd hf
    refine zz_cl (ws' := []) (wc := []) (w' := []) hP hD hS hA [] [] [] rfl rfl (by decide) (by decide) rfl (by decide) (va_runV (As := []) (rest := [.long x3_2]) ⟨hx, hb, hml, hown, hw⟩ (c_Fmt_hiddenBit l dC dI cI cC cB cJ adF tp adK adV _ x0 he_x0 u_4 hu_4) (cwV 0 hw (zg_V wd_217 wd_219 we_0_1 wd_15 wd_220) rfl rfl rfl hd_Fmt_hiddenBit ⟨Nat.le_of_ble_eq_true rfl, Nat.le_of_ble_eq_true rfl⟩) (zz_preV (zx_ok adF tp adK adV) (va_recvE hX.1 he_x0 hS) hP hD hK hS hA hX [] rfl (by decide)) rfl rfl hl.1 rfl (lv_room (Nat.le_of_ble_eq_true rfl)) d_Fmt_significandOf_21 ⟨Nat.zero_le _, Nat.zero_le _⟩) (fun H locs hP hD hS => ?_)
    refine lv_lor hx hb d_Fmt_significandOf_24 ?_
    cases hf
    exact hend 25 ls _ _ d_Fmt_significandOf_25 hP hD hS
  · have hf := zz_ifp hc hf
    refine lv_lload_n hx hb d_Fmt_significandOf_15 rfl (lv_at hl 0 rfl) ?_
    refine lv_goto (tgt := 25) hx hb d_Fmt_significandOf_16 (by decide) ?_
    cases hf
    exact hend 25 ls _ _ d_Fmt_significandOf_25 hP hD hS
abbrev ws_Fmt_powerOf : List Cond := .code y_Fmt_powerOf prog_4_method_11_code 3 (some .int) :: zw
abbrev rm_Fmt_powerOf : Room := { frames := 1, cells := 0, slots := 0, locals := 22 }
theorem hd_Fmt_powerOf : y_Fmt_powerOf.cls = "RealText$Format" ∧ y_Fmt_powerOf.cls ≠ "java/lang/invoke/MethodHandle" ∧ y_Fmt_powerOf.cls ≠ "java/lang/invoke/VarHandle" ∧ (parseMethodDescriptor y_Fmt_powerOf.desc).map (fun d => d.parameters.length) = some 1 := by decide +kernel
theorem d_Fmt_powerOf_0 : decode prog_4_method_11_code 0 = .ok (.aload_n 0, 1) := by decide +kernel
theorem d_Fmt_powerOf_1 : decode prog_4_method_11_code 1 = .ok (.getfield 38, 3) := by decide +kernel
theorem d_Fmt_powerOf_4 : decode prog_4_method_11_code 4 = .ok (.aload_n 0, 1) := by decide +kernel
theorem d_Fmt_powerOf_5 : decode prog_4_method_11_code 5 = .ok (.lload_n 1, 1) := by decide +kernel
theorem d_Fmt_powerOf_6 : decode prog_4_method_11_code 6 = .ok (.invokevirtual 54, 3) := by decide +kernel
theorem d_Fmt_powerOf_9 : decode prog_4_method_11_code 9 = .ok (.iconst 1, 1) := by decide +kernel
theorem d_Fmt_powerOf_10 : decode prog_4_method_11_code 10 = .ok (.isub, 1) := by decide +kernel
theorem d_Fmt_powerOf_11 : decode prog_4_method_11_code 11 = .ok (.iconst 0, 1) := by decide +kernel
theorem d_Fmt_powerOf_12 : decode prog_4_method_11_code 12 = .ok (.invokestatic 58, 3) := by decide +kernel
theorem d_Fmt_powerOf_15 : decode prog_4_method_11_code 15 = .ok (.iadd, 1) := by decide +kernel
theorem d_Fmt_powerOf_16 : decode prog_4_method_11_code 16 = .ok (.ireturn, 1) := by decide +kernel
def f_Fmt_powerOf (x0 : Nat) (x1 : Int64) : Option (Int32) :=
  (f_Fmt_exponentOf x0 x1).bind fun u_1 =>
  (f_Mat_max (u_1 - 1) 0).bind fun u_2 =>
  some ((zx_leastPower x0) + u_2)
set_option maxHeartbeats 4000000 in
set_option maxRecDepth 100000 in
theorem c_Fmt_powerOf (l : Launch) (dC : Nat → ClassId) (dI : Nat → Nat → Nat) (cI cC cB cJ : ClassId) (adF : Nat → Nat) (tp : Nat) (adK adV : Nat → Nat) (sz : Nat) (x0 : Nat) (x1 : Int64) (he_x0 : x0 < 2) (u : Int32) (hf : f_Fmt_powerOf x0 x1 = some u) : Met l y_Fmt_powerOf ws_Fmt_powerOf rm_Fmt_powerOf (zz_P (zx_E adF tp adK adV) (dC, dI) vwCl (zz_tys cI cC cB cJ) [.ref (adF x0), .long x1] [] sz) (zz_Qi (dC, dI) vwCl u [] (va_A [] sz)) 0 0 (va_A [] sz) := by
  refine Met.ofW (cc := prog_4_method_11_code) (maxL := 3) (ret := (some .int)) (by decide +kernel) rfl ?_
  intro p e s m args below meth c s₁ B hml hv
  obtain ⟨rfl, hsz, hP, hK, hD0, hX⟩ := hv
  have hx := B.exec
  have hb := B.bytes
  have hr := B.returns
  have hts := atoms_spec (ws := ws_Fmt_powerOf) B.pre
  have hw : ∀ w ∈ zw, w.before [.ref (adF x0), .long x1].toArray s = true := fun w h => hts w (List.mem_cons_of_mem _ h)
  have hown : s.vm.findClass R_Fmt = some m.cls := findClass_of_methodNamed B.named
  have hlocks := B.notSynchronized
  subst hsz
  have hD := hD0.self (sz := s.heap.size)
  generalize hAe : va_A [] s.heap.size = A at hD hX ⊢
  have hA : ∀ q : Nat, s.heap.size ≤ q → A q := fun q h => by rw [← hAe]; exact Or.inr h
  have hS : va_S A s.heap s.heap [] := va_S.rf
  have hl := lv_entry [.ref (adF x0), .long x1] (n := 3) (Nat.le_of_ble_eq_true rfl)
  rw [lg_entry_eq]
  generalize (lg_sl [.ref (adF x0), .long x1] ++ List.replicate (3 - (lg_sl [.ref (adF x0), .long x1]).length) Slot.unset).toArray = ls at hl ⊢
  have hl : lv_has ls 3 [(0, .ref (adF x0)), (1, .long x1)] := hl
  refine zz_endi hx hb hr hlocks (fun Qq hend => ?_)
  unfold f_Fmt_powerOf at hf
  refine lv_aload_n hx hb d_Fmt_powerOf_0 rfl (lv_at hl 0 rfl) ?_
  refine va_getE (q := zx_q2) hx hb hX.1 he_x0 hS hown zx_m2 (hw _ wd_917) (fun _ h9 => h9) d_Fmt_powerOf_1 ?_
  refine lv_aload_n hx hb d_Fmt_powerOf_4 rfl (lv_at hl 0 rfl) ?_
  refine lv_lload_n hx hb d_Fmt_powerOf_5 rfl (lv_at hl 1 rfl) ?_
  obtain ⟨u_1, hu_1, hf⟩ := zz_bd hf
  refine zz_ci (ws' := []) (wc := []) (w' := []) hP hD hS hA [] [] [] rfl rfl (by decide) (by decide) rfl (by decide) (va_runV (As := [.long x1]) (rest := [.int (zx_leastPower x0)]) ⟨hx, hb, hml, hown, hw⟩ (c_Fmt_exponentOf l dC dI cI cC cB cJ adF tp adK adV _ x0 x1 he_x0 u_1 hu_1) (cwV 1 hw (zg_V wd_303 wd_305 we_0_2 wd_15 wd_306) rfl rfl rfl hd_Fmt_exponentOf ⟨Nat.le_of_ble_eq_true rfl, Nat.le_of_ble_eq_true rfl⟩) (zz_preV (zx_ok adF tp adK adV) (va_recvE hX.1 he_x0 hS) hP hD hK hS hA hX [] rfl (by decide)) rfl rfl hl.1 rfl (lv_room (Nat.le_of_ble_eq_true rfl)) d_Fmt_powerOf_6 ⟨Nat.zero_le _, Nat.zero_le _⟩) (fun H locs hP hD hS => ?_)
  refine lv_iconst (v := 1) hx hb d_Fmt_powerOf_9 (by decide) ?_
  refine lv_isub hx hb d_Fmt_powerOf_10 ?_
  refine lv_iconst (v := 0) hx hb d_Fmt_powerOf_11 (by decide) ?_
  obtain ⟨u_2, hu_2, hf⟩ := zz_bd hf
  refine zz_ci (ws' := []) (wc := []) (w' := []) hP hD hS hA [] [] [] rfl rfl (by decide) (by decide) rfl (by decide) (va_runS (As := [.int (u_1 - 1), .int 0]) (rest := [.int (zx_leastPower x0)]) ⟨hx, hb, hml, hown, hw⟩ (c_Mat_max l dC dI cI cC cB cJ _ (u_1 - 1) 0 u_2 hu_2) (va_cwS 2 hw (zg_S wd_315 wd_316 wd_16 wd_317) rfl rfl rfl hd_Mat_max ⟨Nat.le_of_ble_eq_true rfl, Nat.le_of_ble_eq_true rfl⟩) (zz_preS zz_TE hP hD hK hS hA trivial [] rfl (by decide)) rfl rfl hl.1 rfl (lv_room (Nat.le_of_ble_eq_true rfl)) d_Fmt_powerOf_12 ⟨Nat.zero_le _, Nat.zero_le _⟩) (fun H locs hP hD hS => ?_)
  refine lv_iadd hx hb d_Fmt_powerOf_15 ?_
  cases hf
  exact hend 16 ls _ _ d_Fmt_powerOf_16 hP hD hS
abbrev ws_Fmt_isNarrowBelow : List Cond := .code y_Fmt_isNarrowBelow prog_4_method_12_code 3 (some .boolean) :: zw
abbrev rm_Fmt_isNarrowBelow : Room := { frames := 2, cells := 0, slots := 0, locals := 40 }
theorem hd_Fmt_isNarrowBelow : y_Fmt_isNarrowBelow.cls = "RealText$Format" ∧ y_Fmt_isNarrowBelow.cls ≠ "java/lang/invoke/MethodHandle" ∧ y_Fmt_isNarrowBelow.cls ≠ "java/lang/invoke/VarHandle" ∧ (parseMethodDescriptor y_Fmt_isNarrowBelow.desc).map (fun d => d.parameters.length) = some 1 := by decide +kernel
theorem d_Fmt_isNarrowBelow_0 : decode prog_4_method_12_code 0 = .ok (.aload_n 0, 1) := by decide +kernel
theorem d_Fmt_isNarrowBelow_1 : decode prog_4_method_12_code 1 = .ok (.lload_n 1, 1) := by decide +kernel
theorem d_Fmt_isNarrowBelow_2 : decode prog_4_method_12_code 2 = .ok (.invokevirtual 54, 3) := by decide +kernel
theorem d_Fmt_isNarrowBelow_5 : decode prog_4_method_12_code 5 = .ok (.iconst 1, 1) := by decide +kernel
theorem d_Fmt_isNarrowBelow_6 : decode prog_4_method_12_code 6 = .ok (.if_icmp .le 18, 3) := by decide +kernel
theorem d_Fmt_isNarrowBelow_9 : decode prog_4_method_12_code 9 = .ok (.lload_n 1, 1) := by decide +kernel
theorem d_Fmt_isNarrowBelow_10 : decode prog_4_method_12_code 10 = .ok (.aload_n 0, 1) := by decide +kernel
theorem d_Fmt_isNarrowBelow_11 : decode prog_4_method_12_code 11 = .ok (.invokevirtual 45, 3) := by decide +kernel
theorem d_Fmt_isNarrowBelow_14 : decode prog_4_method_12_code 14 = .ok (.land, 1) := by decide +kernel
theorem d_Fmt_isNarrowBelow_15 : decode prog_4_method_12_code 15 = .ok (.lconst 0, 1) := by decide +kernel
theorem d_Fmt_isNarrowBelow_16 : decode prog_4_method_12_code 16 = .ok (.lcmp, 1) := by decide +kernel
theorem d_Fmt_isNarrowBelow_17 : decode prog_4_method_12_code 17 = .ok (.ifCond .ne 7, 3) := by decide +kernel
theorem d_Fmt_isNarrowBelow_20 : decode prog_4_method_12_code 20 = .ok (.iconst 1, 1) := by decide +kernel
theorem d_Fmt_isNarrowBelow_21 : decode prog_4_method_12_code 21 = .ok (.goto 4, 3) := by decide +kernel
theorem d_Fmt_isNarrowBelow_24 : decode prog_4_method_12_code 24 = .ok (.iconst 0, 1) := by decide +kernel
theorem d_Fmt_isNarrowBelow_25 : decode prog_4_method_12_code 25 = .ok (.ireturn, 1) := by decide +kernel
def f_Fmt_isNarrowBelow (x0 : Nat) (x1 : Int64) : Option (Int32) :=
  (f_Fmt_exponentOf x0 x1).bind fun u_1 =>
  (if u_1 ≤ 1 then
  some (0)
  else
  (f_Fmt_fractionMask x0).bind fun u_2 =>
  (if (lg_cmp (x1 &&& u_2) 0) = 0 then
  some (1)
  else
  some (0)))
set_option maxHeartbeats 4000000 in
set_option maxRecDepth 100000 in
theorem c_Fmt_isNarrowBelow (l : Launch) (dC : Nat → ClassId) (dI : Nat → Nat → Nat) (cI cC cB cJ : ClassId) (adF : Nat → Nat) (tp : Nat) (adK adV : Nat → Nat) (sz : Nat) (x0 : Nat) (x1 : Int64) (he_x0 : x0 < 2) (u : Int32) (hf : f_Fmt_isNarrowBelow x0 x1 = some u) : Met l y_Fmt_isNarrowBelow ws_Fmt_isNarrowBelow rm_Fmt_isNarrowBelow (zz_P (zx_E adF tp adK adV) (dC, dI) vwCl (zz_tys cI cC cB cJ) [.ref (adF x0), .long x1] [] sz) (zz_Qi (dC, dI) vwCl u [] (va_A [] sz)) 0 0 (va_A [] sz) := by
  refine Met.ofW (cc := prog_4_method_12_code) (maxL := 3) (ret := (some .boolean)) (by decide +kernel) rfl ?_
  intro p e s m args below meth c s₁ B hml hv
  obtain ⟨rfl, hsz, hP, hK, hD0, hX⟩ := hv
  have hx := B.exec
  have hb := B.bytes
  have hr := B.returns
  have hts := atoms_spec (ws := ws_Fmt_isNarrowBelow) B.pre
  have hw : ∀ w ∈ zw, w.before [.ref (adF x0), .long x1].toArray s = true := fun w h => hts w (List.mem_cons_of_mem _ h)
  have hown : s.vm.findClass R_Fmt = some m.cls := findClass_of_methodNamed B.named
  have hlocks := B.notSynchronized
  subst hsz
  have hD := hD0.self (sz := s.heap.size)
  generalize hAe : va_A [] s.heap.size = A at hD hX ⊢
  have hA : ∀ q : Nat, s.heap.size ≤ q → A q := fun q h => by rw [← hAe]; exact Or.inr h
  have hS : va_S A s.heap s.heap [] := va_S.rf
  have hl := lv_entry [.ref (adF x0), .long x1] (n := 3) (Nat.le_of_ble_eq_true rfl)
  rw [lg_entry_eq]
  generalize (lg_sl [.ref (adF x0), .long x1] ++ List.replicate (3 - (lg_sl [.ref (adF x0), .long x1]).length) Slot.unset).toArray = ls at hl ⊢
  have hl : lv_has ls 3 [(0, .ref (adF x0)), (1, .long x1)] := hl
  refine zz_endz hx hb hr hlocks (fun Qq hend => ?_)
  unfold f_Fmt_isNarrowBelow at hf
  refine lv_aload_n hx hb d_Fmt_isNarrowBelow_0 rfl (lv_at hl 0 rfl) ?_
  refine lv_lload_n hx hb d_Fmt_isNarrowBelow_1 rfl (lv_at hl 1 rfl) ?_
  obtain ⟨u_1, hu_1, hf⟩ := zz_bd hf
  refine zz_ci (ws' := []) (wc := []) (w' := []) hP hD hS hA [] [] [] rfl rfl (by decide) (by decide) rfl (by decide) (va_runV (As := [.long x1]) (rest := []) ⟨hx, hb, hml, hown, hw⟩ (c_Fmt_exponentOf l dC dI cI cC cB cJ adF tp adK adV _ x0 x1 he_x0 u_1 hu_1) (cwV 1 hw (zg_V wd_303 wd_305 we_0_2 wd_15 wd_306) rfl rfl rfl hd_Fmt_exponentOf ⟨Nat.le_of_ble_eq_true rfl, Nat.le_of_ble_eq_true rfl⟩) (zz_preV (zx_ok adF tp adK adV) (va_recvE hX.1 he_x0 hS) hP hD hK hS hA hX [] rfl (by decide)) rfl rfl hl.1 rfl (lv_room (Nat.le_of_ble_eq_true rfl)) d_Fmt_isNarrowBelow_2 ⟨Nat.zero_le _, Nat.zero_le _⟩) (fun H locs hP hD hS => ?_)
  refine lv_iconst (v := 1) hx hb d_Fmt_isNarrowBelow_5 (by decide) ?_
  refine lv_icmp_le (tgt := 24) hx hb d_Fmt_isNarrowBelow_6 (by decide) (fun hc => ?_) (fun hc => ?_)
  · have hf := zz_ifp hc hf
    refine lv_iconst (v := 0) hx hb d_Fmt_isNarrowBelow_24 (by decide) ?_
    cases hf
    exact hend 25 ls _ _ narrow_b0 d_Fmt_isNarrowBelow_25 hP hD hS
  · have hf := zz_ifn hc hf
    refine lv_lload_n hx hb d_Fmt_isNarrowBelow_9 rfl (lv_at hl 1 rfl) ?_
    refine lv_aload_n hx hb d_Fmt_isNarrowBelow_10 rfl (lv_at hl 0 rfl) ?_
    obtain ⟨u_2, hu_2, hf⟩ := zz_bd hf
    refine zz_cl (ws' := []) (wc := []) (w' := []) hP hD hS hA [] [] [] rfl rfl (by decide) (by decide) rfl (by decide) (va_runV (As := []) (rest := [.long x1]) ⟨hx, hb, hml, hown, hw⟩ (c_Fmt_fractionMask l dC dI cI cC cB cJ adF tp adK adV _ x0 he_x0 u_2 hu_2) (cwV 0 hw (zg_V wd_212 wd_214 we_0_0 wd_15 wd_216) rfl rfl rfl hd_Fmt_fractionMask ⟨Nat.le_of_ble_eq_true rfl, Nat.le_of_ble_eq_true rfl⟩) (zz_preV (zx_ok adF tp adK adV) (va_recvE hX.1 he_x0 hS) hP hD hK hS hA hX [] rfl (by decide)) rfl rfl hl.1 rfl (lv_room (Nat.le_of_ble_eq_true rfl)) d_Fmt_isNarrowBelow_11 ⟨Nat.zero_le _, Nat.zero_le _⟩) (fun H locs hP hD hS => ?_)
    refine lv_land hx hb d_Fmt_isNarrowBelow_14 ?_
    refine lv_lconst (v := 0) hx hb d_Fmt_isNarrowBelow_15 (by decide) ?_
    refine W.lcmp hx hb d_Fmt_isNarrowBelow_16 ?_
    refine lv_if_ne (tgt := 24) hx hb d_Fmt_isNarrowBelow_17 (by decide) (fun hc => ?_) (fun hc => ?_)
    · have hf := zz_ifn hc hf
      refine lv_iconst (v := 0) hx hb d_Fmt_isNarrowBelow_24 (by decide) ?_
      cases hf
      exact hend 25 ls _ _ narrow_b0 d_Fmt_isNarrowBelow_25 hP hD hS
    · have hf := zz_ifp hc hf
      refine lv_iconst (v := 1) hx hb d_Fmt_isNarrowBelow_20 (by decide) ?_
      refine lv_goto (tgt := 25) hx hb d_Fmt_isNarrowBelow_21 (by decide) ?_
      cases hf
      exact hend 25 ls _ _ narrow_b1 d_Fmt_isNarrowBelow_25 hP hD hS
abbrev ws_Fmt_rounded : List Cond := .code y_Fmt_rounded prog_4_method_14_code 12 (some .long) :: zw
abbrev rm_Fmt_rounded : Room := { frames := 0, cells := 0, slots := 0, locals := 0 }
theorem hd_Fmt_rounded : y_Fmt_rounded.cls ≠ "java/lang/invoke/MethodHandle" ∧ y_Fmt_rounded.cls ≠ "java/lang/invoke/VarHandle" ∧ (parseMethodDescriptor y_Fmt_rounded.desc).map (fun d => d.parameters.length) = some 3 := by decide +kernel
theorem d_Fmt_rounded_0 : decode prog_4_method_14_code 0 = .ok (.lload_n 0, 1) := by decide +kernel
theorem d_Fmt_rounded_1 : decode prog_4_method_14_code 1 = .ok (.iload_n 2, 1) := by decide +kernel
theorem d_Fmt_rounded_2 : decode prog_4_method_14_code 2 = .ok (.lushr, 1) := by decide +kernel
theorem d_Fmt_rounded_3 : decode prog_4_method_14_code 3 = .ok (.lstore 4, 2) := by decide +kernel
theorem d_Fmt_rounded_5 : decode prog_4_method_14_code 5 = .ok (.lload_n 0, 1) := by decide +kernel
theorem d_Fmt_rounded_6 : decode prog_4_method_14_code 6 = .ok (.lload 4, 2) := by decide +kernel
theorem d_Fmt_rounded_8 : decode prog_4_method_14_code 8 = .ok (.iload_n 2, 1) := by decide +kernel
theorem d_Fmt_rounded_9 : decode prog_4_method_14_code 9 = .ok (.lshl, 1) := by decide +kernel
theorem d_Fmt_rounded_10 : decode prog_4_method_14_code 10 = .ok (.lsub, 1) := by decide +kernel
theorem d_Fmt_rounded_11 : decode prog_4_method_14_code 11 = .ok (.lstore 6, 2) := by decide +kernel
theorem d_Fmt_rounded_13 : decode prog_4_method_14_code 13 = .ok (.lconst 1, 1) := by decide +kernel
theorem d_Fmt_rounded_14 : decode prog_4_method_14_code 14 = .ok (.iload_n 2, 1) := by decide +kernel
theorem d_Fmt_rounded_15 : decode prog_4_method_14_code 15 = .ok (.iconst 1, 1) := by decide +kernel
theorem d_Fmt_rounded_16 : decode prog_4_method_14_code 16 = .ok (.isub, 1) := by decide +kernel
theorem d_Fmt_rounded_17 : decode prog_4_method_14_code 17 = .ok (.lshl, 1) := by decide +kernel
theorem d_Fmt_rounded_18 : decode prog_4_method_14_code 18 = .ok (.lstore 8, 2) := by decide +kernel
theorem d_Fmt_rounded_20 : decode prog_4_method_14_code 20 = .ok (.lload 4, 2) := by decide +kernel
theorem d_Fmt_rounded_22 : decode prog_4_method_14_code 22 = .ok (.lconst 1, 1) := by decide +kernel
theorem d_Fmt_rounded_23 : decode prog_4_method_14_code 23 = .ok (.land, 1) := by decide +kernel
theorem d_Fmt_rounded_24 : decode prog_4_method_14_code 24 = .ok (.lconst 0, 1) := by decide +kernel
theorem d_Fmt_rounded_25 : decode prog_4_method_14_code 25 = .ok (.lcmp, 1) := by decide +kernel
theorem d_Fmt_rounded_26 : decode prog_4_method_14_code 26 = .ok (.ifCond .eq 7, 3) := by decide +kernel
theorem d_Fmt_rounded_29 : decode prog_4_method_14_code 29 = .ok (.iconst 1, 1) := by decide +kernel
theorem d_Fmt_rounded_30 : decode prog_4_method_14_code 30 = .ok (.goto 4, 3) := by decide +kernel
theorem d_Fmt_rounded_33 : decode prog_4_method_14_code 33 = .ok (.iconst 0, 1) := by decide +kernel
theorem d_Fmt_rounded_34 : decode prog_4_method_14_code 34 = .ok (.istore 10, 2) := by decide +kernel
theorem d_Fmt_rounded_36 : decode prog_4_method_14_code 36 = .ok (.lload 6, 2) := by decide +kernel
theorem d_Fmt_rounded_38 : decode prog_4_method_14_code 38 = .ok (.lload 8, 2) := by decide +kernel
theorem d_Fmt_rounded_40 : decode prog_4_method_14_code 40 = .ok (.lcmp, 1) := by decide +kernel
theorem d_Fmt_rounded_41 : decode prog_4_method_14_code 41 = .ok (.ifCond .gt 20, 3) := by decide +kernel
theorem d_Fmt_rounded_44 : decode prog_4_method_14_code 44 = .ok (.lload 6, 2) := by decide +kernel
theorem d_Fmt_rounded_46 : decode prog_4_method_14_code 46 = .ok (.lload 8, 2) := by decide +kernel
theorem d_Fmt_rounded_48 : decode prog_4_method_14_code 48 = .ok (.lcmp, 1) := by decide +kernel
theorem d_Fmt_rounded_49 : decode prog_4_method_14_code 49 = .ok (.ifCond .ne 16, 3) := by decide +kernel
theorem d_Fmt_rounded_52 : decode prog_4_method_14_code 52 = .ok (.iload_n 3, 1) := by decide +kernel
theorem d_Fmt_rounded_53 : decode prog_4_method_14_code 53 = .ok (.ifCond .ne 8, 3) := by decide +kernel
theorem d_Fmt_rounded_56 : decode prog_4_method_14_code 56 = .ok (.iload 10, 2) := by decide +kernel
theorem d_Fmt_rounded_58 : decode prog_4_method_14_code 58 = .ok (.ifCond .eq 7, 3) := by decide +kernel
theorem d_Fmt_rounded_61 : decode prog_4_method_14_code 61 = .ok (.iconst 1, 1) := by decide +kernel
theorem d_Fmt_rounded_62 : decode prog_4_method_14_code 62 = .ok (.goto 4, 3) := by decide +kernel
theorem d_Fmt_rounded_65 : decode prog_4_method_14_code 65 = .ok (.iconst 0, 1) := by decide +kernel
theorem d_Fmt_rounded_66 : decode prog_4_method_14_code 66 = .ok (.istore 11, 2) := by decide +kernel
theorem d_Fmt_rounded_68 : decode prog_4_method_14_code 68 = .ok (.iload 11, 2) := by decide +kernel
theorem d_Fmt_rounded_70 : decode prog_4_method_14_code 70 = .ok (.ifCond .eq 10, 3) := by decide +kernel
theorem d_Fmt_rounded_73 : decode prog_4_method_14_code 73 = .ok (.lload 4, 2) := by decide +kernel
theorem d_Fmt_rounded_75 : decode prog_4_method_14_code 75 = .ok (.lconst 1, 1) := by decide +kernel
theorem d_Fmt_rounded_76 : decode prog_4_method_14_code 76 = .ok (.ladd, 1) := by decide +kernel
theorem d_Fmt_rounded_77 : decode prog_4_method_14_code 77 = .ok (.goto 5, 3) := by decide +kernel
theorem d_Fmt_rounded_80 : decode prog_4_method_14_code 80 = .ok (.lload 4, 2) := by decide +kernel
theorem d_Fmt_rounded_82 : decode prog_4_method_14_code 82 = .ok (.lreturn, 1) := by decide +kernel
def f_Fmt_rounded_66 (x0 : Int64) (x2 : Int32) (x3 : Int32)  (y4 : Int64) (k0 : Int32) : Option (Int64) :=
  (if k0 = 0 then
  some (y4)
  else
  some (y4 + 1))
def f_Fmt_rounded_61 (x0 : Int64) (x2 : Int32) (x3 : Int32)  (y4 : Int64) : Option (Int64) :=
  f_Fmt_rounded_66 x0 x2 x3 y4 1
def f_Fmt_rounded_65 (x0 : Int64) (x2 : Int32) (x3 : Int32)  (y4 : Int64) : Option (Int64) :=
  f_Fmt_rounded_66 x0 x2 x3 y4 0
def f_Fmt_rounded_34 (x0 : Int64) (x2 : Int32) (x3 : Int32)  (y4 : Int64) (y6 : Int64) (y8 : Int64) (k0 : Int32) : Option (Int64) :=
  (if 0 < (lg_cmp y6 y8) then
  f_Fmt_rounded_61 x0 x2 x3 y4
  else
  (if (lg_cmp y6 y8) = 0 then
  (if x3 = 0 then
  (if k0 = 0 then
  f_Fmt_rounded_65 x0 x2 x3 y4
  else
  f_Fmt_rounded_61 x0 x2 x3 y4)
  else
  f_Fmt_rounded_61 x0 x2 x3 y4)
  else
  f_Fmt_rounded_65 x0 x2 x3 y4))
def f_Fmt_rounded (x0 : Int64) (x2 : Int32) (x3 : Int32) : Option (Int64) :=
  zz_lt ((x0.toUInt64 >>> (x2.toInt64.toUInt64 &&& Int64.toUInt64 63)).toInt64) fun x4_1 =>
  zz_lt (x0 - (x4_1 <<< (x2.toInt64 &&& 63))) fun x6_2 =>
  zz_lt (1 <<< ((x2 - 1).toInt64 &&& 63)) fun x8_3 =>
  (if (lg_cmp (x4_1 &&& 1) 0) = 0 then
  f_Fmt_rounded_34 x0 x2 x3 x4_1 x6_2 x8_3 0
  else
  f_Fmt_rounded_34 x0 x2 x3 x4_1 x6_2 x8_3 1)
set_option maxHeartbeats 4000000 in
set_option maxRecDepth 100000 in
theorem c_Fmt_rounded (l : Launch) (dC : Nat → ClassId) (dI : Nat → Nat → Nat) (cI cC cB cJ : ClassId) (sz : Nat) (x0 : Int64) (x2 : Int32) (x3 : Int32) (u : Int64) (hf : f_Fmt_rounded x0 x2 x3 = some u) : Met l y_Fmt_rounded ws_Fmt_rounded rm_Fmt_rounded (zz_P zz_T (dC, dI) vwCl (zz_tys cI cC cB cJ) [.long x0, .int x2, .int x3] [] sz) (zz_Ql (dC, dI) vwCl u [] (va_A [] sz)) 0 0 (va_A [] sz) := by
  refine Met.ofW (cc := prog_4_method_14_code) (maxL := 12) (ret := (some .long)) (by decide +kernel) rfl ?_
  intro p e s m args below meth c s₁ B hml hv
  obtain ⟨rfl, hsz, hP, hK, hD0, hX⟩ := hv
  have hx := B.exec
  have hb := B.bytes
  have hr := B.returns
  have hts := atoms_spec (ws := ws_Fmt_rounded) B.pre
  have hw : ∀ w ∈ zw, w.before [.long x0, .int x2, .int x3].toArray s = true := fun w h => hts w (List.mem_cons_of_mem _ h)
  have hown : s.vm.findClass R_Fmt = some m.cls := findClass_of_methodNamed B.named
  have hlocks := B.notSynchronized
  subst hsz
  have hD := hD0.self (sz := s.heap.size)
  generalize hAe : va_A [] s.heap.size = A at hD hX ⊢
  have hA : ∀ q : Nat, s.heap.size ≤ q → A q := fun q h => by rw [← hAe]; exact Or.inr h
  have hS : va_S A s.heap s.heap [] := va_S.rf
  have hl := lv_entry [.long x0, .int x2, .int x3] (n := 12) (Nat.le_of_ble_eq_true rfl)
  rw [lg_entry_eq]
  generalize (lg_sl [.long x0, .int x2, .int x3] ++ List.replicate (12 - (lg_sl [.long x0, .int x2, .int x3]).length) Slot.unset).toArray = ls at hl ⊢
  have hl : lv_has ls 12 [(0, .long x0), (2, .int x2), (3, .int x3)] := hl
  refine zz_endl hx hb hr hlocks (fun Qq hend => ?_)
  have hL_66 : ∀ (y4 : Int64) (k0 : Int32) (ls : Array Slot) (H : Heap) (locs : List Loc), lv_has ls 12 [(4, .long y4)] → va_P (dC, dI) vwCl [] H → va_D A [] → va_S A s.heap H locs → f_Fmt_rounded_66 x0 x2 x3 y4 k0 = some u → W p l e (headSpec ws_Fmt_rounded rm_Fmt_rounded).room s m [.long x0, .int x2, .int x3].toArray below meth c H locs 0 0 Qq (F0 m 66 ls [.int k0]) := by
    intro y4 k0 ls H locs hl hP hD hS hf
    unfold f_Fmt_rounded_66 at hf
    refine lv_istore hx hb d_Fmt_rounded_66 hl (by decide) rfl (fun ls hl => ?_)
    have hl : lv_has ls 12 [(11, .int k0), (4, .long y4)] := hl
    refine lv_iload hx hb d_Fmt_rounded_68 (lv_at hl 0 rfl) ?_
    refine lv_if_eq (tgt := 80) hx hb d_Fmt_rounded_70 (by decide) (fun hc => ?_) (fun hc => ?_)
    · have hf := zz_ifp hc hf
      refine lv_lload hx hb d_Fmt_rounded_80 (lv_at hl 1 rfl) ?_
      cases hf
      exact hend 82 ls _ _ d_Fmt_rounded_82 hP hD hS
    · have hf := zz_ifn hc hf
      refine lv_lload hx hb d_Fmt_rounded_73 (lv_at hl 1 rfl) ?_
      refine lv_lconst (v := 1) hx hb d_Fmt_rounded_75 (by decide) ?_
      refine lv_ladd hx hb d_Fmt_rounded_76 ?_
      refine lv_goto (tgt := 82) hx hb d_Fmt_rounded_77 (by decide) ?_
      cases hf
      exact hend 82 ls _ _ d_Fmt_rounded_82 hP hD hS
  have hL_61 : ∀ (y4 : Int64) (ls : Array Slot) (H : Heap) (locs : List Loc), lv_has ls 12 [(4, .long y4)] → va_P (dC, dI) vwCl [] H → va_D A [] → va_S A s.heap H locs → f_Fmt_rounded_61 x0 x2 x3 y4 = some u → W p l e (headSpec ws_Fmt_rounded rm_Fmt_rounded).room s m [.long x0, .int x2, .int x3].toArray below meth c H locs 0 0 Qq (F0 m 61 ls []) := by
    intro y4 ls H locs hl hP hD hS hf
    unfold f_Fmt_rounded_61 at hf
    refine lv_iconst (v := 1) hx hb d_Fmt_rounded_61 (by decide) ?_
    refine lv_goto (tgt := 66) hx hb d_Fmt_rounded_62 (by decide) ?_
    exact hL_66 y4 1 ls _ _ (lv_sub hl [0] rfl) hP hD hS hf
  have hL_65 : ∀ (y4 : Int64) (ls : Array Slot) (H : Heap) (locs : List Loc), lv_has ls 12 [(4, .long y4)] → va_P (dC, dI) vwCl [] H → va_D A [] → va_S A s.heap H locs → f_Fmt_rounded_65 x0 x2 x3 y4 = some u → W p l e (headSpec ws_Fmt_rounded rm_Fmt_rounded).room s m [.long x0, .int x2, .int x3].toArray below meth c H locs 0 0 Qq (F0 m 65 ls []) := by
    intro y4 ls H locs hl hP hD hS hf
    unfold f_Fmt_rounded_65 at hf
    refine lv_iconst (v := 0) hx hb d_Fmt_rounded_65 (by decide) ?_
    exact hL_66 y4 0 ls _ _ (lv_sub hl [0] rfl) hP hD hS hf
  have hL_34 : ∀ (y4 : Int64) (y6 : Int64) (y8 : Int64) (k0 : Int32) (ls : Array Slot) (H : Heap) (locs : List Loc), lv_has ls 12 [(3, .int x3), (4, .long y4), (6, .long y6), (8, .long y8)] → va_P (dC, dI) vwCl [] H → va_D A [] → va_S A s.heap H locs → f_Fmt_rounded_34 x0 x2 x3 y4 y6 y8 k0 = some u → W p l e (headSpec ws_Fmt_rounded rm_Fmt_rounded).room s m [.long x0, .int x2, .int x3].toArray below meth c H locs 0 0 Qq (F0 m 34 ls [.int k0]) := by
    intro y4 y6 y8 k0 ls H locs hl hP hD hS hf
    unfold f_Fmt_rounded_34 at hf
    refine lv_istore hx hb d_Fmt_rounded_34 hl (by decide) rfl (fun ls hl => ?_)
    have hl : lv_has ls 12 [(10, .int k0), (3, .int x3), (4, .long y4), (6, .long y6), (8, .long y8)] := hl
    refine lv_lload hx hb d_Fmt_rounded_36 (lv_at hl 3 rfl) ?_
    refine lv_lload hx hb d_Fmt_rounded_38 (lv_at hl 4 rfl) ?_
    refine W.lcmp hx hb d_Fmt_rounded_40 ?_
    refine lv_if_gt (tgt := 61) hx hb d_Fmt_rounded_41 (by decide) (fun hc => ?_) (fun hc => ?_)
    · have hf := zz_ifp hc hf
      exact hL_61 y4 ls _ _ (lv_sub hl [2] rfl) hP hD hS hf
    · have hf := zz_ifn hc hf
      refine lv_lload hx hb d_Fmt_rounded_44 (lv_at hl 3 rfl) ?_
      refine lv_lload hx hb d_Fmt_rounded_46 (lv_at hl 4 rfl) ?_
      refine W.lcmp hx hb d_Fmt_rounded_48 ?_
      refine lv_if_ne (tgt := 65) hx hb d_Fmt_rounded_49 (by decide) (fun hc => ?_) (fun hc => ?_)
      · have hf := zz_ifn hc hf
        exact hL_65 y4 ls _ _ (lv_sub hl [2] rfl) hP hD hS hf
      · have hf := zz_ifp hc hf
        refine lv_iload_n hx hb d_Fmt_rounded_52 rfl (lv_at hl 1 rfl) ?_
        refine lv_if_ne (tgt := 61) hx hb d_Fmt_rounded_53 (by decide) (fun hc => ?_) (fun hc => ?_)
        · have hf := zz_ifn hc hf
          exact hL_61 y4 ls _ _ (lv_sub hl [2] rfl) hP hD hS hf
        · have hf := zz_ifp hc hf
          refine lv_iload hx hb d_Fmt_rounded_56 (lv_at hl 0 rfl) ?_
          refine lv_if_eq (tgt := 65) hx hb d_Fmt_rounded_58 (by decide) (fun hc => ?_) (fun hc => ?_)
          · have hf := zz_ifp hc hf
            exact hL_65 y4 ls _ _ (lv_sub hl [2] rfl) hP hD hS hf
          · have hf := zz_ifn hc hf
            exact hL_61 y4 ls _ _ (lv_sub hl [2] rfl) hP hD hS hf
  unfold f_Fmt_rounded at hf
  refine lv_lload_n hx hb d_Fmt_rounded_0 rfl (lv_at hl 0 rfl) ?_
  refine lv_iload_n hx hb d_Fmt_rounded_1 rfl (lv_at hl 1 rfl) ?_
  refine lv_lushr hx hb d_Fmt_rounded_2 rfl ?_
  refine lv_topl (fun x4_1 e_x4_1 => ?_)
  have hf := zz_ltp hf x4_1 e_x4_1
  refine lv_lstore hx hb d_Fmt_rounded_3 hl (by decide) rfl (fun ls hl => ?_)
  have hl : lv_has ls 12 [(4, .long x4_1), (0, .long x0), (2, .int x2), (3, .int x3)] := hl
  refine lv_lload_n hx hb d_Fmt_rounded_5 rfl (lv_at hl 1 rfl) ?_
  refine lv_lload hx hb d_Fmt_rounded_6 (lv_at hl 0 rfl) ?_
  refine lv_iload_n hx hb d_Fmt_rounded_8 rfl (lv_at hl 2 rfl) ?_
  refine lv_lshl hx hb d_Fmt_rounded_9 rfl ?_
  refine lv_lsub hx hb d_Fmt_rounded_10 ?_
  refine lv_topl (fun x6_2 e_x6_2 => ?_)
  have hf := zz_ltp hf x6_2 e_x6_2
  refine lv_lstore hx hb d_Fmt_rounded_11 hl (by decide) rfl (fun ls hl => ?_)
  have hl : lv_has ls 12 [(6, .long x6_2), (4, .long x4_1), (0, .long x0), (2, .int x2), (3, .int x3)] := hl
  refine lv_lconst (v := 1) hx hb d_Fmt_rounded_13 (by decide) ?_
  refine lv_iload_n hx hb d_Fmt_rounded_14 rfl (lv_at hl 3 rfl) ?_
  refine lv_iconst (v := 1) hx hb d_Fmt_rounded_15 (by decide) ?_
  refine lv_isub hx hb d_Fmt_rounded_16 ?_
  refine lv_lshl hx hb d_Fmt_rounded_17 rfl ?_
  refine lv_topl (fun x8_3 e_x8_3 => ?_)
  have hf := zz_ltp hf x8_3 e_x8_3
  refine lv_lstore hx hb d_Fmt_rounded_18 hl (by decide) rfl (fun ls hl => ?_)
  have hl : lv_has ls 12 [(8, .long x8_3), (6, .long x6_2), (4, .long x4_1), (0, .long x0), (2, .int x2), (3, .int x3)] := hl
  refine lv_lload hx hb d_Fmt_rounded_20 (lv_at hl 2 rfl) ?_
  refine lv_lconst (v := 1) hx hb d_Fmt_rounded_22 (by decide) ?_
  refine lv_land hx hb d_Fmt_rounded_23 ?_
  refine lv_lconst (v := 0) hx hb d_Fmt_rounded_24 (by decide) ?_
  refine W.lcmp hx hb d_Fmt_rounded_25 ?_
  refine lv_if_eq (tgt := 33) hx hb d_Fmt_rounded_26 (by decide) (fun hc => ?_) (fun hc => ?_)
  · have hf := zz_ifp hc hf
    refine lv_iconst (v := 0) hx hb d_Fmt_rounded_33 (by decide) ?_
    exact hL_34 x4_1 x6_2 x8_3 0 ls _ _ (lv_sub hl [5, 2, 1, 0] rfl) hP hD hS hf
  · have hf := zz_ifn hc hf
    refine lv_iconst (v := 1) hx hb d_Fmt_rounded_29 (by decide) ?_
    refine lv_goto (tgt := 34) hx hb d_Fmt_rounded_30 (by decide) ?_
    exact hL_34 x4_1 x6_2 x8_3 1 ls _ _ (lv_sub hl [5, 2, 1, 0] rfl) hP hD hS hf
abbrev ws_Fmt_join : List Cond := .code y_Fmt_join prog_4_method_15_code 7 (some .long) :: zw
abbrev rm_Fmt_join : Room := { frames := 1, cells := 0, slots := 0, locals := 20 }
theorem hd_Fmt_join : y_Fmt_join.cls = "RealText$Format" ∧ y_Fmt_join.cls ≠ "java/lang/invoke/MethodHandle" ∧ y_Fmt_join.cls ≠ "java/lang/invoke/VarHandle" ∧ (parseMethodDescriptor y_Fmt_join.desc).map (fun d => d.parameters.length) = some 2 := by decide +kernel
theorem d_Fmt_join_0 : decode prog_4_method_15_code 0 = .ok (.iload_n 3, 1) := by decide +kernel
theorem d_Fmt_join_1 : decode prog_4_method_15_code 1 = .ok (.aload_n 0, 1) := by decide +kernel
theorem d_Fmt_join_2 : decode prog_4_method_15_code 2 = .ok (.getfield 38, 3) := by decide +kernel
theorem d_Fmt_join_5 : decode prog_4_method_15_code 5 = .ok (.isub, 1) := by decide +kernel
theorem d_Fmt_join_6 : decode prog_4_method_15_code 6 = .ok (.istore 4, 2) := by decide +kernel
theorem d_Fmt_join_8 : decode prog_4_method_15_code 8 = .ok (.lload_n 1, 1) := by decide +kernel
theorem d_Fmt_join_9 : decode prog_4_method_15_code 9 = .ok (.lconst 0, 1) := by decide +kernel
theorem d_Fmt_join_10 : decode prog_4_method_15_code 10 = .ok (.lcmp, 1) := by decide +kernel
theorem d_Fmt_join_11 : decode prog_4_method_15_code 11 = .ok (.ifCond .eq 14, 3) := by decide +kernel
theorem d_Fmt_join_14 : decode prog_4_method_15_code 14 = .ok (.iload 4, 2) := by decide +kernel
theorem d_Fmt_join_16 : decode prog_4_method_15_code 16 = .ok (.aload_n 0, 1) := by decide +kernel
theorem d_Fmt_join_17 : decode prog_4_method_15_code 17 = .ok (.getfield 35, 3) := by decide +kernel
theorem d_Fmt_join_20 : decode prog_4_method_15_code 20 = .ok (.iconst 1, 1) := by decide +kernel
theorem d_Fmt_join_21 : decode prog_4_method_15_code 21 = .ok (.isub, 1) := by decide +kernel
theorem d_Fmt_join_22 : decode prog_4_method_15_code 22 = .ok (.if_icmp .lt 7, 3) := by decide +kernel
theorem d_Fmt_join_25 : decode prog_4_method_15_code 25 = .ok (.ldc2_w 66, 3) := by decide +kernel
theorem d_Fmt_join_28 : decode prog_4_method_15_code 28 = .ok (.lreturn, 1) := by decide +kernel
theorem d_Fmt_join_29 : decode prog_4_method_15_code 29 = .ok (.iload 4, 2) := by decide +kernel
theorem d_Fmt_join_31 : decode prog_4_method_15_code 31 = .ok (.i2l, 1) := by decide +kernel
theorem d_Fmt_join_32 : decode prog_4_method_15_code 32 = .ok (.aload_n 0, 1) := by decide +kernel
theorem d_Fmt_join_33 : decode prog_4_method_15_code 33 = .ok (.getfield 31, 3) := by decide +kernel
theorem d_Fmt_join_36 : decode prog_4_method_15_code 36 = .ok (.lshl, 1) := by decide +kernel
theorem d_Fmt_join_37 : decode prog_4_method_15_code 37 = .ok (.lload_n 1, 1) := by decide +kernel
theorem d_Fmt_join_38 : decode prog_4_method_15_code 38 = .ok (.ladd, 1) := by decide +kernel
theorem d_Fmt_join_39 : decode prog_4_method_15_code 39 = .ok (.lstore 5, 2) := by decide +kernel
theorem d_Fmt_join_41 : decode prog_4_method_15_code 41 = .ok (.lload 5, 2) := by decide +kernel
theorem d_Fmt_join_43 : decode prog_4_method_15_code 43 = .ok (.aload_n 0, 1) := by decide +kernel
theorem d_Fmt_join_44 : decode prog_4_method_15_code 44 = .ok (.invokevirtual 41, 3) := by decide +kernel
theorem d_Fmt_join_47 : decode prog_4_method_15_code 47 = .ok (.lcmp, 1) := by decide +kernel
theorem d_Fmt_join_48 : decode prog_4_method_15_code 48 = .ok (.ifCond .ge 8, 3) := by decide +kernel
theorem d_Fmt_join_51 : decode prog_4_method_15_code 51 = .ok (.lload 5, 2) := by decide +kernel
theorem d_Fmt_join_53 : decode prog_4_method_15_code 53 = .ok (.goto 6, 3) := by decide +kernel
theorem d_Fmt_join_56 : decode prog_4_method_15_code 56 = .ok (.ldc2_w 66, 3) := by decide +kernel
theorem d_Fmt_join_59 : decode prog_4_method_15_code 59 = .ok (.lreturn, 1) := by decide +kernel
def f_Fmt_join (x0 : Nat) (x1 : Int64) (x3 : Int32) : Option (Int64) :=
  zz_lt (x3 - (zx_leastPower x0)) fun x4_1 =>
  (if (lg_cmp x1 0) = 0 then
  some ((-2))
  else
  (if x4_1 < ((zx_exponentMask x0) - 1) then
  zz_lt ((x4_1.toInt64 <<< ((zx_fractionBits x0).toInt64 &&& 63)) + x1) fun x5_2 =>
  (f_Fmt_infinity x0).bind fun u_3 =>
  (if 0 ≤ (lg_cmp x5_2 u_3) then
  some ((-2))
  else
  some (x5_2))
  else
  some ((-2))))
set_option maxHeartbeats 4000000 in
set_option maxRecDepth 100000 in
theorem c_Fmt_join (l : Launch) (dC : Nat → ClassId) (dI : Nat → Nat → Nat) (cI cC cB cJ : ClassId) (adF : Nat → Nat) (tp : Nat) (adK adV : Nat → Nat) (sz : Nat) (x0 : Nat) (x1 : Int64) (x3 : Int32) (he_x0 : x0 < 2) (u : Int64) (hf : f_Fmt_join x0 x1 x3 = some u) : Met l y_Fmt_join ws_Fmt_join rm_Fmt_join (zz_P (zx_E adF tp adK adV) (dC, dI) vwCl (zz_tys cI cC cB cJ) [.ref (adF x0), .long x1, .int x3] [] sz) (zz_Ql (dC, dI) vwCl u [] (va_A [] sz)) 0 0 (va_A [] sz) := by
  refine Met.ofW (cc := prog_4_method_15_code) (maxL := 7) (ret := (some .long)) (by decide +kernel) rfl ?_
  intro p e s m args below meth c s₁ B hml hv
  obtain ⟨rfl, hsz, hP, hK, hD0, hX⟩ := hv
  have hx := B.exec
  have hb := B.bytes
  have hr := B.returns
  have hts := atoms_spec (ws := ws_Fmt_join) B.pre
  have hw : ∀ w ∈ zw, w.before [.ref (adF x0), .long x1, .int x3].toArray s = true := fun w h => hts w (List.mem_cons_of_mem _ h)
  have hown : s.vm.findClass R_Fmt = some m.cls := findClass_of_methodNamed B.named
  have hlocks := B.notSynchronized
  subst hsz
  have hD := hD0.self (sz := s.heap.size)
  generalize hAe : va_A [] s.heap.size = A at hD hX ⊢
  have hA : ∀ q : Nat, s.heap.size ≤ q → A q := fun q h => by rw [← hAe]; exact Or.inr h
  have hS : va_S A s.heap s.heap [] := va_S.rf
  have hl := lv_entry [.ref (adF x0), .long x1, .int x3] (n := 7) (Nat.le_of_ble_eq_true rfl)
  rw [lg_entry_eq]
  generalize (lg_sl [.ref (adF x0), .long x1, .int x3] ++ List.replicate (7 - (lg_sl [.ref (adF x0), .long x1, .int x3]).length) Slot.unset).toArray = ls at hl ⊢
  have hl : lv_has ls 7 [(0, .ref (adF x0)), (1, .long x1), (3, .int x3)] := hl
  refine zz_endl hx hb hr hlocks (fun Qq hend => ?_)
  unfold f_Fmt_join at hf
  refine lv_iload_n hx hb d_Fmt_join_0 rfl (lv_at hl 2 rfl) ?_
  refine lv_aload_n hx hb d_Fmt_join_1 rfl (lv_at hl 0 rfl) ?_
  refine va_getE (q := zx_q2) hx hb hX.1 he_x0 hS hown zx_m2 (hw _ wd_917) (fun _ h9 => h9) d_Fmt_join_2 ?_
  refine lv_isub hx hb d_Fmt_join_5 ?_
  refine lv_topi (fun x4_1 e_x4_1 => ?_)
  have hf := zz_ltp hf x4_1 e_x4_1
  refine lv_istore hx hb d_Fmt_join_6 hl (by decide) rfl (fun ls hl => ?_)
  have hl : lv_has ls 7 [(4, .int x4_1), (0, .ref (adF x0)), (1, .long x1), (3, .int x3)] := hl
  refine lv_lload_n hx hb d_Fmt_join_8 rfl (lv_at hl 2 rfl) ?_
  refine lv_lconst (v := 0) hx hb d_Fmt_join_9 (by decide) ?_
  refine W.lcmp hx hb d_Fmt_join_10 ?_
  refine lv_if_eq (tgt := 25) hx hb d_Fmt_join_11 (by decide) (fun hc => ?_) (fun hc => ?_)
  · have hf := zz_ifp hc hf
    refine lv_ldc2 (v := (-2)) hx hb hown (hw _ wd_610) d_Fmt_join_25 ?_
    cases hf
    exact hend 28 ls _ _ d_Fmt_join_28 hP hD hS
  · have hf := zz_ifn hc hf
    refine lv_iload hx hb d_Fmt_join_14 (lv_at hl 0 rfl) ?_
    refine lv_aload_n hx hb d_Fmt_join_16 rfl (lv_at hl 1 rfl) ?_
    refine va_getE (q := zx_q1) hx hb hX.1 he_x0 hS hown zx_m1 (hw _ wd_918) (fun _ h9 => h9) d_Fmt_join_17 ?_
    refine lv_iconst (v := 1) hx hb d_Fmt_join_20 (by decide) ?_
    refine lv_isub hx hb d_Fmt_join_21 ?_
    refine lv_icmp_lt (tgt := 29) hx hb d_Fmt_join_22 (by decide) (fun hc => ?_) (fun hc => ?_)
    · have hf := zz_ifp hc hf
      refine lv_iload hx hb d_Fmt_join_29 (lv_at hl 0 rfl) ?_
      refine lv_i2l hx hb d_Fmt_join_31 rfl ?_
      refine lv_aload_n hx hb d_Fmt_join_32 rfl (lv_at hl 1 rfl) ?_
      refine va_getE (q := zx_q0) hx hb hX.1 he_x0 hS hown zx_m0 (hw _ wd_916) (fun _ h9 => h9) d_Fmt_join_33 ?_
      refine lv_lshl hx hb d_Fmt_join_36 rfl ?_
      refine lv_lload_n hx hb d_Fmt_join_37 rfl (lv_at hl 2 rfl) ?_
      refine lv_ladd hx hb d_Fmt_join_38 ?_
      refine lv_topl (fun x5_2 e_x5_2 => ?_)
      have hf := zz_ltp hf x5_2 e_x5_2
      refine lv_lstore hx hb d_Fmt_join_39 hl (by decide) rfl (fun ls hl => ?_)
      have hl : lv_has ls 7 [(5, .long x5_2), (4, .int x4_1), (0, .ref (adF x0)), (1, .long x1), (3, .int x3)] := hl
      refine lv_lload hx hb d_Fmt_join_41 (lv_at hl 0 rfl) ?_
      refine lv_aload_n hx hb d_Fmt_join_43 rfl (lv_at hl 2 rfl) ?_
      obtain ⟨u_3, hu_3, hf⟩ := zz_bd hf
      refine zz_cl (ws' := []) (wc := []) (w' := []) hP hD hS hA [] [] [] rfl rfl (by decide) (by decide) rfl (by decide) (va_runV (As := []) (rest := [.long x5_2]) ⟨hx, hb, hml, hown, hw⟩ (c_Fmt_infinity l dC dI cI cC cB cJ adF tp adK adV _ x0 he_x0 u_3 hu_3) (cwV 0 hw (zg_V wd_208 wd_209 wd_210 wd_15 wd_211) rfl rfl rfl hd_Fmt_infinity ⟨Nat.le_of_ble_eq_true rfl, Nat.le_of_ble_eq_true rfl⟩) (zz_preV (zx_ok adF tp adK adV) (va_recvE hX.1 he_x0 hS) hP hD hK hS hA hX [] rfl (by decide)) rfl rfl hl.1 rfl (lv_room (Nat.le_of_ble_eq_true rfl)) d_Fmt_join_44 ⟨Nat.zero_le _, Nat.zero_le _⟩) (fun H locs hP hD hS => ?_)
      refine W.lcmp hx hb d_Fmt_join_47 ?_
      refine lv_if_ge (tgt := 56) hx hb d_Fmt_join_48 (by decide) (fun hc => ?_) (fun hc => ?_)
      · have hf := zz_ifp hc hf
        refine lv_ldc2 (v := (-2)) hx hb hown (hw _ wd_610) d_Fmt_join_56 ?_
        cases hf
        exact hend 59 ls _ _ d_Fmt_join_59 hP hD hS
      · have hf := zz_ifn hc hf
        refine lv_lload hx hb d_Fmt_join_51 (lv_at hl 0 rfl) ?_
        refine lv_goto (tgt := 59) hx hb d_Fmt_join_53 (by decide) ?_
        cases hf
        exact hend 59 ls _ _ d_Fmt_join_59 hP hD hS
    · have hf := zz_ifn hc hf
      refine lv_ldc2 (v := (-2)) hx hb hown (hw _ wd_610) d_Fmt_join_25 ?_
      cases hf
      exact hend 28 ls _ _ d_Fmt_join_28 hP hD hS
abbrev ws_Fmt_nearest : List Cond := .code y_Fmt_nearest prog_4_method_13_code 9 (some .long) :: zw
abbrev rm_Fmt_nearest : Room := { frames := 2, cells := 0, slots := 0, locals := 46 }
theorem hd_Fmt_nearest : y_Fmt_nearest.cls = "RealText$Format" ∧ y_Fmt_nearest.cls ≠ "java/lang/invoke/MethodHandle" ∧ y_Fmt_nearest.cls ≠ "java/lang/invoke/VarHandle" ∧ (parseMethodDescriptor y_Fmt_nearest.desc).map (fun d => d.parameters.length) = some 3 := by decide +kernel
theorem d_Fmt_nearest_0 : decode prog_4_method_13_code 0 = .ok (.lload_n 1, 1) := by decide +kernel
theorem d_Fmt_nearest_1 : decode prog_4_method_13_code 1 = .ok (.lstore 5, 2) := by decide +kernel
theorem d_Fmt_nearest_3 : decode prog_4_method_13_code 3 = .ok (.iload_n 3, 1) := by decide +kernel
theorem d_Fmt_nearest_4 : decode prog_4_method_13_code 4 = .ok (.istore 7, 2) := by decide +kernel
theorem d_Fmt_nearest_6 : decode prog_4_method_13_code 6 = .ok (.iconst 0, 1) := by decide +kernel
theorem d_Fmt_nearest_7 : decode prog_4_method_13_code 7 = .ok (.istore 8, 2) := by decide +kernel
theorem d_Fmt_nearest_9 : decode prog_4_method_13_code 9 = .ok (.iload 8, 2) := by decide +kernel
theorem d_Fmt_nearest_11 : decode prog_4_method_13_code 11 = .ok (.bipush 63, 2) := by decide +kernel
theorem d_Fmt_nearest_13 : decode prog_4_method_13_code 13 = .ok (.if_icmp .ge 29, 3) := by decide +kernel
theorem d_Fmt_nearest_16 : decode prog_4_method_13_code 16 = .ok (.lload 5, 2) := by decide +kernel
theorem d_Fmt_nearest_18 : decode prog_4_method_13_code 18 = .ok (.ldc2_w 64, 3) := by decide +kernel
theorem d_Fmt_nearest_21 : decode prog_4_method_13_code 21 = .ok (.land, 1) := by decide +kernel
theorem d_Fmt_nearest_22 : decode prog_4_method_13_code 22 = .ok (.lconst 0, 1) := by decide +kernel
theorem d_Fmt_nearest_23 : decode prog_4_method_13_code 23 = .ok (.lcmp, 1) := by decide +kernel
theorem d_Fmt_nearest_24 : decode prog_4_method_13_code 24 = .ok (.ifCond .ne 18, 3) := by decide +kernel
theorem d_Fmt_nearest_27 : decode prog_4_method_13_code 27 = .ok (.lload 5, 2) := by decide +kernel
theorem d_Fmt_nearest_29 : decode prog_4_method_13_code 29 = .ok (.iconst 1, 1) := by decide +kernel
theorem d_Fmt_nearest_30 : decode prog_4_method_13_code 30 = .ok (.lshl, 1) := by decide +kernel
theorem d_Fmt_nearest_31 : decode prog_4_method_13_code 31 = .ok (.lstore 5, 2) := by decide +kernel
theorem d_Fmt_nearest_33 : decode prog_4_method_13_code 33 = .ok (.iinc 7 (-1), 3) := by decide +kernel
theorem d_Fmt_nearest_36 : decode prog_4_method_13_code 36 = .ok (.iinc 8 1, 3) := by decide +kernel
theorem d_Fmt_nearest_39 : decode prog_4_method_13_code 39 = .ok (.goto (-30), 3) := by decide +kernel
theorem d_Fmt_nearest_42 : decode prog_4_method_13_code 42 = .ok (.bipush 62, 2) := by decide +kernel
theorem d_Fmt_nearest_44 : decode prog_4_method_13_code 44 = .ok (.aload_n 0, 1) := by decide +kernel
theorem d_Fmt_nearest_45 : decode prog_4_method_13_code 45 = .ok (.getfield 31, 3) := by decide +kernel
theorem d_Fmt_nearest_48 : decode prog_4_method_13_code 48 = .ok (.isub, 1) := by decide +kernel
theorem d_Fmt_nearest_49 : decode prog_4_method_13_code 49 = .ok (.aload_n 0, 1) := by decide +kernel
theorem d_Fmt_nearest_50 : decode prog_4_method_13_code 50 = .ok (.getfield 38, 3) := by decide +kernel
theorem d_Fmt_nearest_53 : decode prog_4_method_13_code 53 = .ok (.iload 7, 2) := by decide +kernel
theorem d_Fmt_nearest_55 : decode prog_4_method_13_code 55 = .ok (.isub, 1) := by decide +kernel
theorem d_Fmt_nearest_56 : decode prog_4_method_13_code 56 = .ok (.invokestatic 58, 3) := by decide +kernel
theorem d_Fmt_nearest_59 : decode prog_4_method_13_code 59 = .ok (.istore 8, 2) := by decide +kernel
theorem d_Fmt_nearest_61 : decode prog_4_method_13_code 61 = .ok (.iload 8, 2) := by decide +kernel
theorem d_Fmt_nearest_63 : decode prog_4_method_13_code 63 = .ok (.bipush 63, 2) := by decide +kernel
theorem d_Fmt_nearest_65 : decode prog_4_method_13_code 65 = .ok (.if_icmp .le 7, 3) := by decide +kernel
theorem d_Fmt_nearest_68 : decode prog_4_method_13_code 68 = .ok (.ldc2_w 66, 3) := by decide +kernel
theorem d_Fmt_nearest_71 : decode prog_4_method_13_code 71 = .ok (.lreturn, 1) := by decide +kernel
theorem d_Fmt_nearest_72 : decode prog_4_method_13_code 72 = .ok (.aload_n 0, 1) := by decide +kernel
theorem d_Fmt_nearest_73 : decode prog_4_method_13_code 73 = .ok (.lload 5, 2) := by decide +kernel
theorem d_Fmt_nearest_75 : decode prog_4_method_13_code 75 = .ok (.iload 8, 2) := by decide +kernel
theorem d_Fmt_nearest_77 : decode prog_4_method_13_code 77 = .ok (.iload 4, 2) := by decide +kernel
theorem d_Fmt_nearest_79 : decode prog_4_method_13_code 79 = .ok (.invokestatic 68, 3) := by decide +kernel
theorem d_Fmt_nearest_82 : decode prog_4_method_13_code 82 = .ok (.iload 7, 2) := by decide +kernel
theorem d_Fmt_nearest_84 : decode prog_4_method_13_code 84 = .ok (.iload 8, 2) := by decide +kernel
theorem d_Fmt_nearest_86 : decode prog_4_method_13_code 86 = .ok (.iadd, 1) := by decide +kernel
theorem d_Fmt_nearest_87 : decode prog_4_method_13_code 87 = .ok (.invokevirtual 72, 3) := by decide +kernel
theorem d_Fmt_nearest_90 : decode prog_4_method_13_code 90 = .ok (.lreturn, 1) := by decide +kernel
def f_Fmt_nearest_42 (fu : Nat) (x0 : Nat) (x1 : Int64) (x3 : Int32) (x4 : Int32)  (y5 : Int64) (y7 : Int32) : Option (Int64) :=
  (f_Mat_max (62 - (zx_fractionBits x0)) ((zx_leastPower x0) - y7)).bind fun u_1 =>
  (if u_1 ≤ 63 then
  (f_Fmt_rounded y5 u_1 x4).bind fun u_2 =>
  (f_Fmt_join x0 u_2 (y7 + u_1)).bind fun u_3 =>
  some (u_3)
  else
  some ((-2)))
def f_Fmt_nearest_9 (fu : Nat) (x0 : Nat) (x1 : Int64) (x3 : Int32) (x4 : Int32)  : Nat → Int64 → Int32 → Int32 → Option (Int64)
  | 0, _, _, _ => none
  | n + 1, y5, y7, y8 =>
  (if 63 ≤ y8 then
  f_Fmt_nearest_42 fu x0 x1 x3 x4 y5 y7
  else
  (if (lg_cmp (y5 &&& 4611686018427387904) 0) = 0 then
  zz_lt (y5 <<< ((1 : Int32).toInt64 &&& 63)) fun x5_4 =>
  f_Fmt_nearest_9 fu x0 x1 x3 x4 n x5_4 (y7 + (-1)) (y8 + 1)
  else
  f_Fmt_nearest_42 fu x0 x1 x3 x4 y5 y7))
theorem f_Fmt_nearest_9_s (fu : Nat) (x0 : Nat) (x1 : Int64) (x3 : Int32) (x4 : Int32)  (n : Nat) (y5 : Int64) (y7 : Int32) (y8 : Int32) : f_Fmt_nearest_9 fu x0 x1 x3 x4 (n + 1) y5 y7 y8 =
  (if 63 ≤ y8 then
  f_Fmt_nearest_42 fu x0 x1 x3 x4 y5 y7
  else
  (if (lg_cmp (y5 &&& 4611686018427387904) 0) = 0 then
  zz_lt (y5 <<< ((1 : Int32).toInt64 &&& 63)) fun x5_4 =>
  f_Fmt_nearest_9 fu x0 x1 x3 x4 n x5_4 (y7 + (-1)) (y8 + 1)
  else
  f_Fmt_nearest_42 fu x0 x1 x3 x4 y5 y7)) := rfl
def f_Fmt_nearest (fu : Nat) (x0 : Nat) (x1 : Int64) (x3 : Int32) (x4 : Int32) : Option (Int64) :=
  f_Fmt_nearest_9 fu x0 x1 x3 x4 fu x1 x3 0
set_option maxHeartbeats 4000000 in
set_option maxRecDepth 100000 in
theorem c_Fmt_nearest (l : Launch) (dC : Nat → ClassId) (dI : Nat → Nat → Nat) (cI cC cB cJ : ClassId) (adF : Nat → Nat) (tp : Nat) (adK adV : Nat → Nat) (fu : Nat) (sz : Nat) (x0 : Nat) (x1 : Int64) (x3 : Int32) (x4 : Int32) (he_x0 : x0 < 2) (u : Int64) (hf : f_Fmt_nearest fu x0 x1 x3 x4 = some u) : Met l y_Fmt_nearest ws_Fmt_nearest rm_Fmt_nearest (zz_P (zx_E adF tp adK adV) (dC, dI) vwCl (zz_tys cI cC cB cJ) [.ref (adF x0), .long x1, .int x3, .int x4] [] sz) (zz_Ql (dC, dI) vwCl u [] (va_A [] sz)) 0 0 (va_A [] sz) := by
  refine Met.ofW (cc := prog_4_method_13_code) (maxL := 9) (ret := (some .long)) (by decide +kernel) rfl ?_
  intro p e s m args below meth c s₁ B hml hv
  obtain ⟨rfl, hsz, hP, hK, hD0, hX⟩ := hv
  have hx := B.exec
  have hb := B.bytes
  have hr := B.returns
  have hts := atoms_spec (ws := ws_Fmt_nearest) B.pre
  have hw : ∀ w ∈ zw, w.before [.ref (adF x0), .long x1, .int x3, .int x4].toArray s = true := fun w h => hts w (List.mem_cons_of_mem _ h)
  have hown : s.vm.findClass R_Fmt = some m.cls := findClass_of_methodNamed B.named
  have hlocks := B.notSynchronized
  subst hsz
  have hD := hD0.self (sz := s.heap.size)
  generalize hAe : va_A [] s.heap.size = A at hD hX ⊢
  have hA : ∀ q : Nat, s.heap.size ≤ q → A q := fun q h => by rw [← hAe]; exact Or.inr h
  have hS : va_S A s.heap s.heap [] := va_S.rf
  have hl := lv_entry [.ref (adF x0), .long x1, .int x3, .int x4] (n := 9) (Nat.le_of_ble_eq_true rfl)
  rw [lg_entry_eq]
  generalize (lg_sl [.ref (adF x0), .long x1, .int x3, .int x4] ++ List.replicate (9 - (lg_sl [.ref (adF x0), .long x1, .int x3, .int x4]).length) Slot.unset).toArray = ls at hl ⊢
  have hl : lv_has ls 9 [(0, .ref (adF x0)), (1, .long x1), (3, .int x3), (4, .int x4)] := hl
  refine zz_endl hx hb hr hlocks (fun Qq hend => ?_)
  have hL_42 : ∀ (y5 : Int64) (y7 : Int32) (ls : Array Slot) (H : Heap) (locs : List Loc), lv_has ls 9 [(0, .ref (adF x0)), (4, .int x4), (5, .long y5), (7, .int y7)] → va_P (dC, dI) vwCl [] H → va_D A [] → va_S A s.heap H locs → f_Fmt_nearest_42 fu x0 x1 x3 x4 y5 y7 = some u → W p l e (headSpec ws_Fmt_nearest rm_Fmt_nearest).room s m [.ref (adF x0), .long x1, .int x3, .int x4].toArray below meth c H locs 0 0 Qq (F0 m 42 ls []) := by
    intro y5 y7 ls H locs hl hP hD hS hf
    unfold f_Fmt_nearest_42 at hf
    refine lv_bipush (v := 62) hx hb d_Fmt_nearest_42 (by decide) ?_
    refine lv_aload_n hx hb d_Fmt_nearest_44 rfl (lv_at hl 0 rfl) ?_
    refine va_getE (q := zx_q0) hx hb hX.1 he_x0 hS hown zx_m0 (hw _ wd_916) (fun _ h9 => h9) d_Fmt_nearest_45 ?_
    refine lv_isub hx hb d_Fmt_nearest_48 ?_
    refine lv_aload_n hx hb d_Fmt_nearest_49 rfl (lv_at hl 0 rfl) ?_
    refine va_getE (q := zx_q2) hx hb hX.1 he_x0 hS hown zx_m2 (hw _ wd_917) (fun _ h9 => h9) d_Fmt_nearest_50 ?_
    refine lv_iload hx hb d_Fmt_nearest_53 (lv_at hl 3 rfl) ?_
    refine lv_isub hx hb d_Fmt_nearest_55 ?_
    obtain ⟨u_1, hu_1, hf⟩ := zz_bd hf
    refine zz_ci (ws' := []) (wc := []) (w' := []) hP hD hS hA [] [] [] rfl rfl (by decide) (by decide) rfl (by decide) (va_runS (As := [.int (62 - (zx_fractionBits x0)), .int ((zx_leastPower x0) - y7)]) (rest := []) ⟨hx, hb, hml, hown, hw⟩ (c_Mat_max l dC dI cI cC cB cJ _ (62 - (zx_fractionBits x0)) ((zx_leastPower x0) - y7) u_1 hu_1) (va_cwS 2 hw (zg_S wd_315 wd_316 wd_16 wd_317) rfl rfl rfl hd_Mat_max ⟨Nat.le_of_ble_eq_true rfl, Nat.le_of_ble_eq_true rfl⟩) (zz_preS zz_TE hP hD hK hS hA trivial [] rfl (by decide)) rfl rfl hl.1 rfl (lv_room (Nat.le_of_ble_eq_true rfl)) d_Fmt_nearest_56 ⟨Nat.zero_le _, Nat.zero_le _⟩) (fun H locs hP hD hS => ?_)
    refine lv_istore hx hb d_Fmt_nearest_59 hl (by decide) rfl (fun ls hl => ?_)
    have hl : lv_has ls 9 [(8, .int u_1), (0, .ref (adF x0)), (4, .int x4), (5, .long y5), (7, .int y7)] := hl
    refine lv_iload hx hb d_Fmt_nearest_61 (lv_at hl 0 rfl) ?_
    refine lv_bipush (v := 63) hx hb d_Fmt_nearest_63 (by decide) ?_
    refine lv_icmp_le (tgt := 72) hx hb d_Fmt_nearest_65 (by decide) (fun hc => ?_) (fun hc => ?_)
    · have hf := zz_ifp hc hf
      refine lv_aload_n hx hb d_Fmt_nearest_72 rfl (lv_at hl 1 rfl) ?_
      refine lv_lload hx hb d_Fmt_nearest_73 (lv_at hl 3 rfl) ?_
      refine lv_iload hx hb d_Fmt_nearest_75 (lv_at hl 0 rfl) ?_
      refine lv_iload hx hb d_Fmt_nearest_77 (lv_at hl 2 rfl) ?_
      obtain ⟨u_2, hu_2, hf⟩ := zz_bd hf
      refine zz_cl (ws' := []) (wc := []) (w' := []) hP hD hS hA [] [] [] rfl rfl (by decide) (by decide) rfl (by decide) (va_runS (As := [.long y5, .int u_1, .int x4]) (rest := [.ref (adF x0)]) ⟨hx, hb, hml, hown, hw⟩ (c_Fmt_rounded l dC dI cI cC cB cJ _ y5 u_1 x4 u_2 hu_2) (va_cwS 3 hw (zg_S wd_611 wd_612 wd_15 wd_613) rfl rfl rfl hd_Fmt_rounded ⟨Nat.le_of_ble_eq_true rfl, Nat.le_of_ble_eq_true rfl⟩) (zz_preS zz_TE hP hD hK hS hA trivial [] rfl (by decide)) rfl rfl hl.1 rfl (lv_room (Nat.le_of_ble_eq_true rfl)) d_Fmt_nearest_79 ⟨Nat.zero_le _, Nat.zero_le _⟩) (fun H locs hP hD hS => ?_)
      refine lv_iload hx hb d_Fmt_nearest_82 (lv_at hl 4 rfl) ?_
      refine lv_iload hx hb d_Fmt_nearest_84 (lv_at hl 0 rfl) ?_
      refine lv_iadd hx hb d_Fmt_nearest_86 ?_
      obtain ⟨u_3, hu_3, hf⟩ := zz_bd hf
      refine zz_cl (ws' := []) (wc := []) (w' := []) hP hD hS hA [] [] [] rfl rfl (by decide) (by decide) rfl (by decide) (va_runV (As := [.long u_2, .int (y7 + u_1)]) (rest := []) ⟨hx, hb, hml, hown, hw⟩ (c_Fmt_join l dC dI cI cC cB cJ adF tp adK adV _ x0 u_2 (y7 + u_1) he_x0 u_3 hu_3) (cwV 2 hw (zg_V wd_614 wd_616 we_1_5 wd_15 wd_617) rfl rfl rfl hd_Fmt_join ⟨Nat.le_of_ble_eq_true rfl, Nat.le_of_ble_eq_true rfl⟩) (zz_preV (zx_ok adF tp adK adV) (va_recvE hX.1 he_x0 hS) hP hD hK hS hA hX [] rfl (by decide)) rfl rfl hl.1 rfl (lv_room (Nat.le_of_ble_eq_true rfl)) d_Fmt_nearest_87 ⟨Nat.zero_le _, Nat.zero_le _⟩) (fun H locs hP hD hS => ?_)
      cases hf
      exact hend 90 ls _ _ d_Fmt_nearest_90 hP hD hS
    · have hf := zz_ifn hc hf
      refine lv_ldc2 (v := (-2)) hx hb hown (hw _ wd_610) d_Fmt_nearest_68 ?_
      cases hf
      exact hend 71 ls _ _ d_Fmt_nearest_71 hP hD hS
  have hL_9 : ∀ (n : Nat), ∀ (y5 : Int64) (y7 : Int32) (y8 : Int32) (ls : Array Slot) (H : Heap) (locs : List Loc), lv_has ls 9 [(0, .ref (adF x0)), (4, .int x4), (5, .long y5), (7, .int y7), (8, .int y8)] → va_P (dC, dI) vwCl [] H → va_D A [] → va_S A s.heap H locs → f_Fmt_nearest_9 fu x0 x1 x3 x4 n y5 y7 y8 = some u → W p l e (headSpec ws_Fmt_nearest rm_Fmt_nearest).room s m [.ref (adF x0), .long x1, .int x3, .int x4].toArray below meth c H locs 0 0 Qq (F0 m 9 ls []) := by
    intro n
    induction n with
    | zero =>
      intro y5 y7 y8 ls H locs hl hP hD hS hf
      exact zz_no hf
    | succ n ih =>
      intro y5 y7 y8 ls H locs hl hP hD hS hf
      rw [f_Fmt_nearest_9_s] at hf
      refine lv_iload hx hb d_Fmt_nearest_9 (lv_at hl 4 rfl) ?_
      refine lv_bipush (v := 63) hx hb d_Fmt_nearest_11 (by decide) ?_
      refine lv_icmp_ge (tgt := 42) hx hb d_Fmt_nearest_13 (by decide) (fun hc => ?_) (fun hc => ?_)
      · have hf := zz_ifp hc hf
        exact hL_42 y5 y7 ls _ _ (lv_sub hl [0, 1, 2, 3] rfl) hP hD hS hf
      · have hf := zz_ifn hc hf
        refine lv_lload hx hb d_Fmt_nearest_16 (lv_at hl 2 rfl) ?_
        refine lv_ldc2 (v := 4611686018427387904) hx hb hown (hw _ wd_609) d_Fmt_nearest_18 ?_
        refine lv_land hx hb d_Fmt_nearest_21 ?_
        refine lv_lconst (v := 0) hx hb d_Fmt_nearest_22 (by decide) ?_
        refine W.lcmp hx hb d_Fmt_nearest_23 ?_
        refine lv_if_ne (tgt := 42) hx hb d_Fmt_nearest_24 (by decide) (fun hc => ?_) (fun hc => ?_)
        · have hf := zz_ifn hc hf
          exact hL_42 y5 y7 ls _ _ (lv_sub hl [0, 1, 2, 3] rfl) hP hD hS hf
        · have hf := zz_ifp hc hf
          refine lv_lload hx hb d_Fmt_nearest_27 (lv_at hl 2 rfl) ?_
          refine lv_iconst (v := 1) hx hb d_Fmt_nearest_29 (by decide) ?_
          refine lv_lshl hx hb d_Fmt_nearest_30 rfl ?_
          refine lv_topl (fun x5_4 e_x5_4 => ?_)
          have hf := zz_ltp hf x5_4 e_x5_4
          refine lv_lstore hx hb d_Fmt_nearest_31 hl (by decide) rfl (fun ls hl => ?_)
          have hl : lv_has ls 9 [(5, .long x5_4), (0, .ref (adF x0)), (4, .int x4), (7, .int y7), (8, .int y8)] := hl
          refine lv_iinc (k := 3) (v := y7 + (-1)) hx hb d_Fmt_nearest_33 hl rfl rfl (by decide) rfl (fun ls hl => ?_)
          have hl : lv_has ls 9 [(7, .int (y7 + (-1))), (5, .long x5_4), (0, .ref (adF x0)), (4, .int x4), (8, .int y8)] := hl
          refine lv_iinc (k := 4) (v := y8 + 1) hx hb d_Fmt_nearest_36 hl rfl rfl (by decide) rfl (fun ls hl => ?_)
          have hl : lv_has ls 9 [(8, .int (y8 + 1)), (7, .int (y7 + (-1))), (5, .long x5_4), (0, .ref (adF x0)), (4, .int x4)] := hl
          refine lv_goto (tgt := 9) hx hb d_Fmt_nearest_39 (by decide) ?_
          exact ih x5_4 (y7 + (-1)) (y8 + 1) ls _ _ (lv_sub hl [3, 4, 2, 1, 0] rfl) hP hD hS hf
  unfold f_Fmt_nearest at hf
  refine lv_lload_n hx hb d_Fmt_nearest_0 rfl (lv_at hl 1 rfl) ?_
  refine lv_lstore hx hb d_Fmt_nearest_1 hl (by decide) rfl (fun ls hl => ?_)
  have hl : lv_has ls 9 [(5, .long x1), (0, .ref (adF x0)), (1, .long x1), (3, .int x3), (4, .int x4)] := hl
  refine lv_iload_n hx hb d_Fmt_nearest_3 rfl (lv_at hl 3 rfl) ?_
  refine lv_istore hx hb d_Fmt_nearest_4 hl (by decide) rfl (fun ls hl => ?_)
  have hl : lv_has ls 9 [(7, .int x3), (5, .long x1), (0, .ref (adF x0)), (1, .long x1), (3, .int x3), (4, .int x4)] := hl
  refine lv_iconst (v := 0) hx hb d_Fmt_nearest_6 (by decide) ?_
  refine lv_istore hx hb d_Fmt_nearest_7 hl (by decide) rfl (fun ls hl => ?_)
  have hl : lv_has ls 9 [(8, .int 0), (7, .int x3), (5, .long x1), (0, .ref (adF x0)), (1, .long x1), (3, .int x3), (4, .int x4)] := hl
  exact hL_9 fu x1 x3 0 ls _ _ (lv_sub hl [3, 6, 2, 1, 0] rfl) hP hD hS hf
