abbrev ws_RT_byteAt : List Cond := .code y_RT_byteAt prog_1_method_8_code 3 (some .int) :: zw
abbrev rm_RT_byteAt : Room := { frames := 0, cells := 0, slots := 0, locals := 0 }
theorem hd_RT_byteAt : y_RT_byteAt.cls ≠ "java/lang/invoke/MethodHandle" ∧ y_RT_byteAt.cls ≠ "java/lang/invoke/VarHandle" ∧ (parseMethodDescriptor y_RT_byteAt.desc).map (fun d => d.parameters.length) = some 2 := by decide +kernel
theorem d_RT_byteAt_0 : decode prog_1_method_8_code 0 = .ok (.lload_n 0, 1) := by decide +kernel
theorem d_RT_byteAt_1 : decode prog_1_method_8_code 1 = .ok (.iload_n 2, 1) := by decide +kernel
theorem d_RT_byteAt_2 : decode prog_1_method_8_code 2 = .ok (.lushr, 1) := by decide +kernel
theorem d_RT_byteAt_3 : decode prog_1_method_8_code 3 = .ok (.l2i, 1) := by decide +kernel
theorem d_RT_byteAt_4 : decode prog_1_method_8_code 4 = .ok (.sipush 255, 3) := by decide +kernel
theorem d_RT_byteAt_7 : decode prog_1_method_8_code 7 = .ok (.iand, 1) := by decide +kernel
theorem d_RT_byteAt_8 : decode prog_1_method_8_code 8 = .ok (.ireturn, 1) := by decide +kernel
def f_RT_byteAt (x0 : Int64) (x2 : Int32) : Option (Int32) :=
  some ((((x0.toUInt64 >>> (x2.toInt64.toUInt64 &&& Int64.toUInt64 63)).toInt64).toInt32) &&& 255)
set_option maxHeartbeats 4000000 in
set_option maxRecDepth 100000 in
theorem c_RT_byteAt (l : Launch) (dC : Nat → ClassId) (dI : Nat → Nat → Nat) (cI cC cB cJ : ClassId) (sz : Nat) (x0 : Int64) (x2 : Int32) (u : Int32) (hf : f_RT_byteAt x0 x2 = some u) : Met l y_RT_byteAt ws_RT_byteAt rm_RT_byteAt (zz_P zz_T (dC, dI) vwCl (zz_tys cI cC cB cJ) [.long x0, .int x2] [] sz) (zz_Qi (dC, dI) vwCl u [] (va_A [] sz)) 0 0 (va_A [] sz) := by
  refine Met.ofW (cc := prog_1_method_8_code) (maxL := 3) (ret := (some .int)) (by decide +kernel) rfl ?_
  intro p e s m args below meth c s₁ B hml hv
  obtain ⟨rfl, hsz, hP, hK, hD0, hX⟩ := hv
  have hx := B.exec
  have hb := B.bytes
  have hr := B.returns
  have hts := atoms_spec (ws := ws_RT_byteAt) B.pre
  have hw : ∀ w ∈ zw, w.before [.long x0, .int x2].toArray s = true := fun w h => hts w (List.mem_cons_of_mem _ h)
  have hown : s.vm.findClass R_RT = some m.cls := findClass_of_methodNamed B.named
  have hlocks := B.notSynchronized
  subst hsz
  have hD := hD0.self (sz := s.heap.size)
  generalize hAe : va_A [] s.heap.size = A at hD hX ⊢
  have hA : ∀ q : Nat, s.heap.size ≤ q → A q := fun q h => by rw [← hAe]; exact Or.inr h
  have hS : va_S A s.heap s.heap [] := va_S.rf
  have hl := lv_entry [.long x0, .int x2] (n := 3) (Nat.le_of_ble_eq_true rfl)
  rw [lg_entry_eq]
  generalize (lg_sl [.long x0, .int x2] ++ List.replicate (3 - (lg_sl [.long x0, .int x2]).length) Slot.unset).toArray = ls at hl ⊢
  have hl : lv_has ls 3 [(0, .long x0), (2, .int x2)] := hl
  refine zz_endi hx hb hr hlocks (fun Qq hend => ?_)
  unfold f_RT_byteAt at hf
  refine lv_lload_n hx hb d_RT_byteAt_0 rfl (lv_at hl 0 rfl) ?_
  refine lv_iload_n hx hb d_RT_byteAt_1 rfl (lv_at hl 1 rfl) ?_
  refine lv_lushr hx hb d_RT_byteAt_2 rfl ?_
  refine lv_l2i hx hb d_RT_byteAt_3 rfl ?_
  refine lv_sipush (v := 255) hx hb d_RT_byteAt_4 (by decide) ?_
  refine lv_iand hx hb d_RT_byteAt_7 ?_
  cases hf
  exact hend 8 ls _ _ d_RT_byteAt_8 hP hD hS
abbrev ws_RT_hasOnlyCharacters : List Cond := .code y_RT_hasOnlyCharacters prog_1_method_9_code 4 (some .boolean) :: zw
abbrev rm_RT_hasOnlyCharacters : Room := { frames := 1, cells := 0, slots := 0, locals := 22 }
theorem hd_RT_hasOnlyCharacters : y_RT_hasOnlyCharacters.cls ≠ "java/lang/invoke/MethodHandle" ∧ y_RT_hasOnlyCharacters.cls ≠ "java/lang/invoke/VarHandle" ∧ (parseMethodDescriptor y_RT_hasOnlyCharacters.desc).map (fun d => d.parameters.length) = some 1 := by decide +kernel
theorem d_RT_hasOnlyCharacters_0 : decode prog_1_method_9_code 0 = .ok (.bipush 56, 2) := by decide +kernel
theorem d_RT_hasOnlyCharacters_2 : decode prog_1_method_9_code 2 = .ok (.istore_n 2, 1) := by decide +kernel
theorem d_RT_hasOnlyCharacters_3 : decode prog_1_method_9_code 3 = .ok (.iload_n 2, 1) := by decide +kernel
theorem d_RT_hasOnlyCharacters_4 : decode prog_1_method_9_code 4 = .ok (.ifCond .lt 33, 3) := by decide +kernel
theorem d_RT_hasOnlyCharacters_7 : decode prog_1_method_9_code 7 = .ok (.lload_n 0, 1) := by decide +kernel
theorem d_RT_hasOnlyCharacters_8 : decode prog_1_method_9_code 8 = .ok (.iload_n 2, 1) := by decide +kernel
theorem d_RT_hasOnlyCharacters_9 : decode prog_1_method_9_code 9 = .ok (.invokestatic 67, 3) := by decide +kernel
theorem d_RT_hasOnlyCharacters_12 : decode prog_1_method_9_code 12 = .ok (.istore_n 3, 1) := by decide +kernel
theorem d_RT_hasOnlyCharacters_13 : decode prog_1_method_9_code 13 = .ok (.iload_n 3, 1) := by decide +kernel
theorem d_RT_hasOnlyCharacters_14 : decode prog_1_method_9_code 14 = .ok (.ifCond .eq 17, 3) := by decide +kernel
theorem d_RT_hasOnlyCharacters_17 : decode prog_1_method_9_code 17 = .ok (.iload_n 3, 1) := by decide +kernel
theorem d_RT_hasOnlyCharacters_18 : decode prog_1_method_9_code 18 = .ok (.bipush 32, 2) := by decide +kernel
theorem d_RT_hasOnlyCharacters_20 : decode prog_1_method_9_code 20 = .ok (.if_icmp .lt 9, 3) := by decide +kernel
theorem d_RT_hasOnlyCharacters_23 : decode prog_1_method_9_code 23 = .ok (.iload_n 3, 1) := by decide +kernel
theorem d_RT_hasOnlyCharacters_24 : decode prog_1_method_9_code 24 = .ok (.bipush 126, 2) := by decide +kernel
theorem d_RT_hasOnlyCharacters_26 : decode prog_1_method_9_code 26 = .ok (.if_icmp .le 5, 3) := by decide +kernel
theorem d_RT_hasOnlyCharacters_29 : decode prog_1_method_9_code 29 = .ok (.iconst 0, 1) := by decide +kernel
theorem d_RT_hasOnlyCharacters_30 : decode prog_1_method_9_code 30 = .ok (.ireturn, 1) := by decide +kernel
theorem d_RT_hasOnlyCharacters_31 : decode prog_1_method_9_code 31 = .ok (.iinc 2 (-8), 3) := by decide +kernel
theorem d_RT_hasOnlyCharacters_34 : decode prog_1_method_9_code 34 = .ok (.goto (-31), 3) := by decide +kernel
theorem d_RT_hasOnlyCharacters_37 : decode prog_1_method_9_code 37 = .ok (.iconst 1, 1) := by decide +kernel
theorem d_RT_hasOnlyCharacters_38 : decode prog_1_method_9_code 38 = .ok (.ireturn, 1) := by decide +kernel
def f_RT_hasOnlyCharacters_3 (fu : Nat) (x0 : Int64)  : Nat → Int32 → Option (Int32)
  | 0, _ => none
  | n + 1, y2 =>
  (if y2 < 0 then
  some (1)
  else
  (f_RT_byteAt x0 y2).bind fun u_1 =>
  (if u_1 = 0 then
  f_RT_hasOnlyCharacters_3 fu x0 n (y2 + (-8))
  else
  (if u_1 < 32 then
  some (0)
  else
  (if u_1 ≤ 126 then
  f_RT_hasOnlyCharacters_3 fu x0 n (y2 + (-8))
  else
  some (0)))))
theorem f_RT_hasOnlyCharacters_3_s (fu : Nat) (x0 : Int64)  (n : Nat) (y2 : Int32) : f_RT_hasOnlyCharacters_3 fu x0 (n + 1) y2 =
  (if y2 < 0 then
  some (1)
  else
  (f_RT_byteAt x0 y2).bind fun u_1 =>
  (if u_1 = 0 then
  f_RT_hasOnlyCharacters_3 fu x0 n (y2 + (-8))
  else
  (if u_1 < 32 then
  some (0)
  else
  (if u_1 ≤ 126 then
  f_RT_hasOnlyCharacters_3 fu x0 n (y2 + (-8))
  else
  some (0))))) := rfl
def f_RT_hasOnlyCharacters (fu : Nat) (x0 : Int64) : Option (Int32) :=
  f_RT_hasOnlyCharacters_3 fu x0 fu 56
set_option maxHeartbeats 4000000 in
set_option maxRecDepth 100000 in
theorem c_RT_hasOnlyCharacters (l : Launch) (dC : Nat → ClassId) (dI : Nat → Nat → Nat) (cI cC cB cJ : ClassId) (fu : Nat) (sz : Nat) (x0 : Int64) (u : Int32) (hf : f_RT_hasOnlyCharacters fu x0 = some u) : Met l y_RT_hasOnlyCharacters ws_RT_hasOnlyCharacters rm_RT_hasOnlyCharacters (zz_P zz_T (dC, dI) vwCl (zz_tys cI cC cB cJ) [.long x0] [] sz) (zz_Qi (dC, dI) vwCl u [] (va_A [] sz)) 0 0 (va_A [] sz) := by
  refine Met.ofW (cc := prog_1_method_9_code) (maxL := 4) (ret := (some .boolean)) (by decide +kernel) rfl ?_
  intro p e s m args below meth c s₁ B hml hv
  obtain ⟨rfl, hsz, hP, hK, hD0, hX⟩ := hv
  have hx := B.exec
  have hb := B.bytes
  have hr := B.returns
  have hts := atoms_spec (ws := ws_RT_hasOnlyCharacters) B.pre
  have hw : ∀ w ∈ zw, w.before [.long x0].toArray s = true := fun w h => hts w (List.mem_cons_of_mem _ h)
  have hown : s.vm.findClass R_RT = some m.cls := findClass_of_methodNamed B.named
  have hlocks := B.notSynchronized
  subst hsz
  have hD := hD0.self (sz := s.heap.size)
  generalize hAe : va_A [] s.heap.size = A at hD hX ⊢
  have hA : ∀ q : Nat, s.heap.size ≤ q → A q := fun q h => by rw [← hAe]; exact Or.inr h
  have hS : va_S A s.heap s.heap [] := va_S.rf
  have hl := lv_entry [.long x0] (n := 4) (Nat.le_of_ble_eq_true rfl)
  rw [lg_entry_eq]
  generalize (lg_sl [.long x0] ++ List.replicate (4 - (lg_sl [.long x0]).length) Slot.unset).toArray = ls at hl ⊢
  have hl : lv_has ls 4 [(0, .long x0)] := hl
  refine zz_endz hx hb hr hlocks (fun Qq hend => ?_)
  have hL_3 : ∀ (n : Nat), ∀ (y2 : Int32) (ls : Array Slot) (H : Heap) (locs : List Loc), lv_has ls 4 [(0, .long x0), (2, .int y2)] → va_P (dC, dI) vwCl [] H → va_D A [] → va_S A s.heap H locs → f_RT_hasOnlyCharacters_3 fu x0 n y2 = some u → W p l e (headSpec ws_RT_hasOnlyCharacters rm_RT_hasOnlyCharacters).room s m [.long x0].toArray below meth c H locs 0 0 Qq (F0 m 3 ls []) := by
    intro n
    induction n with
    | zero =>
      intro y2 ls H locs hl hP hD hS hf
      exact zz_no hf
    | succ n ih =>
      intro y2 ls H locs hl hP hD hS hf
      rw [f_RT_hasOnlyCharacters_3_s] at hf
      refine lv_iload_n hx hb d_RT_hasOnlyCharacters_3 rfl (lv_at hl 1 rfl) ?_
      refine lv_if_lt (tgt := 37) hx hb d_RT_hasOnlyCharacters_4 (by decide) (fun hc => ?_) (fun hc => ?_)
      · have hf := zz_ifp hc hf
        refine lv_iconst (v := 1) hx hb d_RT_hasOnlyCharacters_37 (by decide) ?_
        cases hf
        exact hend 38 ls _ _ narrow_b1 d_RT_hasOnlyCharacters_38 hP hD hS
      · have hf := zz_ifn hc hf
        refine lv_lload_n hx hb d_RT_hasOnlyCharacters_7 rfl (lv_at hl 0 rfl) ?_
        refine lv_iload_n hx hb d_RT_hasOnlyCharacters_8 rfl (lv_at hl 1 rfl) ?_
        obtain ⟨u_1, hu_1, hf⟩ := zz_bd hf
        refine zz_ci (ws' := []) (wc := []) (w' := []) hP hD hS hA [] [] [] rfl rfl (by decide) (by decide) rfl (by decide) (va_runS (As := [.long x0, .int y2]) (rest := []) ⟨hx, hb, hml, hown, hw⟩ (c_RT_byteAt l dC dI cI cC cB cJ _ x0 y2 u_1 hu_1) (va_cwS 2 hw (zg_S wd_468 wd_469 wd_1 wd_470) rfl rfl rfl hd_RT_byteAt ⟨Nat.le_of_ble_eq_true rfl, Nat.le_of_ble_eq_true rfl⟩) (zz_preS zz_TE hP hD hK hS hA trivial [] rfl (by decide)) rfl rfl hl.1 rfl (lv_room (Nat.le_of_ble_eq_true rfl)) d_RT_hasOnlyCharacters_9 ⟨Nat.zero_le _, Nat.zero_le _⟩) (fun H locs hP hD hS => ?_)
        refine lv_istore_n hx hb d_RT_hasOnlyCharacters_12 rfl hl (by decide) rfl (fun ls hl => ?_)
        have hl : lv_has ls 4 [(3, .int u_1), (0, .long x0), (2, .int y2)] := hl
        refine lv_iload_n hx hb d_RT_hasOnlyCharacters_13 rfl (lv_at hl 0 rfl) ?_
        refine lv_if_eq (tgt := 31) hx hb d_RT_hasOnlyCharacters_14 (by decide) (fun hc => ?_) (fun hc => ?_)
        · have hf := zz_ifp hc hf
          refine lv_iinc (k := 2) (v := y2 + (-8)) hx hb d_RT_hasOnlyCharacters_31 hl rfl rfl (by decide) rfl (fun ls hl => ?_)
          have hl : lv_has ls 4 [(2, .int (y2 + (-8))), (3, .int u_1), (0, .long x0)] := hl
          refine lv_goto (tgt := 3) hx hb d_RT_hasOnlyCharacters_34 (by decide) ?_
          exact ih (y2 + (-8)) ls _ _ (lv_sub hl [2, 0] rfl) hP hD hS hf
        · have hf := zz_ifn hc hf
          refine lv_iload_n hx hb d_RT_hasOnlyCharacters_17 rfl (lv_at hl 0 rfl) ?_
          refine lv_bipush (v := 32) hx hb d_RT_hasOnlyCharacters_18 (by decide) ?_
          refine lv_icmp_lt (tgt := 29) hx hb d_RT_hasOnlyCharacters_20 (by decide) (fun hc => ?_) (fun hc => ?_)
          · have hf := zz_ifp hc hf
            refine lv_iconst (v := 0) hx hb d_RT_hasOnlyCharacters_29 (by decide) ?_
            cases hf
            exact hend 30 ls _ _ narrow_b0 d_RT_hasOnlyCharacters_30 hP hD hS
          · have hf := zz_ifn hc hf
            refine lv_iload_n hx hb d_RT_hasOnlyCharacters_23 rfl (lv_at hl 0 rfl) ?_
            refine lv_bipush (v := 126) hx hb d_RT_hasOnlyCharacters_24 (by decide) ?_
            refine lv_icmp_le (tgt := 31) hx hb d_RT_hasOnlyCharacters_26 (by decide) (fun hc => ?_) (fun hc => ?_)
            · have hf := zz_ifp hc hf
              refine lv_iinc (k := 2) (v := y2 + (-8)) hx hb d_RT_hasOnlyCharacters_31 hl rfl rfl (by decide) rfl (fun ls hl => ?_)
              have hl : lv_has ls 4 [(2, .int (y2 + (-8))), (3, .int u_1), (0, .long x0)] := hl
              refine lv_goto (tgt := 3) hx hb d_RT_hasOnlyCharacters_34 (by decide) ?_
              exact ih (y2 + (-8)) ls _ _ (lv_sub hl [2, 0] rfl) hP hD hS hf
            · have hf := zz_ifn hc hf
              refine lv_iconst (v := 0) hx hb d_RT_hasOnlyCharacters_29 (by decide) ?_
              cases hf
              exact hend 30 ls _ _ narrow_b0 d_RT_hasOnlyCharacters_30 hP hD hS
  unfold f_RT_hasOnlyCharacters at hf
  refine lv_bipush (v := 56) hx hb d_RT_hasOnlyCharacters_0 (by decide) ?_
  refine lv_istore_n hx hb d_RT_hasOnlyCharacters_2 rfl hl (by decide) rfl (fun ls hl => ?_)
  have hl : lv_has ls 4 [(2, .int 56), (0, .long x0)] := hl
  exact hL_3 fu 56 ls _ _ (lv_sub hl [1, 0] rfl) hP hD hS hf
abbrev ws_RT_charactersIn : List Cond := .code y_RT_charactersIn prog_1_method_10_code 4 (some .int) :: zw
abbrev rm_RT_charactersIn : Room := { frames := 1, cells := 0, slots := 0, locals := 22 }
theorem hd_RT_charactersIn : y_RT_charactersIn.cls ≠ "java/lang/invoke/MethodHandle" ∧ y_RT_charactersIn.cls ≠ "java/lang/invoke/VarHandle" ∧ (parseMethodDescriptor y_RT_charactersIn.desc).map (fun d => d.parameters.length) = some 1 := by decide +kernel
theorem d_RT_charactersIn_0 : decode prog_1_method_10_code 0 = .ok (.iconst 0, 1) := by decide +kernel
theorem d_RT_charactersIn_1 : decode prog_1_method_10_code 1 = .ok (.istore_n 2, 1) := by decide +kernel
theorem d_RT_charactersIn_2 : decode prog_1_method_10_code 2 = .ok (.bipush 56, 2) := by decide +kernel
theorem d_RT_charactersIn_4 : decode prog_1_method_10_code 4 = .ok (.istore_n 3, 1) := by decide +kernel
theorem d_RT_charactersIn_5 : decode prog_1_method_10_code 5 = .ok (.iload_n 3, 1) := by decide +kernel
theorem d_RT_charactersIn_6 : decode prog_1_method_10_code 6 = .ok (.ifCond .lt 20, 3) := by decide +kernel
theorem d_RT_charactersIn_9 : decode prog_1_method_10_code 9 = .ok (.lload_n 0, 1) := by decide +kernel
theorem d_RT_charactersIn_10 : decode prog_1_method_10_code 10 = .ok (.iload_n 3, 1) := by decide +kernel
theorem d_RT_charactersIn_11 : decode prog_1_method_10_code 11 = .ok (.invokestatic 67, 3) := by decide +kernel
theorem d_RT_charactersIn_14 : decode prog_1_method_10_code 14 = .ok (.ifCond .eq 6, 3) := by decide +kernel
theorem d_RT_charactersIn_17 : decode prog_1_method_10_code 17 = .ok (.iinc 2 1, 3) := by decide +kernel
theorem d_RT_charactersIn_20 : decode prog_1_method_10_code 20 = .ok (.iinc 3 (-8), 3) := by decide +kernel
theorem d_RT_charactersIn_23 : decode prog_1_method_10_code 23 = .ok (.goto (-18), 3) := by decide +kernel
theorem d_RT_charactersIn_26 : decode prog_1_method_10_code 26 = .ok (.iload_n 2, 1) := by decide +kernel
theorem d_RT_charactersIn_27 : decode prog_1_method_10_code 27 = .ok (.ireturn, 1) := by decide +kernel
def f_RT_charactersIn_5 (fu : Nat) (x0 : Int64)  : Nat → Int32 → Int32 → Option (Int32)
  | 0, _, _ => none
  | n + 1, y2, y3 =>
  (if y3 < 0 then
  some (y2)
  else
  (f_RT_byteAt x0 y3).bind fun u_1 =>
  (if u_1 = 0 then
  f_RT_charactersIn_5 fu x0 n y2 (y3 + (-8))
  else
  f_RT_charactersIn_5 fu x0 n (y2 + 1) (y3 + (-8))))
theorem f_RT_charactersIn_5_s (fu : Nat) (x0 : Int64)  (n : Nat) (y2 : Int32) (y3 : Int32) : f_RT_charactersIn_5 fu x0 (n + 1) y2 y3 =
  (if y3 < 0 then
  some (y2)
  else
  (f_RT_byteAt x0 y3).bind fun u_1 =>
  (if u_1 = 0 then
  f_RT_charactersIn_5 fu x0 n y2 (y3 + (-8))
  else
  f_RT_charactersIn_5 fu x0 n (y2 + 1) (y3 + (-8)))) := rfl
def f_RT_charactersIn (fu : Nat) (x0 : Int64) : Option (Int32) :=
  f_RT_charactersIn_5 fu x0 fu 0 56
set_option maxHeartbeats 4000000 in
set_option maxRecDepth 100000 in
theorem c_RT_charactersIn (l : Launch) (dC : Nat → ClassId) (dI : Nat → Nat → Nat) (cI cC cB cJ : ClassId) (fu : Nat) (sz : Nat) (x0 : Int64) (u : Int32) (hf : f_RT_charactersIn fu x0 = some u) : Met l y_RT_charactersIn ws_RT_charactersIn rm_RT_charactersIn (zz_P zz_T (dC, dI) vwCl (zz_tys cI cC cB cJ) [.long x0] [] sz) (zz_Qi (dC, dI) vwCl u [] (va_A [] sz)) 0 0 (va_A [] sz) := by
  refine Met.ofW (cc := prog_1_method_10_code) (maxL := 4) (ret := (some .int)) (by decide +kernel) rfl ?_
  intro p e s m args below meth c s₁ B hml hv
  obtain ⟨rfl, hsz, hP, hK, hD0, hX⟩ := hv
  have hx := B.exec
  have hb := B.bytes
  have hr := B.returns
  have hts := atoms_spec (ws := ws_RT_charactersIn) B.pre
  have hw : ∀ w ∈ zw, w.before [.long x0].toArray s = true := fun w h => hts w (List.mem_cons_of_mem _ h)
  have hown : s.vm.findClass R_RT = some m.cls := findClass_of_methodNamed B.named
  have hlocks := B.notSynchronized
  subst hsz
  have hD := hD0.self (sz := s.heap.size)
  generalize hAe : va_A [] s.heap.size = A at hD hX ⊢
  have hA : ∀ q : Nat, s.heap.size ≤ q → A q := fun q h => by rw [← hAe]; exact Or.inr h
  have hS : va_S A s.heap s.heap [] := va_S.rf
  have hl := lv_entry [.long x0] (n := 4) (Nat.le_of_ble_eq_true rfl)
  rw [lg_entry_eq]
  generalize (lg_sl [.long x0] ++ List.replicate (4 - (lg_sl [.long x0]).length) Slot.unset).toArray = ls at hl ⊢
  have hl : lv_has ls 4 [(0, .long x0)] := hl
  refine zz_endi hx hb hr hlocks (fun Qq hend => ?_)
  have hL_5 : ∀ (n : Nat), ∀ (y2 : Int32) (y3 : Int32) (ls : Array Slot) (H : Heap) (locs : List Loc), lv_has ls 4 [(0, .long x0), (2, .int y2), (3, .int y3)] → va_P (dC, dI) vwCl [] H → va_D A [] → va_S A s.heap H locs → f_RT_charactersIn_5 fu x0 n y2 y3 = some u → W p l e (headSpec ws_RT_charactersIn rm_RT_charactersIn).room s m [.long x0].toArray below meth c H locs 0 0 Qq (F0 m 5 ls []) := by
    intro n
    induction n with
    | zero =>
      intro y2 y3 ls H locs hl hP hD hS hf
      exact zz_no hf
    | succ n ih =>
      intro y2 y3 ls H locs hl hP hD hS hf
      rw [f_RT_charactersIn_5_s] at hf
      refine lv_iload_n hx hb d_RT_charactersIn_5 rfl (lv_at hl 2 rfl) ?_
      refine lv_if_lt (tgt := 26) hx hb d_RT_charactersIn_6 (by decide) (fun hc => ?_) (fun hc => ?_)
      · have hf := zz_ifp hc hf
        refine lv_iload_n hx hb d_RT_charactersIn_26 rfl (lv_at hl 1 rfl) ?_
        cases hf
        exact hend 27 ls _ _ d_RT_charactersIn_27 hP hD hS
      · have hf := zz_ifn hc hf
        refine lv_lload_n hx hb d_RT_charactersIn_9 rfl (lv_at hl 0 rfl) ?_
        refine lv_iload_n hx hb d_RT_charactersIn_10 rfl (lv_at hl 2 rfl) ?_
        obtain ⟨u_1, hu_1, hf⟩ := zz_bd hf
        refine zz_ci (ws' := []) (wc := []) (w' := []) hP hD hS hA [] [] [] rfl rfl (by decide) (by decide) rfl (by decide) (va_runS (As := [.long x0, .int y3]) (rest := []) ⟨hx, hb, hml, hown, hw⟩ (c_RT_byteAt l dC dI cI cC cB cJ _ x0 y3 u_1 hu_1) (va_cwS 2 hw (zg_S wd_468 wd_469 wd_1 wd_470) rfl rfl rfl hd_RT_byteAt ⟨Nat.le_of_ble_eq_true rfl, Nat.le_of_ble_eq_true rfl⟩) (zz_preS zz_TE hP hD hK hS hA trivial [] rfl (by decide)) rfl rfl hl.1 rfl (lv_room (Nat.le_of_ble_eq_true rfl)) d_RT_charactersIn_11 ⟨Nat.zero_le _, Nat.zero_le _⟩) (fun H locs hP hD hS => ?_)
        refine lv_if_eq (tgt := 20) hx hb d_RT_charactersIn_14 (by decide) (fun hc => ?_) (fun hc => ?_)
        · have hf := zz_ifp hc hf
          refine lv_iinc (k := 2) (v := y3 + (-8)) hx hb d_RT_charactersIn_20 hl rfl rfl (by decide) rfl (fun ls hl => ?_)
          have hl : lv_has ls 4 [(3, .int (y3 + (-8))), (0, .long x0), (2, .int y2)] := hl
          refine lv_goto (tgt := 5) hx hb d_RT_charactersIn_23 (by decide) ?_
          exact ih y2 (y3 + (-8)) ls _ _ (lv_sub hl [1, 2, 0] rfl) hP hD hS hf
        · have hf := zz_ifn hc hf
          refine lv_iinc (k := 1) (v := y2 + 1) hx hb d_RT_charactersIn_17 hl rfl rfl (by decide) rfl (fun ls hl => ?_)
          have hl : lv_has ls 4 [(2, .int (y2 + 1)), (0, .long x0), (3, .int y3)] := hl
          refine lv_iinc (k := 2) (v := y3 + (-8)) hx hb d_RT_charactersIn_20 hl rfl rfl (by decide) rfl (fun ls hl => ?_)
          have hl : lv_has ls 4 [(3, .int (y3 + (-8))), (2, .int (y2 + 1)), (0, .long x0)] := hl
          refine lv_goto (tgt := 5) hx hb d_RT_charactersIn_23 (by decide) ?_
          exact ih (y2 + 1) (y3 + (-8)) ls _ _ (lv_sub hl [2, 1, 0] rfl) hP hD hS hf
  unfold f_RT_charactersIn at hf
  refine lv_iconst (v := 0) hx hb d_RT_charactersIn_0 (by decide) ?_
  refine lv_istore_n hx hb d_RT_charactersIn_1 rfl hl (by decide) rfl (fun ls hl => ?_)
  have hl : lv_has ls 4 [(2, .int 0), (0, .long x0)] := hl
  refine lv_bipush (v := 56) hx hb d_RT_charactersIn_2 (by decide) ?_
  refine lv_istore_n hx hb d_RT_charactersIn_4 rfl hl (by decide) rfl (fun ls hl => ?_)
  have hl : lv_has ls 4 [(3, .int 56), (2, .int 0), (0, .long x0)] := hl
  exact hL_5 fu 0 56 ls _ _ (lv_sub hl [2, 1, 0] rfl) hP hD hS hf
abbrev ws_RT_bitsOfHex : List Cond := .code y_RT_bitsOfHex prog_1_method_12_code 8 (some .long) :: zw
abbrev rm_RT_bitsOfHex : Room := { frames := 3, cells := 0, slots := 0, locals := 74 }
theorem hd_RT_bitsOfHex : y_RT_bitsOfHex.cls = "RealText" ∧ y_RT_bitsOfHex.cls ≠ "java/lang/invoke/MethodHandle" ∧ y_RT_bitsOfHex.cls ≠ "java/lang/invoke/VarHandle" ∧ (parseMethodDescriptor y_RT_bitsOfHex.desc).map (fun d => d.parameters.length) = some 1 := by decide +kernel
theorem d_RT_bitsOfHex_0 : decode prog_1_method_12_code 0 = .ok (.lconst 0, 1) := by decide +kernel
theorem d_RT_bitsOfHex_1 : decode prog_1_method_12_code 1 = .ok (.lstore_n 2, 1) := by decide +kernel
theorem d_RT_bitsOfHex_2 : decode prog_1_method_12_code 2 = .ok (.aload_n 0, 1) := by decide +kernel
theorem d_RT_bitsOfHex_3 : decode prog_1_method_12_code 3 = .ok (.getfield 24, 3) := by decide +kernel
theorem d_RT_bitsOfHex_6 : decode prog_1_method_12_code 6 = .ok (.getfield 172, 3) := by decide +kernel
theorem d_RT_bitsOfHex_9 : decode prog_1_method_12_code 9 = .ok (.iconst 4, 1) := by decide +kernel
theorem d_RT_bitsOfHex_10 : decode prog_1_method_12_code 10 = .ok (.aload_n 0, 1) := by decide +kernel
theorem d_RT_bitsOfHex_11 : decode prog_1_method_12_code 11 = .ok (.getfield 24, 3) := by decide +kernel
theorem d_RT_bitsOfHex_14 : decode prog_1_method_12_code 14 = .ok (.getfield 175, 3) := by decide +kernel
theorem d_RT_bitsOfHex_17 : decode prog_1_method_12_code 17 = .ok (.imul, 1) := by decide +kernel
theorem d_RT_bitsOfHex_18 : decode prog_1_method_12_code 18 = .ok (.isub, 1) := by decide +kernel
theorem d_RT_bitsOfHex_19 : decode prog_1_method_12_code 19 = .ok (.istore 4, 2) := by decide +kernel
theorem d_RT_bitsOfHex_21 : decode prog_1_method_12_code 21 = .ok (.iconst 0, 1) := by decide +kernel
theorem d_RT_bitsOfHex_22 : decode prog_1_method_12_code 22 = .ok (.istore 5, 2) := by decide +kernel
theorem d_RT_bitsOfHex_24 : decode prog_1_method_12_code 24 = .ok (.iconst 0, 1) := by decide +kernel
theorem d_RT_bitsOfHex_25 : decode prog_1_method_12_code 25 = .ok (.istore 6, 2) := by decide +kernel
theorem d_RT_bitsOfHex_27 : decode prog_1_method_12_code 27 = .ok (.iload 6, 2) := by decide +kernel
theorem d_RT_bitsOfHex_29 : decode prog_1_method_12_code 29 = .ok (.aload_n 0, 1) := by decide +kernel
theorem d_RT_bitsOfHex_30 : decode prog_1_method_12_code 30 = .ok (.getfield 24, 3) := by decide +kernel
theorem d_RT_bitsOfHex_33 : decode prog_1_method_12_code 33 = .ok (.getfield 159, 3) := by decide +kernel
theorem d_RT_bitsOfHex_36 : decode prog_1_method_12_code 36 = .ok (.if_icmp .ge 61, 3) := by decide +kernel
theorem d_RT_bitsOfHex_39 : decode prog_1_method_12_code 39 = .ok (.aload_n 0, 1) := by decide +kernel
theorem d_RT_bitsOfHex_40 : decode prog_1_method_12_code 40 = .ok (.getfield 24, 3) := by decide +kernel
theorem d_RT_bitsOfHex_43 : decode prog_1_method_12_code 43 = .ok (.getfield 178, 3) := by decide +kernel
theorem d_RT_bitsOfHex_46 : decode prog_1_method_12_code 46 = .ok (.iload 6, 2) := by decide +kernel
theorem d_RT_bitsOfHex_48 : decode prog_1_method_12_code 48 = .ok (.baload, 1) := by decide +kernel
theorem d_RT_bitsOfHex_49 : decode prog_1_method_12_code 49 = .ok (.istore 7, 2) := by decide +kernel
theorem d_RT_bitsOfHex_51 : decode prog_1_method_12_code 51 = .ok (.lload_n 2, 1) := by decide +kernel
theorem d_RT_bitsOfHex_52 : decode prog_1_method_12_code 52 = .ok (.bipush 59, 2) := by decide +kernel
theorem d_RT_bitsOfHex_54 : decode prog_1_method_12_code 54 = .ok (.lushr, 1) := by decide +kernel
theorem d_RT_bitsOfHex_55 : decode prog_1_method_12_code 55 = .ok (.lconst 0, 1) := by decide +kernel
theorem d_RT_bitsOfHex_56 : decode prog_1_method_12_code 56 = .ok (.lcmp, 1) := by decide +kernel
theorem d_RT_bitsOfHex_57 : decode prog_1_method_12_code 57 = .ok (.ifCond .ne 14, 3) := by decide +kernel
theorem d_RT_bitsOfHex_60 : decode prog_1_method_12_code 60 = .ok (.lload_n 2, 1) := by decide +kernel
theorem d_RT_bitsOfHex_61 : decode prog_1_method_12_code 61 = .ok (.iconst 4, 1) := by decide +kernel
theorem d_RT_bitsOfHex_62 : decode prog_1_method_12_code 62 = .ok (.lshl, 1) := by decide +kernel
theorem d_RT_bitsOfHex_63 : decode prog_1_method_12_code 63 = .ok (.iload 7, 2) := by decide +kernel
theorem d_RT_bitsOfHex_65 : decode prog_1_method_12_code 65 = .ok (.i2l, 1) := by decide +kernel
theorem d_RT_bitsOfHex_66 : decode prog_1_method_12_code 66 = .ok (.lor, 1) := by decide +kernel
theorem d_RT_bitsOfHex_67 : decode prog_1_method_12_code 67 = .ok (.lstore_n 2, 1) := by decide +kernel
theorem d_RT_bitsOfHex_68 : decode prog_1_method_12_code 68 = .ok (.goto 23, 3) := by decide +kernel
theorem d_RT_bitsOfHex_71 : decode prog_1_method_12_code 71 = .ok (.iinc 4 4, 3) := by decide +kernel
theorem d_RT_bitsOfHex_74 : decode prog_1_method_12_code 74 = .ok (.iload 5, 2) := by decide +kernel
theorem d_RT_bitsOfHex_76 : decode prog_1_method_12_code 76 = .ok (.ifCond .ne 8, 3) := by decide +kernel
theorem d_RT_bitsOfHex_79 : decode prog_1_method_12_code 79 = .ok (.iload 7, 2) := by decide +kernel
theorem d_RT_bitsOfHex_81 : decode prog_1_method_12_code 81 = .ok (.ifCond .eq 7, 3) := by decide +kernel
theorem d_RT_bitsOfHex_84 : decode prog_1_method_12_code 84 = .ok (.iconst 1, 1) := by decide +kernel
theorem d_RT_bitsOfHex_85 : decode prog_1_method_12_code 85 = .ok (.goto 4, 3) := by decide +kernel
theorem d_RT_bitsOfHex_88 : decode prog_1_method_12_code 88 = .ok (.iconst 0, 1) := by decide +kernel
theorem d_RT_bitsOfHex_89 : decode prog_1_method_12_code 89 = .ok (.istore 5, 2) := by decide +kernel
theorem d_RT_bitsOfHex_91 : decode prog_1_method_12_code 91 = .ok (.iinc 6 1, 3) := by decide +kernel
theorem d_RT_bitsOfHex_94 : decode prog_1_method_12_code 94 = .ok (.goto (-67), 3) := by decide +kernel
theorem d_RT_bitsOfHex_97 : decode prog_1_method_12_code 97 = .ok (.aload_n 1, 1) := by decide +kernel
theorem d_RT_bitsOfHex_98 : decode prog_1_method_12_code 98 = .ok (.lload_n 2, 1) := by decide +kernel
theorem d_RT_bitsOfHex_99 : decode prog_1_method_12_code 99 = .ok (.iload 4, 2) := by decide +kernel
theorem d_RT_bitsOfHex_101 : decode prog_1_method_12_code 101 = .ok (.iload 5, 2) := by decide +kernel
theorem d_RT_bitsOfHex_103 : decode prog_1_method_12_code 103 = .ok (.invokevirtual 182, 3) := by decide +kernel
theorem d_RT_bitsOfHex_106 : decode prog_1_method_12_code 106 = .ok (.lreturn, 1) := by decide +kernel
def f_RT_bitsOfHex_84 (fu : Nat) (n_v_literal_digits : Nat) (x1 : Nat) (v_literal_digitCount : Int32) (v_literal_fraction : Int32) (v_literal_exponent : Int32) (v_literal_digits_a : Nat → Int32) (self27 : Int64 → Int32 → Int32 → Int32 → Option (Int64)) (y2 : Int64) (y4 : Int32) (y6 : Int32) : Option (Int64) :=
  self27 y2 y4 1 (y6 + 1)
def f_RT_bitsOfHex_27 (fu : Nat) (n_v_literal_digits : Nat) (x1 : Nat) (v_literal_digitCount : Int32) (v_literal_fraction : Int32) (v_literal_exponent : Int32) (v_literal_digits_a : Nat → Int32)  : Nat → Int64 → Int32 → Int32 → Int32 → Option (Int64)
  | 0, _, _, _, _ => none
  | n + 1, y2, y4, y5, y6 =>
  (if v_literal_digitCount ≤ y6 then
  (f_Fmt_nearest fu x1 y2 y4 y5).bind fun u_2 =>
  some (u_2)
  else
  if zz_in y6 n_v_literal_digits = true then
  zz_lt (v_literal_digits_a y6.toNatClampNeg) fun x7_4 =>
  (if (lg_cmp ((y2.toUInt64 >>> ((59 : Int32).toInt64.toUInt64 &&& Int64.toUInt64 63)).toInt64) 0) = 0 then
  zz_lt ((y2 <<< ((4 : Int32).toInt64 &&& 63)) ||| x7_4.toInt64) fun x2_5 =>
  f_RT_bitsOfHex_27 fu n_v_literal_digits x1 v_literal_digitCount v_literal_fraction v_literal_exponent v_literal_digits_a n x2_5 y4 y5 (y6 + 1)
  else
  (if y5 = 0 then
  (if x7_4 = 0 then
  f_RT_bitsOfHex_27 fu n_v_literal_digits x1 v_literal_digitCount v_literal_fraction v_literal_exponent v_literal_digits_a n y2 (y4 + 4) 0 (y6 + 1)
  else
  f_RT_bitsOfHex_84 fu n_v_literal_digits x1 v_literal_digitCount v_literal_fraction v_literal_exponent v_literal_digits_a (f_RT_bitsOfHex_27 fu n_v_literal_digits x1 v_literal_digitCount v_literal_fraction v_literal_exponent v_literal_digits_a n) y2 (y4 + 4) y6)
  else
  f_RT_bitsOfHex_84 fu n_v_literal_digits x1 v_literal_digitCount v_literal_fraction v_literal_exponent v_literal_digits_a (f_RT_bitsOfHex_27 fu n_v_literal_digits x1 v_literal_digitCount v_literal_fraction v_literal_exponent v_literal_digits_a n) y2 (y4 + 4) y6))
  else none)
theorem f_RT_bitsOfHex_27_s (fu : Nat) (n_v_literal_digits : Nat) (x1 : Nat) (v_literal_digitCount : Int32) (v_literal_fraction : Int32) (v_literal_exponent : Int32) (v_literal_digits_a : Nat → Int32)  (n : Nat) (y2 : Int64) (y4 : Int32) (y5 : Int32) (y6 : Int32) : f_RT_bitsOfHex_27 fu n_v_literal_digits x1 v_literal_digitCount v_literal_fraction v_literal_exponent v_literal_digits_a (n + 1) y2 y4 y5 y6 =
  (if v_literal_digitCount ≤ y6 then
  (f_Fmt_nearest fu x1 y2 y4 y5).bind fun u_2 =>
  some (u_2)
  else
  if zz_in y6 n_v_literal_digits = true then
  zz_lt (v_literal_digits_a y6.toNatClampNeg) fun x7_4 =>
  (if (lg_cmp ((y2.toUInt64 >>> ((59 : Int32).toInt64.toUInt64 &&& Int64.toUInt64 63)).toInt64) 0) = 0 then
  zz_lt ((y2 <<< ((4 : Int32).toInt64 &&& 63)) ||| x7_4.toInt64) fun x2_5 =>
  f_RT_bitsOfHex_27 fu n_v_literal_digits x1 v_literal_digitCount v_literal_fraction v_literal_exponent v_literal_digits_a n x2_5 y4 y5 (y6 + 1)
  else
  (if y5 = 0 then
  (if x7_4 = 0 then
  f_RT_bitsOfHex_27 fu n_v_literal_digits x1 v_literal_digitCount v_literal_fraction v_literal_exponent v_literal_digits_a n y2 (y4 + 4) 0 (y6 + 1)
  else
  f_RT_bitsOfHex_84 fu n_v_literal_digits x1 v_literal_digitCount v_literal_fraction v_literal_exponent v_literal_digits_a (f_RT_bitsOfHex_27 fu n_v_literal_digits x1 v_literal_digitCount v_literal_fraction v_literal_exponent v_literal_digits_a n) y2 (y4 + 4) y6)
  else
  f_RT_bitsOfHex_84 fu n_v_literal_digits x1 v_literal_digitCount v_literal_fraction v_literal_exponent v_literal_digits_a (f_RT_bitsOfHex_27 fu n_v_literal_digits x1 v_literal_digitCount v_literal_fraction v_literal_exponent v_literal_digits_a n) y2 (y4 + 4) y6))
  else none) := rfl
def f_RT_bitsOfHex (fu : Nat) (n_v_literal_digits : Nat) (x1 : Nat) (v_literal_digitCount : Int32) (v_literal_fraction : Int32) (v_literal_exponent : Int32) (v_literal_digits_a : Nat → Int32) : Option (Int64) :=
  zz_lt (v_literal_exponent - (4 * v_literal_fraction)) fun x4_1 =>
  f_RT_bitsOfHex_27 fu n_v_literal_digits x1 v_literal_digitCount v_literal_fraction v_literal_exponent v_literal_digits_a fu 0 x4_1 0 0
set_option maxHeartbeats 4000000 in
set_option maxRecDepth 100000 in
theorem c_RT_bitsOfHex (l : Launch) (dC : Nat → ClassId) (dI : Nat → Nat → Nat) (cI cC cB cJ : ClassId) (adF : Nat → Nat) (tp : Nat) (adK adV : Nat → Nat) (fu : Nat) (sz : Nat) (h_v : Nat) (h_v_literal : Nat) (h_v_literal_digits : Nat) (h_v_theText : Nat) (h_v_written : Nat) (h_v_quotient : Nat) (h_v_shortest : Nat) (h_v_decimal : Nat) (n_v_literal_digits : Nat) (x1 : Nat) (v_readCount : Int32) (v_noLiteralCount : Int32) (v_outOfRangeCount : Int32) (v_literal_digitCount : Int32) (v_literal_fraction : Int32) (v_literal_exponent : Int32) (v_literal_isHex : Int32) (v_literal_digits_a : Nat → Int32) (he_x1 : x1 < 2) (u : Int64) (hf : f_RT_bitsOfHex fu n_v_literal_digits x1 v_literal_digitCount v_literal_fraction v_literal_exponent v_literal_digits_a = some u) : Met l y_RT_bitsOfHex ws_RT_bitsOfHex rm_RT_bitsOfHex (zz_P (zx_E adF tp adK adV) (dC, dI) vwCl (zz_tys cI cC cB cJ) [.ref h_v, .ref (adF x1)] [(h_v, .inr (6, [.ref h_v_theText, .ref h_v_written, .ref h_v_literal, .ref h_v_quotient, .ref h_v_shortest, .ref h_v_decimal, .int v_readCount, .int v_noLiteralCount, .int v_outOfRangeCount])), (h_v_literal, .inr (2, [.ref h_v_literal_digits, .int v_literal_digitCount, .int v_literal_fraction, .int v_literal_exponent, .int v_literal_isHex])), (h_v_literal_digits, .inl (cB, n_v_literal_digits, .inl v_literal_digits_a))] sz) (zz_Ql (dC, dI) vwCl u [(h_v, .inr (6, [.ref h_v_theText, .ref h_v_written, .ref h_v_literal, .ref h_v_quotient, .ref h_v_shortest, .ref h_v_decimal, .int v_readCount, .int v_noLiteralCount, .int v_outOfRangeCount])), (h_v_literal, .inr (2, [.ref h_v_literal_digits, .int v_literal_digitCount, .int v_literal_fraction, .int v_literal_exponent, .int v_literal_isHex])), (h_v_literal_digits, .inl (cB, n_v_literal_digits, .inl v_literal_digits_a))] (va_A [(h_v, .inr (6, [.ref h_v_theText, .ref h_v_written, .ref h_v_literal, .ref h_v_quotient, .ref h_v_shortest, .ref h_v_decimal, .int v_readCount, .int v_noLiteralCount, .int v_outOfRangeCount])), (h_v_literal, .inr (2, [.ref h_v_literal_digits, .int v_literal_digitCount, .int v_literal_fraction, .int v_literal_exponent, .int v_literal_isHex])), (h_v_literal_digits, .inl (cB, n_v_literal_digits, .inl v_literal_digits_a))] sz)) 0 0 (va_A [(h_v, .inr (6, [.ref h_v_theText, .ref h_v_written, .ref h_v_literal, .ref h_v_quotient, .ref h_v_shortest, .ref h_v_decimal, .int v_readCount, .int v_noLiteralCount, .int v_outOfRangeCount])), (h_v_literal, .inr (2, [.ref h_v_literal_digits, .int v_literal_digitCount, .int v_literal_fraction, .int v_literal_exponent, .int v_literal_isHex])), (h_v_literal_digits, .inl (cB, n_v_literal_digits, .inl v_literal_digits_a))] sz) := by
  refine Met.ofW (cc := prog_1_method_12_code) (maxL := 8) (ret := (some .long)) (by decide +kernel) rfl ?_
  intro p e s m args below meth c s₁ B hml hv
  obtain ⟨rfl, hsz, hP, hK, hD0, hX⟩ := hv
  have hx := B.exec
  have hb := B.bytes
  have hr := B.returns
  have hts := atoms_spec (ws := ws_RT_bitsOfHex) B.pre
  have hw : ∀ w ∈ zw, w.before [.ref h_v, .ref (adF x1)].toArray s = true := fun w h => hts w (List.mem_cons_of_mem _ h)
  have hown : s.vm.findClass R_RT = some m.cls := findClass_of_methodNamed B.named
  have hlocks := B.notSynchronized
  subst hsz
  have hD := hD0.self (sz := s.heap.size)
  generalize hAe : va_A [(h_v, .inr (6, [.ref h_v_theText, .ref h_v_written, .ref h_v_literal, .ref h_v_quotient, .ref h_v_shortest, .ref h_v_decimal, .int v_readCount, .int v_noLiteralCount, .int v_outOfRangeCount])), (h_v_literal, .inr (2, [.ref h_v_literal_digits, .int v_literal_digitCount, .int v_literal_fraction, .int v_literal_exponent, .int v_literal_isHex])), (h_v_literal_digits, .inl (cB, n_v_literal_digits, .inl v_literal_digits_a))] s.heap.size = A at hD hX ⊢
  have hA : ∀ q : Nat, s.heap.size ≤ q → A q := fun q h => by rw [← hAe]; exact Or.inr h
  have hS : va_S A s.heap s.heap [] := va_S.rf
  have hl := lv_entry [.ref h_v, .ref (adF x1)] (n := 8) (Nat.le_of_ble_eq_true rfl)
  rw [lg_entry_eq]
  generalize (lg_sl [.ref h_v, .ref (adF x1)] ++ List.replicate (8 - (lg_sl [.ref h_v, .ref (adF x1)]).length) Slot.unset).toArray = ls at hl ⊢
  have hl : lv_has ls 8 [(0, .ref h_v), (1, .ref (adF x1))] := hl
  refine zz_endl hx hb hr hlocks (fun Qq hend => ?_)
  have hL_84 : ∀ (self27 : Int64 → Int32 → Int32 → Int32 → Option (Int64)), (∀ (y2 : Int64) (y4 : Int32) (y5 : Int32) (y6 : Int32) (ls : Array Slot) (H : Heap) (locs : List Loc), lv_has ls 8 [(0, .ref h_v), (1, .ref (adF x1)), (2, .long y2), (4, .int y4), (5, .int y5), (6, .int y6)] → va_P (dC, dI) vwCl [(h_v, .inr (6, [.ref h_v_theText, .ref h_v_written, .ref h_v_literal, .ref h_v_quotient, .ref h_v_shortest, .ref h_v_decimal, .int v_readCount, .int v_noLiteralCount, .int v_outOfRangeCount])), (h_v_literal, .inr (2, [.ref h_v_literal_digits, .int v_literal_digitCount, .int v_literal_fraction, .int v_literal_exponent, .int v_literal_isHex])), (h_v_literal_digits, .inl (cB, n_v_literal_digits, .inl v_literal_digits_a))] H → va_D A [(h_v, .inr (6, [.ref h_v_theText, .ref h_v_written, .ref h_v_literal, .ref h_v_quotient, .ref h_v_shortest, .ref h_v_decimal, .int v_readCount, .int v_noLiteralCount, .int v_outOfRangeCount])), (h_v_literal, .inr (2, [.ref h_v_literal_digits, .int v_literal_digitCount, .int v_literal_fraction, .int v_literal_exponent, .int v_literal_isHex])), (h_v_literal_digits, .inl (cB, n_v_literal_digits, .inl v_literal_digits_a))] → va_S A s.heap H locs → self27 y2 y4 y5 y6 = some u → W p l e (headSpec ws_RT_bitsOfHex rm_RT_bitsOfHex).room s m [.ref h_v, .ref (adF x1)].toArray below meth c H locs 0 0 Qq (F0 m 27 ls [])) → ∀ (y2 : Int64) (y4 : Int32) (y6 : Int32) (ls : Array Slot) (H : Heap) (locs : List Loc), lv_has ls 8 [(0, .ref h_v), (1, .ref (adF x1)), (2, .long y2), (4, .int y4), (6, .int y6)] → va_P (dC, dI) vwCl [(h_v, .inr (6, [.ref h_v_theText, .ref h_v_written, .ref h_v_literal, .ref h_v_quotient, .ref h_v_shortest, .ref h_v_decimal, .int v_readCount, .int v_noLiteralCount, .int v_outOfRangeCount])), (h_v_literal, .inr (2, [.ref h_v_literal_digits, .int v_literal_digitCount, .int v_literal_fraction, .int v_literal_exponent, .int v_literal_isHex])), (h_v_literal_digits, .inl (cB, n_v_literal_digits, .inl v_literal_digits_a))] H → va_D A [(h_v, .inr (6, [.ref h_v_theText, .ref h_v_written, .ref h_v_literal, .ref h_v_quotient, .ref h_v_shortest, .ref h_v_decimal, .int v_readCount, .int v_noLiteralCount, .int v_outOfRangeCount])), (h_v_literal, .inr (2, [.ref h_v_literal_digits, .int v_literal_digitCount, .int v_literal_fraction, .int v_literal_exponent, .int v_literal_isHex])), (h_v_literal_digits, .inl (cB, n_v_literal_digits, .inl v_literal_digits_a))] → va_S A s.heap H locs → f_RT_bitsOfHex_84 fu n_v_literal_digits x1 v_literal_digitCount v_literal_fraction v_literal_exponent v_literal_digits_a self27 y2 y4 y6 = some u → W p l e (headSpec ws_RT_bitsOfHex rm_RT_bitsOfHex).room s m [.ref h_v, .ref (adF x1)].toArray below meth c H locs 0 0 Qq (F0 m 84 ls []) := by
    intro self27 hs27
    intro y2 y4 y6 ls H locs hl hP hD hS hf
    unfold f_RT_bitsOfHex_84 at hf
    refine lv_iconst (v := 1) hx hb d_RT_bitsOfHex_84 (by decide) ?_
    refine lv_goto (tgt := 89) hx hb d_RT_bitsOfHex_85 (by decide) ?_
    refine lv_istore hx hb d_RT_bitsOfHex_89 hl (by decide) rfl (fun ls hl => ?_)
    have hl : lv_has ls 8 [(5, .int 1), (0, .ref h_v), (1, .ref (adF x1)), (2, .long y2), (4, .int y4), (6, .int y6)] := hl
    refine lv_iinc (k := 5) (v := y6 + 1) hx hb d_RT_bitsOfHex_91 hl rfl rfl (by decide) rfl (fun ls hl => ?_)
    have hl : lv_has ls 8 [(6, .int (y6 + 1)), (5, .int 1), (0, .ref h_v), (1, .ref (adF x1)), (2, .long y2), (4, .int y4)] := hl
    refine lv_goto (tgt := 27) hx hb d_RT_bitsOfHex_94 (by decide) ?_
    exact hs27 y2 y4 1 (y6 + 1) ls _ _ (lv_sub hl [2, 3, 4, 5, 1, 0] rfl) hP hD hS hf
  have hL_27 : ∀ (n : Nat), ∀ (y2 : Int64) (y4 : Int32) (y5 : Int32) (y6 : Int32) (ls : Array Slot) (H : Heap) (locs : List Loc), lv_has ls 8 [(0, .ref h_v), (1, .ref (adF x1)), (2, .long y2), (4, .int y4), (5, .int y5), (6, .int y6)] → va_P (dC, dI) vwCl [(h_v, .inr (6, [.ref h_v_theText, .ref h_v_written, .ref h_v_literal, .ref h_v_quotient, .ref h_v_shortest, .ref h_v_decimal, .int v_readCount, .int v_noLiteralCount, .int v_outOfRangeCount])), (h_v_literal, .inr (2, [.ref h_v_literal_digits, .int v_literal_digitCount, .int v_literal_fraction, .int v_literal_exponent, .int v_literal_isHex])), (h_v_literal_digits, .inl (cB, n_v_literal_digits, .inl v_literal_digits_a))] H → va_D A [(h_v, .inr (6, [.ref h_v_theText, .ref h_v_written, .ref h_v_literal, .ref h_v_quotient, .ref h_v_shortest, .ref h_v_decimal, .int v_readCount, .int v_noLiteralCount, .int v_outOfRangeCount])), (h_v_literal, .inr (2, [.ref h_v_literal_digits, .int v_literal_digitCount, .int v_literal_fraction, .int v_literal_exponent, .int v_literal_isHex])), (h_v_literal_digits, .inl (cB, n_v_literal_digits, .inl v_literal_digits_a))] → va_S A s.heap H locs → f_RT_bitsOfHex_27 fu n_v_literal_digits x1 v_literal_digitCount v_literal_fraction v_literal_exponent v_literal_digits_a n y2 y4 y5 y6 = some u → W p l e (headSpec ws_RT_bitsOfHex rm_RT_bitsOfHex).room s m [.ref h_v, .ref (adF x1)].toArray below meth c H locs 0 0 Qq (F0 m 27 ls []) := by
    intro n
    induction n with
    | zero =>
      intro y2 y4 y5 y6 ls H locs hl hP hD hS hf
      exact zz_no hf
    | succ n ih =>
      intro y2 y4 y5 y6 ls H locs hl hP hD hS hf
      rw [f_RT_bitsOfHex_27_s] at hf
      refine lv_iload hx hb d_RT_bitsOfHex_27 (lv_at hl 5 rfl) ?_
      refine lv_aload_n hx hb d_RT_bitsOfHex_29 rfl (lv_at hl 0 rfl) ?_
      refine va_get (D := (dC, dI)) (ci := 6) (v := .ref h_v_literal) (C := R_RT) (T := T_RT) (N := 9) hx hb hw in_RT hown hK hP 0 rfl rfl 2 (by decide) (hw _ wd_170) (fun _ h9 => h9) rfl d_RT_bitsOfHex_30 ?_
      refine va_get (D := (dC, dI)) (ci := 2) (v := .int v_literal_digitCount) (C := R_Lit) (T := T_Lit) (N := 5) hx hb hw in_Lit hown hK hP 1 rfl rfl 1 (by decide) (hw _ wd_59) (fun _ h9 => h9) rfl d_RT_bitsOfHex_33 ?_
      refine lv_icmp_ge (tgt := 97) hx hb d_RT_bitsOfHex_36 (by decide) (fun hc => ?_) (fun hc => ?_)
      · have hf := zz_ifp hc hf
        refine lv_aload_n hx hb d_RT_bitsOfHex_97 rfl (lv_at hl 1 rfl) ?_
        refine lv_lload_n hx hb d_RT_bitsOfHex_98 rfl (lv_at hl 2 rfl) ?_
        refine lv_iload hx hb d_RT_bitsOfHex_99 (lv_at hl 3 rfl) ?_
        refine lv_iload hx hb d_RT_bitsOfHex_101 (lv_at hl 4 rfl) ?_
        obtain ⟨u_2, hu_2, hf⟩ := zz_bd hf
        refine zz_cl (ws' := [(h_v, .inr (6, [.ref h_v_theText, .ref h_v_written, .ref h_v_literal, .ref h_v_quotient, .ref h_v_shortest, .ref h_v_decimal, .int v_readCount, .int v_noLiteralCount, .int v_outOfRangeCount])), (h_v_literal, .inr (2, [.ref h_v_literal_digits, .int v_literal_digitCount, .int v_literal_fraction, .int v_literal_exponent, .int v_literal_isHex])), (h_v_literal_digits, .inl (cB, n_v_literal_digits, .inl v_literal_digits_a))]) (wc := []) (w' := []) hP hD hS hA [] [0, 1, 2] [0, 1, 2] rfl rfl (by decide) (by decide) rfl (by decide) (va_runV (As := [.long y2, .int y4, .int y5]) (rest := []) ⟨hx, hb, hml, hown, hw⟩ (c_Fmt_nearest l dC dI cI cC cB cJ adF tp adK adV fu _ x1 y2 y4 y5 he_x1 u_2 hu_2) (cwV 3 hw (zg_V wd_605 wd_606 wd_607 wd_15 wd_608) rfl rfl rfl hd_Fmt_nearest ⟨Nat.le_of_ble_eq_true rfl, Nat.le_of_ble_eq_true rfl⟩) (zz_preV (zx_ok adF tp adK adV) (va_recvE hX.1 he_x1 hS) hP hD hK hS hA hX [] rfl (by decide)) rfl rfl hl.1 rfl (lv_room (Nat.le_of_ble_eq_true rfl)) d_RT_bitsOfHex_103 ⟨Nat.zero_le _, Nat.zero_le _⟩) (fun H locs hP hD hS => ?_)
        cases hf
        exact hend 106 ls _ _ d_RT_bitsOfHex_106 hP hD hS
      · have hf := zz_ifn hc hf
        refine lv_aload_n hx hb d_RT_bitsOfHex_39 rfl (lv_at hl 0 rfl) ?_
        refine va_get (D := (dC, dI)) (ci := 6) (v := .ref h_v_literal) (C := R_RT) (T := T_RT) (N := 9) hx hb hw in_RT hown hK hP 0 rfl rfl 2 (by decide) (hw _ wd_170) (fun _ h9 => h9) rfl d_RT_bitsOfHex_40 ?_
        refine va_get (D := (dC, dI)) (ci := 2) (v := .ref h_v_literal_digits) (C := R_Lit) (T := T_Lit) (N := 5) hx hb hw in_Lit hown hK hP 1 rfl rfl 0 (by decide) (hw _ wd_56) (fun _ h9 => h9) rfl d_RT_bitsOfHex_43 ?_
        refine lv_iload hx hb d_RT_bitsOfHex_46 (lv_at hl 5 rfl) ?_
        obtain ⟨hb_3, hf⟩ := zz_gd hf
        refine va_bald hx hb hK hP 2 2 rfl rfl (zz_vp hb_3) d_RT_bitsOfHex_48 ?_
        refine lv_topi (fun x7_4 e_x7_4 => ?_)
        have hf := zz_ltp hf x7_4 e_x7_4
        refine lv_istore hx hb d_RT_bitsOfHex_49 hl (by decide) rfl (fun ls hl => ?_)
        have hl : lv_has ls 8 [(7, .int x7_4), (0, .ref h_v), (1, .ref (adF x1)), (2, .long y2), (4, .int y4), (5, .int y5), (6, .int y6)] := hl
        refine lv_lload_n hx hb d_RT_bitsOfHex_51 rfl (lv_at hl 3 rfl) ?_
        refine lv_bipush (v := 59) hx hb d_RT_bitsOfHex_52 (by decide) ?_
        refine lv_lushr hx hb d_RT_bitsOfHex_54 rfl ?_
        refine lv_lconst (v := 0) hx hb d_RT_bitsOfHex_55 (by decide) ?_
        refine W.lcmp hx hb d_RT_bitsOfHex_56 ?_
        refine lv_if_ne (tgt := 71) hx hb d_RT_bitsOfHex_57 (by decide) (fun hc => ?_) (fun hc => ?_)
        · have hf := zz_ifn hc hf
          refine lv_iinc (k := 4) (v := y4 + 4) hx hb d_RT_bitsOfHex_71 hl rfl rfl (by decide) rfl (fun ls hl => ?_)
          have hl : lv_has ls 8 [(4, .int (y4 + 4)), (7, .int x7_4), (0, .ref h_v), (1, .ref (adF x1)), (2, .long y2), (5, .int y5), (6, .int y6)] := hl
          refine lv_iload hx hb d_RT_bitsOfHex_74 (lv_at hl 5 rfl) ?_
          refine lv_if_ne (tgt := 84) hx hb d_RT_bitsOfHex_76 (by decide) (fun hc => ?_) (fun hc => ?_)
          · have hf := zz_ifn hc hf
            exact hL_84 _ ih y2 (y4 + 4) y6 ls _ _ (lv_sub hl [2, 3, 4, 0, 6] rfl) hP hD hS hf
          · have hf := zz_ifp hc hf
            refine lv_iload hx hb d_RT_bitsOfHex_79 (lv_at hl 1 rfl) ?_
            refine lv_if_eq (tgt := 88) hx hb d_RT_bitsOfHex_81 (by decide) (fun hc => ?_) (fun hc => ?_)
            · have hf := zz_ifp hc hf
              refine lv_iconst (v := 0) hx hb d_RT_bitsOfHex_88 (by decide) ?_
              refine lv_istore hx hb d_RT_bitsOfHex_89 hl (by decide) rfl (fun ls hl => ?_)
              have hl : lv_has ls 8 [(5, .int 0), (4, .int (y4 + 4)), (7, .int x7_4), (0, .ref h_v), (1, .ref (adF x1)), (2, .long y2), (6, .int y6)] := hl
              refine lv_iinc (k := 6) (v := y6 + 1) hx hb d_RT_bitsOfHex_91 hl rfl rfl (by decide) rfl (fun ls hl => ?_)
              have hl : lv_has ls 8 [(6, .int (y6 + 1)), (5, .int 0), (4, .int (y4 + 4)), (7, .int x7_4), (0, .ref h_v), (1, .ref (adF x1)), (2, .long y2)] := hl
              refine lv_goto (tgt := 27) hx hb d_RT_bitsOfHex_94 (by decide) ?_
              exact ih y2 (y4 + 4) 0 (y6 + 1) ls _ _ (lv_sub hl [4, 5, 6, 2, 1, 0] rfl) hP hD hS hf
            · have hf := zz_ifn hc hf
              exact hL_84 _ ih y2 (y4 + 4) y6 ls _ _ (lv_sub hl [2, 3, 4, 0, 6] rfl) hP hD hS hf
        · have hf := zz_ifp hc hf
          refine lv_lload_n hx hb d_RT_bitsOfHex_60 rfl (lv_at hl 3 rfl) ?_
          refine lv_iconst (v := 4) hx hb d_RT_bitsOfHex_61 (by decide) ?_
          refine lv_lshl hx hb d_RT_bitsOfHex_62 rfl ?_
          refine lv_iload hx hb d_RT_bitsOfHex_63 (lv_at hl 0 rfl) ?_
          refine lv_i2l hx hb d_RT_bitsOfHex_65 rfl ?_
          refine lv_lor hx hb d_RT_bitsOfHex_66 ?_
          refine lv_topl (fun x2_5 e_x2_5 => ?_)
          have hf := zz_ltp hf x2_5 e_x2_5
          refine lv_lstore_n hx hb d_RT_bitsOfHex_67 rfl hl (by decide) rfl (fun ls hl => ?_)
          have hl : lv_has ls 8 [(2, .long x2_5), (7, .int x7_4), (0, .ref h_v), (1, .ref (adF x1)), (4, .int y4), (5, .int y5), (6, .int y6)] := hl
          refine lv_goto (tgt := 91) hx hb d_RT_bitsOfHex_68 (by decide) ?_
          refine lv_iinc (k := 6) (v := y6 + 1) hx hb d_RT_bitsOfHex_91 hl rfl rfl (by decide) rfl (fun ls hl => ?_)
          have hl : lv_has ls 8 [(6, .int (y6 + 1)), (2, .long x2_5), (7, .int x7_4), (0, .ref h_v), (1, .ref (adF x1)), (4, .int y4), (5, .int y5)] := hl
          refine lv_goto (tgt := 27) hx hb d_RT_bitsOfHex_94 (by decide) ?_
          exact ih x2_5 y4 y5 (y6 + 1) ls _ _ (lv_sub hl [3, 4, 1, 5, 6, 0] rfl) hP hD hS hf
  unfold f_RT_bitsOfHex at hf
  refine lv_lconst (v := 0) hx hb d_RT_bitsOfHex_0 (by decide) ?_
  refine lv_lstore_n hx hb d_RT_bitsOfHex_1 rfl hl (by decide) rfl (fun ls hl => ?_)
  have hl : lv_has ls 8 [(2, .long 0), (0, .ref h_v), (1, .ref (adF x1))] := hl
  refine lv_aload_n hx hb d_RT_bitsOfHex_2 rfl (lv_at hl 1 rfl) ?_
  refine va_get (D := (dC, dI)) (ci := 6) (v := .ref h_v_literal) (C := R_RT) (T := T_RT) (N := 9) hx hb hw in_RT hown hK hP 0 rfl rfl 2 (by decide) (hw _ wd_170) (fun _ h9 => h9) rfl d_RT_bitsOfHex_3 ?_
  refine va_get (D := (dC, dI)) (ci := 2) (v := .int v_literal_exponent) (C := R_Lit) (T := T_Lit) (N := 5) hx hb hw in_Lit hown hK hP 1 rfl rfl 3 (by decide) (hw _ wd_63) (fun _ h9 => h9) rfl d_RT_bitsOfHex_6 ?_
  refine lv_iconst (v := 4) hx hb d_RT_bitsOfHex_9 (by decide) ?_
  refine lv_aload_n hx hb d_RT_bitsOfHex_10 rfl (lv_at hl 1 rfl) ?_
  refine va_get (D := (dC, dI)) (ci := 6) (v := .ref h_v_literal) (C := R_RT) (T := T_RT) (N := 9) hx hb hw in_RT hown hK hP 0 rfl rfl 2 (by decide) (hw _ wd_170) (fun _ h9 => h9) rfl d_RT_bitsOfHex_11 ?_
  refine va_get (D := (dC, dI)) (ci := 2) (v := .int v_literal_fraction) (C := R_Lit) (T := T_Lit) (N := 5) hx hb hw in_Lit hown hK hP 1 rfl rfl 2 (by decide) (hw _ wd_61) (fun _ h9 => h9) rfl d_RT_bitsOfHex_14 ?_
  refine lv_imul hx hb d_RT_bitsOfHex_17 ?_
  refine lv_isub hx hb d_RT_bitsOfHex_18 ?_
  refine lv_topi (fun x4_1 e_x4_1 => ?_)
  have hf := zz_ltp hf x4_1 e_x4_1
  refine lv_istore hx hb d_RT_bitsOfHex_19 hl (by decide) rfl (fun ls hl => ?_)
  have hl : lv_has ls 8 [(4, .int x4_1), (2, .long 0), (0, .ref h_v), (1, .ref (adF x1))] := hl
  refine lv_iconst (v := 0) hx hb d_RT_bitsOfHex_21 (by decide) ?_
  refine lv_istore hx hb d_RT_bitsOfHex_22 hl (by decide) rfl (fun ls hl => ?_)
  have hl : lv_has ls 8 [(5, .int 0), (4, .int x4_1), (2, .long 0), (0, .ref h_v), (1, .ref (adF x1))] := hl
  refine lv_iconst (v := 0) hx hb d_RT_bitsOfHex_24 (by decide) ?_
  refine lv_istore hx hb d_RT_bitsOfHex_25 hl (by decide) rfl (fun ls hl => ?_)
  have hl : lv_has ls 8 [(6, .int 0), (5, .int 0), (4, .int x4_1), (2, .long 0), (0, .ref h_v), (1, .ref (adF x1))] := hl
  exact hL_27 fu 0 x4_1 0 0 ls _ _ (lv_sub hl [4, 5, 3, 2, 1, 0] rfl) hP hD hS hf
abbrev ws_RT_bitsOfDecimal : List Cond := .code y_RT_bitsOfDecimal prog_1_method_13_code 4 (some .long) :: zw
abbrev rm_RT_bitsOfDecimal : Room := { frames := 4, cells := 0, slots := 0, locals := 95 }
theorem hd_RT_bitsOfDecimal : y_RT_bitsOfDecimal.cls = "RealText" ∧ y_RT_bitsOfDecimal.cls ≠ "java/lang/invoke/MethodHandle" ∧ y_RT_bitsOfDecimal.cls ≠ "java/lang/invoke/VarHandle" ∧ (parseMethodDescriptor y_RT_bitsOfDecimal.desc).map (fun d => d.parameters.length) = some 1 := by decide +kernel
theorem d_RT_bitsOfDecimal_0 : decode prog_1_method_13_code 0 = .ok (.aload_n 0, 1) := by decide +kernel
theorem d_RT_bitsOfDecimal_1 : decode prog_1_method_13_code 1 = .ok (.getfield 24, 3) := by decide +kernel
theorem d_RT_bitsOfDecimal_4 : decode prog_1_method_13_code 4 = .ok (.getfield 172, 3) := by decide +kernel
theorem d_RT_bitsOfDecimal_7 : decode prog_1_method_13_code 7 = .ok (.aload_n 0, 1) := by decide +kernel
theorem d_RT_bitsOfDecimal_8 : decode prog_1_method_13_code 8 = .ok (.getfield 24, 3) := by decide +kernel
theorem d_RT_bitsOfDecimal_11 : decode prog_1_method_13_code 11 = .ok (.getfield 175, 3) := by decide +kernel
theorem d_RT_bitsOfDecimal_14 : decode prog_1_method_13_code 14 = .ok (.isub, 1) := by decide +kernel
theorem d_RT_bitsOfDecimal_15 : decode prog_1_method_13_code 15 = .ok (.istore_n 2, 1) := by decide +kernel
theorem d_RT_bitsOfDecimal_16 : decode prog_1_method_13_code 16 = .ok (.aload_n 0, 1) := by decide +kernel
theorem d_RT_bitsOfDecimal_17 : decode prog_1_method_13_code 17 = .ok (.getfield 24, 3) := by decide +kernel
theorem d_RT_bitsOfDecimal_20 : decode prog_1_method_13_code 20 = .ok (.getfield 159, 3) := by decide +kernel
theorem d_RT_bitsOfDecimal_23 : decode prog_1_method_13_code 23 = .ok (.iload_n 2, 1) := by decide +kernel
theorem d_RT_bitsOfDecimal_24 : decode prog_1_method_13_code 24 = .ok (.iadd, 1) := by decide +kernel
theorem d_RT_bitsOfDecimal_25 : decode prog_1_method_13_code 25 = .ok (.istore_n 3, 1) := by decide +kernel
theorem d_RT_bitsOfDecimal_26 : decode prog_1_method_13_code 26 = .ok (.iload_n 3, 1) := by decide +kernel
theorem d_RT_bitsOfDecimal_27 : decode prog_1_method_13_code 27 = .ok (.sipush 310, 3) := by decide +kernel
theorem d_RT_bitsOfDecimal_30 : decode prog_1_method_13_code 30 = .ok (.if_icmp .gt 10, 3) := by decide +kernel
theorem d_RT_bitsOfDecimal_33 : decode prog_1_method_13_code 33 = .ok (.iload_n 3, 1) := by decide +kernel
theorem d_RT_bitsOfDecimal_34 : decode prog_1_method_13_code 34 = .ok (.sipush (-330), 3) := by decide +kernel
theorem d_RT_bitsOfDecimal_37 : decode prog_1_method_13_code 37 = .ok (.if_icmp .ge 7, 3) := by decide +kernel
theorem d_RT_bitsOfDecimal_40 : decode prog_1_method_13_code 40 = .ok (.ldc2_w 97, 3) := by decide +kernel
theorem d_RT_bitsOfDecimal_43 : decode prog_1_method_13_code 43 = .ok (.lreturn, 1) := by decide +kernel
theorem d_RT_bitsOfDecimal_44 : decode prog_1_method_13_code 44 = .ok (.aload_n 0, 1) := by decide +kernel
theorem d_RT_bitsOfDecimal_45 : decode prog_1_method_13_code 45 = .ok (.getfield 31, 3) := by decide +kernel
theorem d_RT_bitsOfDecimal_48 : decode prog_1_method_13_code 48 = .ok (.aload_n 0, 1) := by decide +kernel
theorem d_RT_bitsOfDecimal_49 : decode prog_1_method_13_code 49 = .ok (.getfield 24, 3) := by decide +kernel
theorem d_RT_bitsOfDecimal_52 : decode prog_1_method_13_code 52 = .ok (.iload_n 2, 1) := by decide +kernel
theorem d_RT_bitsOfDecimal_53 : decode prog_1_method_13_code 53 = .ok (.invokevirtual 186, 3) := by decide +kernel
theorem d_RT_bitsOfDecimal_56 : decode prog_1_method_13_code 56 = .ok (.aload_n 1, 1) := by decide +kernel
theorem d_RT_bitsOfDecimal_57 : decode prog_1_method_13_code 57 = .ok (.aload_n 0, 1) := by decide +kernel
theorem d_RT_bitsOfDecimal_58 : decode prog_1_method_13_code 58 = .ok (.getfield 31, 3) := by decide +kernel
theorem d_RT_bitsOfDecimal_61 : decode prog_1_method_13_code 61 = .ok (.getfield 190, 3) := by decide +kernel
theorem d_RT_bitsOfDecimal_64 : decode prog_1_method_13_code 64 = .ok (.aload_n 0, 1) := by decide +kernel
theorem d_RT_bitsOfDecimal_65 : decode prog_1_method_13_code 65 = .ok (.getfield 31, 3) := by decide +kernel
theorem d_RT_bitsOfDecimal_68 : decode prog_1_method_13_code 68 = .ok (.getfield 193, 3) := by decide +kernel
theorem d_RT_bitsOfDecimal_71 : decode prog_1_method_13_code 71 = .ok (.aload_n 0, 1) := by decide +kernel
theorem d_RT_bitsOfDecimal_72 : decode prog_1_method_13_code 72 = .ok (.getfield 31, 3) := by decide +kernel
theorem d_RT_bitsOfDecimal_75 : decode prog_1_method_13_code 75 = .ok (.getfield 194, 3) := by decide +kernel
theorem d_RT_bitsOfDecimal_78 : decode prog_1_method_13_code 78 = .ok (.invokevirtual 182, 3) := by decide +kernel
theorem d_RT_bitsOfDecimal_81 : decode prog_1_method_13_code 81 = .ok (.lreturn, 1) := by decide +kernel
def f_RT_bitsOfDecimal (fu : Nat) (n_v_literal_digits : Nat) (n_v_quotient_numerator_limbs : Nat) (n_v_quotient_denominator_limbs : Nat) (x1 : Nat) (v_literal_digitCount : Int32) (v_literal_fraction : Int32) (v_literal_exponent : Int32) (v_literal_digits_a : Nat → Int32) (v_quotient_lead : Int64) (v_quotient_power : Int32) (v_quotient_more : Int32) (v_quotient_numerator_size : Int32) (v_quotient_numerator_limbs_a : Nat → Int32) (v_quotient_denominator_size : Int32) (v_quotient_denominator_limbs_a : Nat → Int32) : Option (Int64 × Int64 × Int32 × Int32 × Int32 × (Nat → Int32) × Int32 × (Nat → Int32)) :=
  zz_lt (v_literal_exponent - v_literal_fraction) fun x2_1 =>
  zz_lt (v_literal_digitCount + x2_1) fun x3_2 =>
  (if 310 < x3_2 then
  some ((-2), v_quotient_lead, v_quotient_power, v_quotient_more, v_quotient_numerator_size, v_quotient_numerator_limbs_a, v_quotient_denominator_size, v_quotient_denominator_limbs_a)
  else
  (if (-330) ≤ x3_2 then
  (f_Quo_divide fu n_v_quotient_numerator_limbs n_v_quotient_denominator_limbs n_v_literal_digits x2_1 v_quotient_lead v_quotient_power v_quotient_more v_quotient_numerator_size v_quotient_numerator_limbs_a v_quotient_denominator_size v_quotient_denominator_limbs_a v_literal_digitCount v_literal_digits_a).bind fun u_3 =>
  (f_Fmt_nearest fu x1 u_3.1 u_3.2.1 u_3.2.2.1).bind fun u_4 =>
  some (u_4, u_3.1, u_3.2.1, u_3.2.2.1, u_3.2.2.2.1, u_3.2.2.2.2.1, u_3.2.2.2.2.2.1, u_3.2.2.2.2.2.2)
  else
  some ((-2), v_quotient_lead, v_quotient_power, v_quotient_more, v_quotient_numerator_size, v_quotient_numerator_limbs_a, v_quotient_denominator_size, v_quotient_denominator_limbs_a)))
set_option maxHeartbeats 4000000 in
set_option maxRecDepth 100000 in
theorem c_RT_bitsOfDecimal (l : Launch) (dC : Nat → ClassId) (dI : Nat → Nat → Nat) (cI cC cB cJ : ClassId) (adF : Nat → Nat) (tp : Nat) (adK adV : Nat → Nat) (fu : Nat) (sz : Nat) (h_v : Nat) (h_v_literal : Nat) (h_v_literal_digits : Nat) (h_v_quotient : Nat) (h_v_quotient_numerator : Nat) (h_v_quotient_numerator_limbs : Nat) (h_v_quotient_denominator : Nat) (h_v_quotient_denominator_limbs : Nat) (h_v_theText : Nat) (h_v_written : Nat) (h_v_shortest : Nat) (h_v_decimal : Nat) (n_v_literal_digits : Nat) (n_v_quotient_numerator_limbs : Nat) (n_v_quotient_denominator_limbs : Nat) (x1 : Nat) (v_readCount : Int32) (v_noLiteralCount : Int32) (v_outOfRangeCount : Int32) (v_literal_digitCount : Int32) (v_literal_fraction : Int32) (v_literal_exponent : Int32) (v_literal_isHex : Int32) (v_literal_digits_a : Nat → Int32) (v_quotient_lead : Int64) (v_quotient_power : Int32) (v_quotient_more : Int32) (v_quotient_numerator_size : Int32) (v_quotient_numerator_limbs_a : Nat → Int32) (v_quotient_denominator_size : Int32) (v_quotient_denominator_limbs_a : Nat → Int32) (he_x1 : x1 < 2) (u : Int64 × Int64 × Int32 × Int32 × Int32 × (Nat → Int32) × Int32 × (Nat → Int32)) (hf : f_RT_bitsOfDecimal fu n_v_literal_digits n_v_quotient_numerator_limbs n_v_quotient_denominator_limbs x1 v_literal_digitCount v_literal_fraction v_literal_exponent v_literal_digits_a v_quotient_lead v_quotient_power v_quotient_more v_quotient_numerator_size v_quotient_numerator_limbs_a v_quotient_denominator_size v_quotient_denominator_limbs_a = some u) : Met l y_RT_bitsOfDecimal ws_RT_bitsOfDecimal rm_RT_bitsOfDecimal (zz_P (zx_E adF tp adK adV) (dC, dI) vwCl (zz_tys cI cC cB cJ) [.ref h_v, .ref (adF x1)] [(h_v, .inr (6, [.ref h_v_theText, .ref h_v_written, .ref h_v_literal, .ref h_v_quotient, .ref h_v_shortest, .ref h_v_decimal, .int v_readCount, .int v_noLiteralCount, .int v_outOfRangeCount])), (h_v_literal, .inr (2, [.ref h_v_literal_digits, .int v_literal_digitCount, .int v_literal_fraction, .int v_literal_exponent, .int v_literal_isHex])), (h_v_literal_digits, .inl (cB, n_v_literal_digits, .inl v_literal_digits_a)), (h_v_quotient, .inr (3, [.ref h_v_quotient_numerator, .ref h_v_quotient_denominator, .long v_quotient_lead, .int v_quotient_power, .int v_quotient_more])), (h_v_quotient_numerator, .inr (0, [.ref h_v_quotient_numerator_limbs, .int v_quotient_numerator_size])), (h_v_quotient_numerator_limbs, .inl (cI, n_v_quotient_numerator_limbs, .inl v_quotient_numerator_limbs_a)), (h_v_quotient_denominator, .inr (0, [.ref h_v_quotient_denominator_limbs, .int v_quotient_denominator_size])), (h_v_quotient_denominator_limbs, .inl (cI, n_v_quotient_denominator_limbs, .inl v_quotient_denominator_limbs_a))] sz) (zz_Ql (dC, dI) vwCl u.1 [(h_v, .inr (6, [.ref h_v_theText, .ref h_v_written, .ref h_v_literal, .ref h_v_quotient, .ref h_v_shortest, .ref h_v_decimal, .int v_readCount, .int v_noLiteralCount, .int v_outOfRangeCount])), (h_v_literal, .inr (2, [.ref h_v_literal_digits, .int v_literal_digitCount, .int v_literal_fraction, .int v_literal_exponent, .int v_literal_isHex])), (h_v_literal_digits, .inl (cB, n_v_literal_digits, .inl v_literal_digits_a)), (h_v_quotient, .inr (3, [.ref h_v_quotient_numerator, .ref h_v_quotient_denominator, .long u.2.1, .int u.2.2.1, .int u.2.2.2.1])), (h_v_quotient_numerator, .inr (0, [.ref h_v_quotient_numerator_limbs, .int u.2.2.2.2.1])), (h_v_quotient_numerator_limbs, .inl (cI, n_v_quotient_numerator_limbs, .inl u.2.2.2.2.2.1)), (h_v_quotient_denominator, .inr (0, [.ref h_v_quotient_denominator_limbs, .int u.2.2.2.2.2.2.1])), (h_v_quotient_denominator_limbs, .inl (cI, n_v_quotient_denominator_limbs, .inl u.2.2.2.2.2.2.2))] (va_A [(h_v, .inr (6, [.ref h_v_theText, .ref h_v_written, .ref h_v_literal, .ref h_v_quotient, .ref h_v_shortest, .ref h_v_decimal, .int v_readCount, .int v_noLiteralCount, .int v_outOfRangeCount])), (h_v_literal, .inr (2, [.ref h_v_literal_digits, .int v_literal_digitCount, .int v_literal_fraction, .int v_literal_exponent, .int v_literal_isHex])), (h_v_literal_digits, .inl (cB, n_v_literal_digits, .inl v_literal_digits_a)), (h_v_quotient, .inr (3, [.ref h_v_quotient_numerator, .ref h_v_quotient_denominator, .long v_quotient_lead, .int v_quotient_power, .int v_quotient_more])), (h_v_quotient_numerator, .inr (0, [.ref h_v_quotient_numerator_limbs, .int v_quotient_numerator_size])), (h_v_quotient_numerator_limbs, .inl (cI, n_v_quotient_numerator_limbs, .inl v_quotient_numerator_limbs_a)), (h_v_quotient_denominator, .inr (0, [.ref h_v_quotient_denominator_limbs, .int v_quotient_denominator_size])), (h_v_quotient_denominator_limbs, .inl (cI, n_v_quotient_denominator_limbs, .inl v_quotient_denominator_limbs_a))] sz)) 0 0 (va_A [(h_v, .inr (6, [.ref h_v_theText, .ref h_v_written, .ref h_v_literal, .ref h_v_quotient, .ref h_v_shortest, .ref h_v_decimal, .int v_readCount, .int v_noLiteralCount, .int v_outOfRangeCount])), (h_v_literal, .inr (2, [.ref h_v_literal_digits, .int v_literal_digitCount, .int v_literal_fraction, .int v_literal_exponent, .int v_literal_isHex])), (h_v_literal_digits, .inl (cB, n_v_literal_digits, .inl v_literal_digits_a)), (h_v_quotient, .inr (3, [.ref h_v_quotient_numerator, .ref h_v_quotient_denominator, .long v_quotient_lead, .int v_quotient_power, .int v_quotient_more])), (h_v_quotient_numerator, .inr (0, [.ref h_v_quotient_numerator_limbs, .int v_quotient_numerator_size])), (h_v_quotient_numerator_limbs, .inl (cI, n_v_quotient_numerator_limbs, .inl v_quotient_numerator_limbs_a)), (h_v_quotient_denominator, .inr (0, [.ref h_v_quotient_denominator_limbs, .int v_quotient_denominator_size])), (h_v_quotient_denominator_limbs, .inl (cI, n_v_quotient_denominator_limbs, .inl v_quotient_denominator_limbs_a))] sz) := by
  refine Met.ofW (cc := prog_1_method_13_code) (maxL := 4) (ret := (some .long)) (by decide +kernel) rfl ?_
  intro p e s m args below meth c s₁ B hml hv
  obtain ⟨rfl, hsz, hP, hK, hD0, hX⟩ := hv
  have hx := B.exec
  have hb := B.bytes
  have hr := B.returns
  have hts := atoms_spec (ws := ws_RT_bitsOfDecimal) B.pre
  have hw : ∀ w ∈ zw, w.before [.ref h_v, .ref (adF x1)].toArray s = true := fun w h => hts w (List.mem_cons_of_mem _ h)
  have hown : s.vm.findClass R_RT = some m.cls := findClass_of_methodNamed B.named
  have hlocks := B.notSynchronized
  subst hsz
  have hD := hD0.self (sz := s.heap.size)
  generalize hAe : va_A [(h_v, .inr (6, [.ref h_v_theText, .ref h_v_written, .ref h_v_literal, .ref h_v_quotient, .ref h_v_shortest, .ref h_v_decimal, .int v_readCount, .int v_noLiteralCount, .int v_outOfRangeCount])), (h_v_literal, .inr (2, [.ref h_v_literal_digits, .int v_literal_digitCount, .int v_literal_fraction, .int v_literal_exponent, .int v_literal_isHex])), (h_v_literal_digits, .inl (cB, n_v_literal_digits, .inl v_literal_digits_a)), (h_v_quotient, .inr (3, [.ref h_v_quotient_numerator, .ref h_v_quotient_denominator, .long v_quotient_lead, .int v_quotient_power, .int v_quotient_more])), (h_v_quotient_numerator, .inr (0, [.ref h_v_quotient_numerator_limbs, .int v_quotient_numerator_size])), (h_v_quotient_numerator_limbs, .inl (cI, n_v_quotient_numerator_limbs, .inl v_quotient_numerator_limbs_a)), (h_v_quotient_denominator, .inr (0, [.ref h_v_quotient_denominator_limbs, .int v_quotient_denominator_size])), (h_v_quotient_denominator_limbs, .inl (cI, n_v_quotient_denominator_limbs, .inl v_quotient_denominator_limbs_a))] s.heap.size = A at hD hX ⊢
  have hA : ∀ q : Nat, s.heap.size ≤ q → A q := fun q h => by rw [← hAe]; exact Or.inr h
  have hS : va_S A s.heap s.heap [] := va_S.rf
  have hl := lv_entry [.ref h_v, .ref (adF x1)] (n := 4) (Nat.le_of_ble_eq_true rfl)
  rw [lg_entry_eq]
  generalize (lg_sl [.ref h_v, .ref (adF x1)] ++ List.replicate (4 - (lg_sl [.ref h_v, .ref (adF x1)]).length) Slot.unset).toArray = ls at hl ⊢
  have hl : lv_has ls 4 [(0, .ref h_v), (1, .ref (adF x1))] := hl
  refine zz_endl hx hb hr hlocks (fun Qq hend => ?_)
  unfold f_RT_bitsOfDecimal at hf
  refine lv_aload_n hx hb d_RT_bitsOfDecimal_0 rfl (lv_at hl 0 rfl) ?_
  refine va_get (D := (dC, dI)) (ci := 6) (v := .ref h_v_literal) (C := R_RT) (T := T_RT) (N := 9) hx hb hw in_RT hown hK hP 0 rfl rfl 2 (by decide) (hw _ wd_170) (fun _ h9 => h9) rfl d_RT_bitsOfDecimal_1 ?_
  refine va_get (D := (dC, dI)) (ci := 2) (v := .int v_literal_exponent) (C := R_Lit) (T := T_Lit) (N := 5) hx hb hw in_Lit hown hK hP 1 rfl rfl 3 (by decide) (hw _ wd_63) (fun _ h9 => h9) rfl d_RT_bitsOfDecimal_4 ?_
  refine lv_aload_n hx hb d_RT_bitsOfDecimal_7 rfl (lv_at hl 0 rfl) ?_
  refine va_get (D := (dC, dI)) (ci := 6) (v := .ref h_v_literal) (C := R_RT) (T := T_RT) (N := 9) hx hb hw in_RT hown hK hP 0 rfl rfl 2 (by decide) (hw _ wd_170) (fun _ h9 => h9) rfl d_RT_bitsOfDecimal_8 ?_
  refine va_get (D := (dC, dI)) (ci := 2) (v := .int v_literal_fraction) (C := R_Lit) (T := T_Lit) (N := 5) hx hb hw in_Lit hown hK hP 1 rfl rfl 2 (by decide) (hw _ wd_61) (fun _ h9 => h9) rfl d_RT_bitsOfDecimal_11 ?_
  refine lv_isub hx hb d_RT_bitsOfDecimal_14 ?_
  refine lv_topi (fun x2_1 e_x2_1 => ?_)
  have hf := zz_ltp hf x2_1 e_x2_1
  refine lv_istore_n hx hb d_RT_bitsOfDecimal_15 rfl hl (by decide) rfl (fun ls hl => ?_)
  have hl : lv_has ls 4 [(2, .int x2_1), (0, .ref h_v), (1, .ref (adF x1))] := hl
  refine lv_aload_n hx hb d_RT_bitsOfDecimal_16 rfl (lv_at hl 1 rfl) ?_
  refine va_get (D := (dC, dI)) (ci := 6) (v := .ref h_v_literal) (C := R_RT) (T := T_RT) (N := 9) hx hb hw in_RT hown hK hP 0 rfl rfl 2 (by decide) (hw _ wd_170) (fun _ h9 => h9) rfl d_RT_bitsOfDecimal_17 ?_
  refine va_get (D := (dC, dI)) (ci := 2) (v := .int v_literal_digitCount) (C := R_Lit) (T := T_Lit) (N := 5) hx hb hw in_Lit hown hK hP 1 rfl rfl 1 (by decide) (hw _ wd_59) (fun _ h9 => h9) rfl d_RT_bitsOfDecimal_20 ?_
  refine lv_iload_n hx hb d_RT_bitsOfDecimal_23 rfl (lv_at hl 0 rfl) ?_
  refine lv_iadd hx hb d_RT_bitsOfDecimal_24 ?_
  refine lv_topi (fun x3_2 e_x3_2 => ?_)
  have hf := zz_ltp hf x3_2 e_x3_2
  refine lv_istore_n hx hb d_RT_bitsOfDecimal_25 rfl hl (by decide) rfl (fun ls hl => ?_)
  have hl : lv_has ls 4 [(3, .int x3_2), (2, .int x2_1), (0, .ref h_v), (1, .ref (adF x1))] := hl
  refine lv_iload_n hx hb d_RT_bitsOfDecimal_26 rfl (lv_at hl 0 rfl) ?_
  refine lv_sipush (v := 310) hx hb d_RT_bitsOfDecimal_27 (by decide) ?_
  refine lv_icmp_gt (tgt := 40) hx hb d_RT_bitsOfDecimal_30 (by decide) (fun hc => ?_) (fun hc => ?_)
  · have hf := zz_ifp hc hf
    refine lv_ldc2 (v := (-2)) hx hb hown (hw _ wd_622) d_RT_bitsOfDecimal_40 ?_
    cases hf
    exact hend 43 ls _ _ d_RT_bitsOfDecimal_43 hP hD hS
  · have hf := zz_ifn hc hf
    refine lv_iload_n hx hb d_RT_bitsOfDecimal_33 rfl (lv_at hl 0 rfl) ?_
    refine lv_sipush (v := (-330)) hx hb d_RT_bitsOfDecimal_34 (by decide) ?_
    refine lv_icmp_ge (tgt := 44) hx hb d_RT_bitsOfDecimal_37 (by decide) (fun hc => ?_) (fun hc => ?_)
    · have hf := zz_ifp hc hf
      refine lv_aload_n hx hb d_RT_bitsOfDecimal_44 rfl (lv_at hl 2 rfl) ?_
      refine va_get (D := (dC, dI)) (ci := 6) (v := .ref h_v_quotient) (C := R_RT) (T := T_RT) (N := 9) hx hb hw in_RT hown hK hP 0 rfl rfl 3 (by decide) (hw _ wd_171) (fun _ h9 => h9) rfl d_RT_bitsOfDecimal_45 ?_
      refine lv_aload_n hx hb d_RT_bitsOfDecimal_48 rfl (lv_at hl 2 rfl) ?_
      refine va_get (D := (dC, dI)) (ci := 6) (v := .ref h_v_literal) (C := R_RT) (T := T_RT) (N := 9) hx hb hw in_RT hown hK hP 0 rfl rfl 2 (by decide) (hw _ wd_170) (fun _ h9 => h9) rfl d_RT_bitsOfDecimal_49 ?_
      refine lv_iload_n hx hb d_RT_bitsOfDecimal_52 rfl (lv_at hl 1 rfl) ?_
      obtain ⟨u_3, hu_3, hf⟩ := zz_bd hf
      refine zz_cv (ws' := [(h_v, .inr (6, [.ref h_v_theText, .ref h_v_written, .ref h_v_literal, .ref h_v_quotient, .ref h_v_shortest, .ref h_v_decimal, .int v_readCount, .int v_noLiteralCount, .int v_outOfRangeCount])), (h_v_literal, .inr (2, [.ref h_v_literal_digits, .int v_literal_digitCount, .int v_literal_fraction, .int v_literal_exponent, .int v_literal_isHex])), (h_v_literal_digits, .inl (cB, n_v_literal_digits, .inl v_literal_digits_a)), (h_v_quotient, .inr (3, [.ref h_v_quotient_numerator, .ref h_v_quotient_denominator, .long u_3.1, .int u_3.2.1, .int u_3.2.2.1])), (h_v_quotient_numerator, .inr (0, [.ref h_v_quotient_numerator_limbs, .int u_3.2.2.2.1])), (h_v_quotient_numerator_limbs, .inl (cI, n_v_quotient_numerator_limbs, .inl u_3.2.2.2.2.1)), (h_v_quotient_denominator, .inr (0, [.ref h_v_quotient_denominator_limbs, .int u_3.2.2.2.2.2.1])), (h_v_quotient_denominator_limbs, .inl (cI, n_v_quotient_denominator_limbs, .inl u_3.2.2.2.2.2.2))]) (wc := [(h_v_quotient, .inr (3, [.ref h_v_quotient_numerator, .ref h_v_quotient_denominator, .long v_quotient_lead, .int v_quotient_power, .int v_quotient_more])), (h_v_quotient_numerator, .inr (0, [.ref h_v_quotient_numerator_limbs, .int v_quotient_numerator_size])), (h_v_quotient_numerator_limbs, .inl (cI, n_v_quotient_numerator_limbs, .inl v_quotient_numerator_limbs_a)), (h_v_quotient_denominator, .inr (0, [.ref h_v_quotient_denominator_limbs, .int v_quotient_denominator_size])), (h_v_quotient_denominator_limbs, .inl (cI, n_v_quotient_denominator_limbs, .inl v_quotient_denominator_limbs_a)), (h_v_literal, .inr (2, [.ref h_v_literal_digits, .int v_literal_digitCount, .int v_literal_fraction, .int v_literal_exponent, .int v_literal_isHex])), (h_v_literal_digits, .inl (cB, n_v_literal_digits, .inl v_literal_digits_a))]) (w' := [(h_v_quotient, .inr (3, [.ref h_v_quotient_numerator, .ref h_v_quotient_denominator, .long u_3.1, .int u_3.2.1, .int u_3.2.2.1])), (h_v_quotient_numerator, .inr (0, [.ref h_v_quotient_numerator_limbs, .int u_3.2.2.2.1])), (h_v_quotient_numerator_limbs, .inl (cI, n_v_quotient_numerator_limbs, .inl u_3.2.2.2.2.1)), (h_v_quotient_denominator, .inr (0, [.ref h_v_quotient_denominator_limbs, .int u_3.2.2.2.2.2.1])), (h_v_quotient_denominator_limbs, .inl (cI, n_v_quotient_denominator_limbs, .inl u_3.2.2.2.2.2.2)), (h_v_literal, .inr (2, [.ref h_v_literal_digits, .int v_literal_digitCount, .int v_literal_fraction, .int v_literal_exponent, .int v_literal_isHex])), (h_v_literal_digits, .inl (cB, n_v_literal_digits, .inl v_literal_digits_a))]) hP hD hS hA [3, 4, 5, 6, 7, 1, 2] [0] [0, 6, 7, 1, 2, 3, 4, 5] rfl rfl (by decide) (by decide) rfl (by decide) (va_runV (As := [.ref h_v_literal, .int x2_1]) (rest := []) ⟨hx, hb, hml, hown, hw⟩ (c_Quo_divide l dC dI cI cC cB cJ adF tp adK adV fu _ h_v_quotient h_v_quotient_numerator h_v_quotient_numerator_limbs h_v_quotient_denominator h_v_quotient_denominator_limbs h_v_literal h_v_literal_digits n_v_quotient_numerator_limbs n_v_quotient_denominator_limbs n_v_literal_digits x2_1 v_quotient_lead v_quotient_power v_quotient_more v_quotient_numerator_size v_quotient_numerator_limbs_a v_quotient_denominator_size v_quotient_denominator_limbs_a v_literal_digitCount v_literal_fraction v_literal_exponent v_literal_isHex v_literal_digits_a u_3 hu_3) (cwV 2 hw (zg_V wd_623 wd_624 wd_625 wd_4 wd_626) rfl rfl rfl hd_Quo_divide ⟨Nat.le_of_ble_eq_true rfl, Nat.le_of_ble_eq_true rfl⟩) (zz_preV (zx_ok adF tp adK adV) (va_recv (q0 := 3) (ci := 3) hK hP rfl rfl) hP hD hK hS hA hX [3, 4, 5, 6, 7, 1, 2] rfl (by decide)) rfl rfl hl.1 rfl (lv_room (Nat.le_of_ble_eq_true rfl)) d_RT_bitsOfDecimal_53 ⟨Nat.zero_le _, Nat.zero_le _⟩) (fun H locs hP hD hS => ?_)
      refine lv_aload_n hx hb d_RT_bitsOfDecimal_56 rfl (lv_at hl 3 rfl) ?_
      refine lv_aload_n hx hb d_RT_bitsOfDecimal_57 rfl (lv_at hl 2 rfl) ?_
      refine va_get (D := (dC, dI)) (ci := 6) (v := .ref h_v_quotient) (C := R_RT) (T := T_RT) (N := 9) hx hb hw in_RT hown hK hP 0 rfl rfl 3 (by decide) (hw _ wd_171) (fun _ h9 => h9) rfl d_RT_bitsOfDecimal_58 ?_
      refine va_get (D := (dC, dI)) (ci := 3) (v := .long u_3.1) (C := R_Quo) (T := T_Quo) (N := 5) hx hb hw in_Quo hown hK hP 3 rfl rfl 2 (by decide) (hw _ wd_101) (fun _ h9 => h9) rfl d_RT_bitsOfDecimal_61 ?_
      refine lv_aload_n hx hb d_RT_bitsOfDecimal_64 rfl (lv_at hl 2 rfl) ?_
      refine va_get (D := (dC, dI)) (ci := 6) (v := .ref h_v_quotient) (C := R_RT) (T := T_RT) (N := 9) hx hb hw in_RT hown hK hP 0 rfl rfl 3 (by decide) (hw _ wd_171) (fun _ h9 => h9) rfl d_RT_bitsOfDecimal_65 ?_
      refine va_get (D := (dC, dI)) (ci := 3) (v := .int u_3.2.1) (C := R_Quo) (T := T_Quo) (N := 5) hx hb hw in_Quo hown hK hP 3 rfl rfl 3 (by decide) (hw _ wd_103) (fun _ h9 => h9) rfl d_RT_bitsOfDecimal_68 ?_
      refine lv_aload_n hx hb d_RT_bitsOfDecimal_71 rfl (lv_at hl 2 rfl) ?_
      refine va_get (D := (dC, dI)) (ci := 6) (v := .ref h_v_quotient) (C := R_RT) (T := T_RT) (N := 9) hx hb hw in_RT hown hK hP 0 rfl rfl 3 (by decide) (hw _ wd_171) (fun _ h9 => h9) rfl d_RT_bitsOfDecimal_72 ?_
      refine va_get (D := (dC, dI)) (ci := 3) (v := .int u_3.2.2.1) (C := R_Quo) (T := T_Quo) (N := 5) hx hb hw in_Quo hown hK hP 3 rfl rfl 4 (by decide) (hw _ wd_105) (fun _ h9 => h9) rfl d_RT_bitsOfDecimal_75 ?_
      obtain ⟨u_4, hu_4, hf⟩ := zz_bd hf
      refine zz_cl (ws' := [(h_v, .inr (6, [.ref h_v_theText, .ref h_v_written, .ref h_v_literal, .ref h_v_quotient, .ref h_v_shortest, .ref h_v_decimal, .int v_readCount, .int v_noLiteralCount, .int v_outOfRangeCount])), (h_v_literal, .inr (2, [.ref h_v_literal_digits, .int v_literal_digitCount, .int v_literal_fraction, .int v_literal_exponent, .int v_literal_isHex])), (h_v_literal_digits, .inl (cB, n_v_literal_digits, .inl v_literal_digits_a)), (h_v_quotient, .inr (3, [.ref h_v_quotient_numerator, .ref h_v_quotient_denominator, .long u_3.1, .int u_3.2.1, .int u_3.2.2.1])), (h_v_quotient_numerator, .inr (0, [.ref h_v_quotient_numerator_limbs, .int u_3.2.2.2.1])), (h_v_quotient_numerator_limbs, .inl (cI, n_v_quotient_numerator_limbs, .inl u_3.2.2.2.2.1)), (h_v_quotient_denominator, .inr (0, [.ref h_v_quotient_denominator_limbs, .int u_3.2.2.2.2.2.1])), (h_v_quotient_denominator_limbs, .inl (cI, n_v_quotient_denominator_limbs, .inl u_3.2.2.2.2.2.2))]) (wc := []) (w' := []) hP hD hS hA [] [0, 1, 2, 3, 4, 5, 6, 7] [0, 1, 2, 3, 4, 5, 6, 7] rfl rfl (by decide) (by decide) rfl (by decide) (va_runV (As := [.long u_3.1, .int u_3.2.1, .int u_3.2.2.1]) (rest := []) ⟨hx, hb, hml, hown, hw⟩ (c_Fmt_nearest l dC dI cI cC cB cJ adF tp adK adV fu _ x1 u_3.1 u_3.2.1 u_3.2.2.1 he_x1 u_4 hu_4) (cwV 3 hw (zg_V wd_605 wd_606 wd_607 wd_15 wd_608) rfl rfl rfl hd_Fmt_nearest ⟨Nat.le_of_ble_eq_true rfl, Nat.le_of_ble_eq_true rfl⟩) (zz_preV (zx_ok adF tp adK adV) (va_recvE hX.1 he_x1 hS) hP hD hK hS hA hX [] rfl (by decide)) rfl rfl hl.1 rfl (lv_room (Nat.le_of_ble_eq_true rfl)) d_RT_bitsOfDecimal_78 ⟨Nat.zero_le _, Nat.zero_le _⟩) (fun H locs hP hD hS => ?_)
      cases hf
      exact hend 81 ls _ _ d_RT_bitsOfDecimal_81 hP hD hS
    · have hf := zz_ifn hc hf
      refine lv_ldc2 (v := (-2)) hx hb hown (hw _ wd_622) d_RT_bitsOfDecimal_40 ?_
      cases hf
      exact hend 43 ls _ _ d_RT_bitsOfDecimal_43 hP hD hS
abbrev ws_RT_bitsOfText : List Cond := .code y_RT_bitsOfText prog_1_method_11_code 2 (some .long) :: zw
abbrev rm_RT_bitsOfText : Room := { frames := 5, cells := 0, slots := 0, locals := 118 }
theorem hd_RT_bitsOfText : y_RT_bitsOfText.cls = "RealText" ∧ y_RT_bitsOfText.cls ≠ "java/lang/invoke/MethodHandle" ∧ y_RT_bitsOfText.cls ≠ "java/lang/invoke/VarHandle" ∧ (parseMethodDescriptor y_RT_bitsOfText.desc).map (fun d => d.parameters.length) = some 1 := by decide +kernel
theorem d_RT_bitsOfText_0 : decode prog_1_method_11_code 0 = .ok (.aload_n 0, 1) := by decide +kernel
theorem d_RT_bitsOfText_1 : decode prog_1_method_11_code 1 = .ok (.getfield 24, 3) := by decide +kernel
theorem d_RT_bitsOfText_4 : decode prog_1_method_11_code 4 = .ok (.aload_n 0, 1) := by decide +kernel
theorem d_RT_bitsOfText_5 : decode prog_1_method_11_code 5 = .ok (.getfield 14, 3) := by decide +kernel
theorem d_RT_bitsOfText_8 : decode prog_1_method_11_code 8 = .ok (.invokevirtual 155, 3) := by decide +kernel
theorem d_RT_bitsOfText_11 : decode prog_1_method_11_code 11 = .ok (.ifCond .ne 7, 3) := by decide +kernel
theorem d_RT_bitsOfText_14 : decode prog_1_method_11_code 14 = .ok (.ldc2_w 91, 3) := by decide +kernel
theorem d_RT_bitsOfText_17 : decode prog_1_method_11_code 17 = .ok (.lreturn, 1) := by decide +kernel
theorem d_RT_bitsOfText_18 : decode prog_1_method_11_code 18 = .ok (.aload_n 0, 1) := by decide +kernel
theorem d_RT_bitsOfText_19 : decode prog_1_method_11_code 19 = .ok (.getfield 24, 3) := by decide +kernel
theorem d_RT_bitsOfText_22 : decode prog_1_method_11_code 22 = .ok (.getfield 159, 3) := by decide +kernel
theorem d_RT_bitsOfText_25 : decode prog_1_method_11_code 25 = .ok (.ifCond .ne 5, 3) := by decide +kernel
theorem d_RT_bitsOfText_28 : decode prog_1_method_11_code 28 = .ok (.lconst 0, 1) := by decide +kernel
theorem d_RT_bitsOfText_29 : decode prog_1_method_11_code 29 = .ok (.lreturn, 1) := by decide +kernel
theorem d_RT_bitsOfText_30 : decode prog_1_method_11_code 30 = .ok (.aload_n 0, 1) := by decide +kernel
theorem d_RT_bitsOfText_31 : decode prog_1_method_11_code 31 = .ok (.getfield 24, 3) := by decide +kernel
theorem d_RT_bitsOfText_34 : decode prog_1_method_11_code 34 = .ok (.getfield 162, 3) := by decide +kernel
theorem d_RT_bitsOfText_37 : decode prog_1_method_11_code 37 = .ok (.ifCond .eq 11, 3) := by decide +kernel
theorem d_RT_bitsOfText_40 : decode prog_1_method_11_code 40 = .ok (.aload_n 0, 1) := by decide +kernel
theorem d_RT_bitsOfText_41 : decode prog_1_method_11_code 41 = .ok (.aload_n 1, 1) := by decide +kernel
theorem d_RT_bitsOfText_42 : decode prog_1_method_11_code 42 = .ok (.invokevirtual 166, 3) := by decide +kernel
theorem d_RT_bitsOfText_45 : decode prog_1_method_11_code 45 = .ok (.goto 8, 3) := by decide +kernel
theorem d_RT_bitsOfText_48 : decode prog_1_method_11_code 48 = .ok (.aload_n 0, 1) := by decide +kernel
theorem d_RT_bitsOfText_49 : decode prog_1_method_11_code 49 = .ok (.aload_n 1, 1) := by decide +kernel
theorem d_RT_bitsOfText_50 : decode prog_1_method_11_code 50 = .ok (.invokevirtual 169, 3) := by decide +kernel
theorem d_RT_bitsOfText_53 : decode prog_1_method_11_code 53 = .ok (.lreturn, 1) := by decide +kernel
def f_RT_bitsOfText (fu : Nat) (n_v_theText_letters : Nat) (n_v_literal_digits : Nat) (n_v_quotient_numerator_limbs : Nat) (n_v_quotient_denominator_limbs : Nat) (x1 : Nat) (v_theText_start : Int32) (v_theText_end : Int32) (v_theText_letters_a : Nat → Int32) (v_literal_digitCount : Int32) (v_literal_fraction : Int32) (v_literal_exponent : Int32) (v_literal_isHex : Int32) (v_literal_digits_a : Nat → Int32) (v_quotient_lead : Int64) (v_quotient_power : Int32) (v_quotient_more : Int32) (v_quotient_numerator_size : Int32) (v_quotient_numerator_limbs_a : Nat → Int32) (v_quotient_denominator_size : Int32) (v_quotient_denominator_limbs_a : Nat → Int32) : Option (Int64 × Int32 × Int32 × Int32 × Int32 × (Nat → Int32) × Int64 × Int32 × Int32 × Int32 × (Nat → Int32) × Int32 × (Nat → Int32)) :=
  (f_Lit_scan fu n_v_literal_digits n_v_theText_letters v_literal_digitCount v_literal_fraction v_literal_exponent v_literal_isHex v_literal_digits_a v_theText_start v_theText_end v_theText_letters_a).bind fun u_1 =>
  (if u_1.1 = 0 then
  some ((-1), u_1.2.1, u_1.2.2.1, u_1.2.2.2.1, u_1.2.2.2.2.1, u_1.2.2.2.2.2, v_quotient_lead, v_quotient_power, v_quotient_more, v_quotient_numerator_size, v_quotient_numerator_limbs_a, v_quotient_denominator_size, v_quotient_denominator_limbs_a)
  else
  (if u_1.2.1 = 0 then
  some (0, u_1.2.1, u_1.2.2.1, u_1.2.2.2.1, u_1.2.2.2.2.1, u_1.2.2.2.2.2, v_quotient_lead, v_quotient_power, v_quotient_more, v_quotient_numerator_size, v_quotient_numerator_limbs_a, v_quotient_denominator_size, v_quotient_denominator_limbs_a)
  else
  (if u_1.2.2.2.2.1 = 0 then
  (f_RT_bitsOfDecimal fu n_v_literal_digits n_v_quotient_numerator_limbs n_v_quotient_denominator_limbs x1 u_1.2.1 u_1.2.2.1 u_1.2.2.2.1 u_1.2.2.2.2.2 v_quotient_lead v_quotient_power v_quotient_more v_quotient_numerator_size v_quotient_numerator_limbs_a v_quotient_denominator_size v_quotient_denominator_limbs_a).bind fun u_2 =>
  some (u_2.1, u_1.2.1, u_1.2.2.1, u_1.2.2.2.1, u_1.2.2.2.2.1, u_1.2.2.2.2.2, u_2.2.1, u_2.2.2.1, u_2.2.2.2.1, u_2.2.2.2.2.1, u_2.2.2.2.2.2.1, u_2.2.2.2.2.2.2.1, u_2.2.2.2.2.2.2.2)
  else
  (f_RT_bitsOfHex fu n_v_literal_digits x1 u_1.2.1 u_1.2.2.1 u_1.2.2.2.1 u_1.2.2.2.2.2).bind fun u_3 =>
  some (u_3, u_1.2.1, u_1.2.2.1, u_1.2.2.2.1, u_1.2.2.2.2.1, u_1.2.2.2.2.2, v_quotient_lead, v_quotient_power, v_quotient_more, v_quotient_numerator_size, v_quotient_numerator_limbs_a, v_quotient_denominator_size, v_quotient_denominator_limbs_a))))
set_option maxHeartbeats 4000000 in
set_option maxRecDepth 100000 in
theorem c_RT_bitsOfText (l : Launch) (dC : Nat → ClassId) (dI : Nat → Nat → Nat) (cI cC cB cJ : ClassId) (adF : Nat → Nat) (tp : Nat) (adK adV : Nat → Nat) (fu : Nat) (sz : Nat) (h_v : Nat) (h_v_theText : Nat) (h_v_theText_letters : Nat) (h_v_literal : Nat) (h_v_literal_digits : Nat) (h_v_quotient : Nat) (h_v_quotient_numerator : Nat) (h_v_quotient_numerator_limbs : Nat) (h_v_quotient_denominator : Nat) (h_v_quotient_denominator_limbs : Nat) (h_v_written : Nat) (h_v_shortest : Nat) (h_v_decimal : Nat) (n_v_theText_letters : Nat) (n_v_literal_digits : Nat) (n_v_quotient_numerator_limbs : Nat) (n_v_quotient_denominator_limbs : Nat) (x1 : Nat) (v_readCount : Int32) (v_noLiteralCount : Int32) (v_outOfRangeCount : Int32) (v_theText_start : Int32) (v_theText_end : Int32) (v_theText_letters_a : Nat → Int32) (v_literal_digitCount : Int32) (v_literal_fraction : Int32) (v_literal_exponent : Int32) (v_literal_isHex : Int32) (v_literal_digits_a : Nat → Int32) (v_quotient_lead : Int64) (v_quotient_power : Int32) (v_quotient_more : Int32) (v_quotient_numerator_size : Int32) (v_quotient_numerator_limbs_a : Nat → Int32) (v_quotient_denominator_size : Int32) (v_quotient_denominator_limbs_a : Nat → Int32) (he_x1 : x1 < 2) (u : Int64 × Int32 × Int32 × Int32 × Int32 × (Nat → Int32) × Int64 × Int32 × Int32 × Int32 × (Nat → Int32) × Int32 × (Nat → Int32)) (hf : f_RT_bitsOfText fu n_v_theText_letters n_v_literal_digits n_v_quotient_numerator_limbs n_v_quotient_denominator_limbs x1 v_theText_start v_theText_end v_theText_letters_a v_literal_digitCount v_literal_fraction v_literal_exponent v_literal_isHex v_literal_digits_a v_quotient_lead v_quotient_power v_quotient_more v_quotient_numerator_size v_quotient_numerator_limbs_a v_quotient_denominator_size v_quotient_denominator_limbs_a = some u) : Met l y_RT_bitsOfText ws_RT_bitsOfText rm_RT_bitsOfText (zz_P (zx_E adF tp adK adV) (dC, dI) vwCl (zz_tys cI cC cB cJ) [.ref h_v, .ref (adF x1)] [(h_v, .inr (6, [.ref h_v_theText, .ref h_v_written, .ref h_v_literal, .ref h_v_quotient, .ref h_v_shortest, .ref h_v_decimal, .int v_readCount, .int v_noLiteralCount, .int v_outOfRangeCount])), (h_v_theText, .inr (4, [.ref h_v_theText_letters, .int v_theText_start, .int v_theText_end])), (h_v_theText_letters, .inl (cC, n_v_theText_letters, .inl v_theText_letters_a)), (h_v_literal, .inr (2, [.ref h_v_literal_digits, .int v_literal_digitCount, .int v_literal_fraction, .int v_literal_exponent, .int v_literal_isHex])), (h_v_literal_digits, .inl (cB, n_v_literal_digits, .inl v_literal_digits_a)), (h_v_quotient, .inr (3, [.ref h_v_quotient_numerator, .ref h_v_quotient_denominator, .long v_quotient_lead, .int v_quotient_power, .int v_quotient_more])), (h_v_quotient_numerator, .inr (0, [.ref h_v_quotient_numerator_limbs, .int v_quotient_numerator_size])), (h_v_quotient_numerator_limbs, .inl (cI, n_v_quotient_numerator_limbs, .inl v_quotient_numerator_limbs_a)), (h_v_quotient_denominator, .inr (0, [.ref h_v_quotient_denominator_limbs, .int v_quotient_denominator_size])), (h_v_quotient_denominator_limbs, .inl (cI, n_v_quotient_denominator_limbs, .inl v_quotient_denominator_limbs_a))] sz) (zz_Ql (dC, dI) vwCl u.1 [(h_v, .inr (6, [.ref h_v_theText, .ref h_v_written, .ref h_v_literal, .ref h_v_quotient, .ref h_v_shortest, .ref h_v_decimal, .int v_readCount, .int v_noLiteralCount, .int v_outOfRangeCount])), (h_v_theText, .inr (4, [.ref h_v_theText_letters, .int v_theText_start, .int v_theText_end])), (h_v_theText_letters, .inl (cC, n_v_theText_letters, .inl v_theText_letters_a)), (h_v_literal, .inr (2, [.ref h_v_literal_digits, .int u.2.1, .int u.2.2.1, .int u.2.2.2.1, .int u.2.2.2.2.1])), (h_v_literal_digits, .inl (cB, n_v_literal_digits, .inl u.2.2.2.2.2.1)), (h_v_quotient, .inr (3, [.ref h_v_quotient_numerator, .ref h_v_quotient_denominator, .long u.2.2.2.2.2.2.1, .int u.2.2.2.2.2.2.2.1, .int u.2.2.2.2.2.2.2.2.1])), (h_v_quotient_numerator, .inr (0, [.ref h_v_quotient_numerator_limbs, .int u.2.2.2.2.2.2.2.2.2.1])), (h_v_quotient_numerator_limbs, .inl (cI, n_v_quotient_numerator_limbs, .inl u.2.2.2.2.2.2.2.2.2.2.1)), (h_v_quotient_denominator, .inr (0, [.ref h_v_quotient_denominator_limbs, .int u.2.2.2.2.2.2.2.2.2.2.2.1])), (h_v_quotient_denominator_limbs, .inl (cI, n_v_quotient_denominator_limbs, .inl u.2.2.2.2.2.2.2.2.2.2.2.2))] (va_A [(h_v, .inr (6, [.ref h_v_theText, .ref h_v_written, .ref h_v_literal, .ref h_v_quotient, .ref h_v_shortest, .ref h_v_decimal, .int v_readCount, .int v_noLiteralCount, .int v_outOfRangeCount])), (h_v_theText, .inr (4, [.ref h_v_theText_letters, .int v_theText_start, .int v_theText_end])), (h_v_theText_letters, .inl (cC, n_v_theText_letters, .inl v_theText_letters_a)), (h_v_literal, .inr (2, [.ref h_v_literal_digits, .int v_literal_digitCount, .int v_literal_fraction, .int v_literal_exponent, .int v_literal_isHex])), (h_v_literal_digits, .inl (cB, n_v_literal_digits, .inl v_literal_digits_a)), (h_v_quotient, .inr (3, [.ref h_v_quotient_numerator, .ref h_v_quotient_denominator, .long v_quotient_lead, .int v_quotient_power, .int v_quotient_more])), (h_v_quotient_numerator, .inr (0, [.ref h_v_quotient_numerator_limbs, .int v_quotient_numerator_size])), (h_v_quotient_numerator_limbs, .inl (cI, n_v_quotient_numerator_limbs, .inl v_quotient_numerator_limbs_a)), (h_v_quotient_denominator, .inr (0, [.ref h_v_quotient_denominator_limbs, .int v_quotient_denominator_size])), (h_v_quotient_denominator_limbs, .inl (cI, n_v_quotient_denominator_limbs, .inl v_quotient_denominator_limbs_a))] sz)) 0 0 (va_A [(h_v, .inr (6, [.ref h_v_theText, .ref h_v_written, .ref h_v_literal, .ref h_v_quotient, .ref h_v_shortest, .ref h_v_decimal, .int v_readCount, .int v_noLiteralCount, .int v_outOfRangeCount])), (h_v_theText, .inr (4, [.ref h_v_theText_letters, .int v_theText_start, .int v_theText_end])), (h_v_theText_letters, .inl (cC, n_v_theText_letters, .inl v_theText_letters_a)), (h_v_literal, .inr (2, [.ref h_v_literal_digits, .int v_literal_digitCount, .int v_literal_fraction, .int v_literal_exponent, .int v_literal_isHex])), (h_v_literal_digits, .inl (cB, n_v_literal_digits, .inl v_literal_digits_a)), (h_v_quotient, .inr (3, [.ref h_v_quotient_numerator, .ref h_v_quotient_denominator, .long v_quotient_lead, .int v_quotient_power, .int v_quotient_more])), (h_v_quotient_numerator, .inr (0, [.ref h_v_quotient_numerator_limbs, .int v_quotient_numerator_size])), (h_v_quotient_numerator_limbs, .inl (cI, n_v_quotient_numerator_limbs, .inl v_quotient_numerator_limbs_a)), (h_v_quotient_denominator, .inr (0, [.ref h_v_quotient_denominator_limbs, .int v_quotient_denominator_size])), (h_v_quotient_denominator_limbs, .inl (cI, n_v_quotient_denominator_limbs, .inl v_quotient_denominator_limbs_a))] sz) := by
  refine Met.ofW (cc := prog_1_method_11_code) (maxL := 2) (ret := (some .long)) (by decide +kernel) rfl ?_
  intro p e s m args below meth c s₁ B hml hv
  obtain ⟨rfl, hsz, hP, hK, hD0, hX⟩ := hv
  have hx := B.exec
  have hb := B.bytes
  have hr := B.returns
  have hts := atoms_spec (ws := ws_RT_bitsOfText) B.pre
  have hw : ∀ w ∈ zw, w.before [.ref h_v, .ref (adF x1)].toArray s = true := fun w h => hts w (List.mem_cons_of_mem _ h)
  have hown : s.vm.findClass R_RT = some m.cls := findClass_of_methodNamed B.named
  have hlocks := B.notSynchronized
  subst hsz
  have hD := hD0.self (sz := s.heap.size)
  generalize hAe : va_A [(h_v, .inr (6, [.ref h_v_theText, .ref h_v_written, .ref h_v_literal, .ref h_v_quotient, .ref h_v_shortest, .ref h_v_decimal, .int v_readCount, .int v_noLiteralCount, .int v_outOfRangeCount])), (h_v_theText, .inr (4, [.ref h_v_theText_letters, .int v_theText_start, .int v_theText_end])), (h_v_theText_letters, .inl (cC, n_v_theText_letters, .inl v_theText_letters_a)), (h_v_literal, .inr (2, [.ref h_v_literal_digits, .int v_literal_digitCount, .int v_literal_fraction, .int v_literal_exponent, .int v_literal_isHex])), (h_v_literal_digits, .inl (cB, n_v_literal_digits, .inl v_literal_digits_a)), (h_v_quotient, .inr (3, [.ref h_v_quotient_numerator, .ref h_v_quotient_denominator, .long v_quotient_lead, .int v_quotient_power, .int v_quotient_more])), (h_v_quotient_numerator, .inr (0, [.ref h_v_quotient_numerator_limbs, .int v_quotient_numerator_size])), (h_v_quotient_numerator_limbs, .inl (cI, n_v_quotient_numerator_limbs, .inl v_quotient_numerator_limbs_a)), (h_v_quotient_denominator, .inr (0, [.ref h_v_quotient_denominator_limbs, .int v_quotient_denominator_size])), (h_v_quotient_denominator_limbs, .inl (cI, n_v_quotient_denominator_limbs, .inl v_quotient_denominator_limbs_a))] s.heap.size = A at hD hX ⊢
  have hA : ∀ q : Nat, s.heap.size ≤ q → A q := fun q h => by rw [← hAe]; exact Or.inr h
  have hS : va_S A s.heap s.heap [] := va_S.rf
  have hl := lv_entry [.ref h_v, .ref (adF x1)] (n := 2) (Nat.le_of_ble_eq_true rfl)
  rw [lg_entry_eq]
  generalize (lg_sl [.ref h_v, .ref (adF x1)] ++ List.replicate (2 - (lg_sl [.ref h_v, .ref (adF x1)]).length) Slot.unset).toArray = ls at hl ⊢
  have hl : lv_has ls 2 [(0, .ref h_v), (1, .ref (adF x1))] := hl
  refine zz_endl hx hb hr hlocks (fun Qq hend => ?_)
  unfold f_RT_bitsOfText at hf
  refine lv_aload_n hx hb d_RT_bitsOfText_0 rfl (lv_at hl 0 rfl) ?_
  refine va_get (D := (dC, dI)) (ci := 6) (v := .ref h_v_literal) (C := R_RT) (T := T_RT) (N := 9) hx hb hw in_RT hown hK hP 0 rfl rfl 2 (by decide) (hw _ wd_170) (fun _ h9 => h9) rfl d_RT_bitsOfText_1 ?_
  refine lv_aload_n hx hb d_RT_bitsOfText_4 rfl (lv_at hl 0 rfl) ?_
  refine va_get (D := (dC, dI)) (ci := 6) (v := .ref h_v_theText) (C := R_RT) (T := T_RT) (N := 9) hx hb hw in_RT hown hK hP 0 rfl rfl 0 (by decide) (hw _ wd_168) (fun _ h9 => h9) rfl d_RT_bitsOfText_5 ?_
  obtain ⟨u_1, hu_1, hf⟩ := zz_bd hf
  refine zz_ci (ws' := [(h_v, .inr (6, [.ref h_v_theText, .ref h_v_written, .ref h_v_literal, .ref h_v_quotient, .ref h_v_shortest, .ref h_v_decimal, .int v_readCount, .int v_noLiteralCount, .int v_outOfRangeCount])), (h_v_theText, .inr (4, [.ref h_v_theText_letters, .int v_theText_start, .int v_theText_end])), (h_v_theText_letters, .inl (cC, n_v_theText_letters, .inl v_theText_letters_a)), (h_v_literal, .inr (2, [.ref h_v_literal_digits, .int u_1.2.1, .int u_1.2.2.1, .int u_1.2.2.2.1, .int u_1.2.2.2.2.1])), (h_v_literal_digits, .inl (cB, n_v_literal_digits, .inl u_1.2.2.2.2.2)), (h_v_quotient, .inr (3, [.ref h_v_quotient_numerator, .ref h_v_quotient_denominator, .long v_quotient_lead, .int v_quotient_power, .int v_quotient_more])), (h_v_quotient_numerator, .inr (0, [.ref h_v_quotient_numerator_limbs, .int v_quotient_numerator_size])), (h_v_quotient_numerator_limbs, .inl (cI, n_v_quotient_numerator_limbs, .inl v_quotient_numerator_limbs_a)), (h_v_quotient_denominator, .inr (0, [.ref h_v_quotient_denominator_limbs, .int v_quotient_denominator_size])), (h_v_quotient_denominator_limbs, .inl (cI, n_v_quotient_denominator_limbs, .inl v_quotient_denominator_limbs_a))]) (wc := [(h_v_literal, .inr (2, [.ref h_v_literal_digits, .int v_literal_digitCount, .int v_literal_fraction, .int v_literal_exponent, .int v_literal_isHex])), (h_v_literal_digits, .inl (cB, n_v_literal_digits, .inl v_literal_digits_a)), (h_v_theText, .inr (4, [.ref h_v_theText_letters, .int v_theText_start, .int v_theText_end])), (h_v_theText_letters, .inl (cC, n_v_theText_letters, .inl v_theText_letters_a))]) (w' := [(h_v_literal, .inr (2, [.ref h_v_literal_digits, .int u_1.2.1, .int u_1.2.2.1, .int u_1.2.2.2.1, .int u_1.2.2.2.2.1])), (h_v_literal_digits, .inl (cB, n_v_literal_digits, .inl u_1.2.2.2.2.2)), (h_v_theText, .inr (4, [.ref h_v_theText_letters, .int v_theText_start, .int v_theText_end])), (h_v_theText_letters, .inl (cC, n_v_theText_letters, .inl v_theText_letters_a))]) hP hD hS hA [3, 4, 1, 2] [0, 5, 6, 7, 8, 9] [0, 8, 9, 6, 7, 1, 2, 3, 4, 5] rfl rfl (by decide) (by decide) rfl (by decide) (va_runV (As := [.ref h_v_theText]) (rest := []) ⟨hx, hb, hml, hown, hw⟩ (c_Lit_scan l dC dI cI cC cB cJ fu _ h_v_literal h_v_literal_digits h_v_theText h_v_theText_letters n_v_literal_digits n_v_theText_letters v_literal_digitCount v_literal_fraction v_literal_exponent v_literal_isHex v_literal_digits_a v_theText_start v_theText_end v_theText_letters_a u_1 hu_1) (cwV 1 hw (zg_V wd_564 wd_565 wd_566 wd_3 wd_567) rfl rfl rfl hd_Lit_scan ⟨Nat.le_of_ble_eq_true rfl, Nat.le_of_ble_eq_true rfl⟩) (zz_preV zz_TE (va_recv (q0 := 3) (ci := 2) hK hP rfl rfl) hP hD hK hS hA trivial [3, 4, 1, 2] rfl (by decide)) rfl rfl hl.1 rfl (lv_room (Nat.le_of_ble_eq_true rfl)) d_RT_bitsOfText_8 ⟨Nat.zero_le _, Nat.zero_le _⟩) (fun H locs hP hD hS => ?_)
  refine lv_if_ne (tgt := 18) hx hb d_RT_bitsOfText_11 (by decide) (fun hc => ?_) (fun hc => ?_)
  · have hf := zz_ifn hc hf
    refine lv_aload_n hx hb d_RT_bitsOfText_18 rfl (lv_at hl 0 rfl) ?_
    refine va_get (D := (dC, dI)) (ci := 6) (v := .ref h_v_literal) (C := R_RT) (T := T_RT) (N := 9) hx hb hw in_RT hown hK hP 0 rfl rfl 2 (by decide) (hw _ wd_170) (fun _ h9 => h9) rfl d_RT_bitsOfText_19 ?_
    refine va_get (D := (dC, dI)) (ci := 2) (v := .int u_1.2.1) (C := R_Lit) (T := T_Lit) (N := 5) hx hb hw in_Lit hown hK hP 3 rfl rfl 1 (by decide) (hw _ wd_59) (fun _ h9 => h9) rfl d_RT_bitsOfText_22 ?_
    refine lv_if_ne (tgt := 30) hx hb d_RT_bitsOfText_25 (by decide) (fun hc => ?_) (fun hc => ?_)
    · have hf := zz_ifn hc hf
      refine lv_aload_n hx hb d_RT_bitsOfText_30 rfl (lv_at hl 0 rfl) ?_
      refine va_get (D := (dC, dI)) (ci := 6) (v := .ref h_v_literal) (C := R_RT) (T := T_RT) (N := 9) hx hb hw in_RT hown hK hP 0 rfl rfl 2 (by decide) (hw _ wd_170) (fun _ h9 => h9) rfl d_RT_bitsOfText_31 ?_
      refine va_get (D := (dC, dI)) (ci := 2) (v := .int u_1.2.2.2.2.1) (C := R_Lit) (T := T_Lit) (N := 5) hx hb hw in_Lit hown hK hP 3 rfl rfl 4 (by decide) (hw _ wd_65) (fun _ h9 => h9) rfl d_RT_bitsOfText_34 ?_
      refine lv_if_eq (tgt := 48) hx hb d_RT_bitsOfText_37 (by decide) (fun hc => ?_) (fun hc => ?_)
      · have hf := zz_ifp hc hf
        refine lv_aload_n hx hb d_RT_bitsOfText_48 rfl (lv_at hl 0 rfl) ?_
        refine lv_aload_n hx hb d_RT_bitsOfText_49 rfl (lv_at hl 1 rfl) ?_
        obtain ⟨u_2, hu_2, hf⟩ := zz_bd hf
        refine zz_cl (ws' := [(h_v, .inr (6, [.ref h_v_theText, .ref h_v_written, .ref h_v_literal, .ref h_v_quotient, .ref h_v_shortest, .ref h_v_decimal, .int v_readCount, .int v_noLiteralCount, .int v_outOfRangeCount])), (h_v_theText, .inr (4, [.ref h_v_theText_letters, .int v_theText_start, .int v_theText_end])), (h_v_theText_letters, .inl (cC, n_v_theText_letters, .inl v_theText_letters_a)), (h_v_literal, .inr (2, [.ref h_v_literal_digits, .int u_1.2.1, .int u_1.2.2.1, .int u_1.2.2.2.1, .int u_1.2.2.2.2.1])), (h_v_literal_digits, .inl (cB, n_v_literal_digits, .inl u_1.2.2.2.2.2)), (h_v_quotient, .inr (3, [.ref h_v_quotient_numerator, .ref h_v_quotient_denominator, .long u_2.2.1, .int u_2.2.2.1, .int u_2.2.2.2.1])), (h_v_quotient_numerator, .inr (0, [.ref h_v_quotient_numerator_limbs, .int u_2.2.2.2.2.1])), (h_v_quotient_numerator_limbs, .inl (cI, n_v_quotient_numerator_limbs, .inl u_2.2.2.2.2.2.1)), (h_v_quotient_denominator, .inr (0, [.ref h_v_quotient_denominator_limbs, .int u_2.2.2.2.2.2.2.1])), (h_v_quotient_denominator_limbs, .inl (cI, n_v_quotient_denominator_limbs, .inl u_2.2.2.2.2.2.2.2))]) (wc := [(h_v, .inr (6, [.ref h_v_theText, .ref h_v_written, .ref h_v_literal, .ref h_v_quotient, .ref h_v_shortest, .ref h_v_decimal, .int v_readCount, .int v_noLiteralCount, .int v_outOfRangeCount])), (h_v_literal, .inr (2, [.ref h_v_literal_digits, .int u_1.2.1, .int u_1.2.2.1, .int u_1.2.2.2.1, .int u_1.2.2.2.2.1])), (h_v_literal_digits, .inl (cB, n_v_literal_digits, .inl u_1.2.2.2.2.2)), (h_v_quotient, .inr (3, [.ref h_v_quotient_numerator, .ref h_v_quotient_denominator, .long v_quotient_lead, .int v_quotient_power, .int v_quotient_more])), (h_v_quotient_numerator, .inr (0, [.ref h_v_quotient_numerator_limbs, .int v_quotient_numerator_size])), (h_v_quotient_numerator_limbs, .inl (cI, n_v_quotient_numerator_limbs, .inl v_quotient_numerator_limbs_a)), (h_v_quotient_denominator, .inr (0, [.ref h_v_quotient_denominator_limbs, .int v_quotient_denominator_size])), (h_v_quotient_denominator_limbs, .inl (cI, n_v_quotient_denominator_limbs, .inl v_quotient_denominator_limbs_a))]) (w' := [(h_v, .inr (6, [.ref h_v_theText, .ref h_v_written, .ref h_v_literal, .ref h_v_quotient, .ref h_v_shortest, .ref h_v_decimal, .int v_readCount, .int v_noLiteralCount, .int v_outOfRangeCount])), (h_v_literal, .inr (2, [.ref h_v_literal_digits, .int u_1.2.1, .int u_1.2.2.1, .int u_1.2.2.2.1, .int u_1.2.2.2.2.1])), (h_v_literal_digits, .inl (cB, n_v_literal_digits, .inl u_1.2.2.2.2.2)), (h_v_quotient, .inr (3, [.ref h_v_quotient_numerator, .ref h_v_quotient_denominator, .long u_2.2.1, .int u_2.2.2.1, .int u_2.2.2.2.1])), (h_v_quotient_numerator, .inr (0, [.ref h_v_quotient_numerator_limbs, .int u_2.2.2.2.2.1])), (h_v_quotient_numerator_limbs, .inl (cI, n_v_quotient_numerator_limbs, .inl u_2.2.2.2.2.2.1)), (h_v_quotient_denominator, .inr (0, [.ref h_v_quotient_denominator_limbs, .int u_2.2.2.2.2.2.2.1])), (h_v_quotient_denominator_limbs, .inl (cI, n_v_quotient_denominator_limbs, .inl u_2.2.2.2.2.2.2.2))]) hP hD hS hA [0, 3, 4, 5, 6, 7, 8, 9] [1, 2] [2, 0, 1, 3, 4, 5, 6, 7, 8, 9] rfl rfl (by decide) (by decide) rfl (by decide) (va_runV (As := [.ref (adF x1)]) (rest := []) ⟨hx, hb, hml, hown, hw⟩ (c_RT_bitsOfDecimal l dC dI cI cC cB cJ adF tp adK adV fu _ h_v h_v_literal h_v_literal_digits h_v_quotient h_v_quotient_numerator h_v_quotient_numerator_limbs h_v_quotient_denominator h_v_quotient_denominator_limbs h_v_theText h_v_written h_v_shortest h_v_decimal n_v_literal_digits n_v_quotient_numerator_limbs n_v_quotient_denominator_limbs x1 v_readCount v_noLiteralCount v_outOfRangeCount u_1.2.1 u_1.2.2.1 u_1.2.2.2.1 u_1.2.2.2.2.1 u_1.2.2.2.2.2 v_quotient_lead v_quotient_power v_quotient_more v_quotient_numerator_size v_quotient_numerator_limbs_a v_quotient_denominator_size v_quotient_denominator_limbs_a he_x1 u_2 hu_2) (cwV 1 hw (zg_V wd_618 wd_620 we_1_6 wd_1 wd_621) rfl rfl rfl hd_RT_bitsOfDecimal ⟨Nat.le_of_ble_eq_true rfl, Nat.le_of_ble_eq_true rfl⟩) (zz_preV (zx_ok adF tp adK adV) (va_recv (q0 := 0) (ci := 6) hK hP rfl rfl) hP hD hK hS hA hX [0, 3, 4, 5, 6, 7, 8, 9] rfl (by decide)) rfl rfl hl.1 rfl (lv_room (Nat.le_of_ble_eq_true rfl)) d_RT_bitsOfText_50 ⟨Nat.zero_le _, Nat.zero_le _⟩) (fun H locs hP hD hS => ?_)
        cases hf
        exact hend 53 ls _ _ d_RT_bitsOfText_53 hP hD hS
      · have hf := zz_ifn hc hf
        refine lv_aload_n hx hb d_RT_bitsOfText_40 rfl (lv_at hl 0 rfl) ?_
        refine lv_aload_n hx hb d_RT_bitsOfText_41 rfl (lv_at hl 1 rfl) ?_
        obtain ⟨u_3, hu_3, hf⟩ := zz_bd hf
        refine zz_cl (ws' := [(h_v, .inr (6, [.ref h_v_theText, .ref h_v_written, .ref h_v_literal, .ref h_v_quotient, .ref h_v_shortest, .ref h_v_decimal, .int v_readCount, .int v_noLiteralCount, .int v_outOfRangeCount])), (h_v_theText, .inr (4, [.ref h_v_theText_letters, .int v_theText_start, .int v_theText_end])), (h_v_theText_letters, .inl (cC, n_v_theText_letters, .inl v_theText_letters_a)), (h_v_literal, .inr (2, [.ref h_v_literal_digits, .int u_1.2.1, .int u_1.2.2.1, .int u_1.2.2.2.1, .int u_1.2.2.2.2.1])), (h_v_literal_digits, .inl (cB, n_v_literal_digits, .inl u_1.2.2.2.2.2)), (h_v_quotient, .inr (3, [.ref h_v_quotient_numerator, .ref h_v_quotient_denominator, .long v_quotient_lead, .int v_quotient_power, .int v_quotient_more])), (h_v_quotient_numerator, .inr (0, [.ref h_v_quotient_numerator_limbs, .int v_quotient_numerator_size])), (h_v_quotient_numerator_limbs, .inl (cI, n_v_quotient_numerator_limbs, .inl v_quotient_numerator_limbs_a)), (h_v_quotient_denominator, .inr (0, [.ref h_v_quotient_denominator_limbs, .int v_quotient_denominator_size])), (h_v_quotient_denominator_limbs, .inl (cI, n_v_quotient_denominator_limbs, .inl v_quotient_denominator_limbs_a))]) (wc := [(h_v, .inr (6, [.ref h_v_theText, .ref h_v_written, .ref h_v_literal, .ref h_v_quotient, .ref h_v_shortest, .ref h_v_decimal, .int v_readCount, .int v_noLiteralCount, .int v_outOfRangeCount])), (h_v_literal, .inr (2, [.ref h_v_literal_digits, .int u_1.2.1, .int u_1.2.2.1, .int u_1.2.2.2.1, .int u_1.2.2.2.2.1])), (h_v_literal_digits, .inl (cB, n_v_literal_digits, .inl u_1.2.2.2.2.2))]) (w' := [(h_v, .inr (6, [.ref h_v_theText, .ref h_v_written, .ref h_v_literal, .ref h_v_quotient, .ref h_v_shortest, .ref h_v_decimal, .int v_readCount, .int v_noLiteralCount, .int v_outOfRangeCount])), (h_v_literal, .inr (2, [.ref h_v_literal_digits, .int u_1.2.1, .int u_1.2.2.1, .int u_1.2.2.2.1, .int u_1.2.2.2.2.1])), (h_v_literal_digits, .inl (cB, n_v_literal_digits, .inl u_1.2.2.2.2.2))]) hP hD hS hA [0, 3, 4] [1, 2, 5, 6, 7, 8, 9] [7, 0, 1, 8, 9, 2, 3, 4, 5, 6] rfl rfl (by decide) (by decide) rfl (by decide) (va_runV (As := [.ref (adF x1)]) (rest := []) ⟨hx, hb, hml, hown, hw⟩ (c_RT_bitsOfHex l dC dI cI cC cB cJ adF tp adK adV fu _ h_v h_v_literal h_v_literal_digits h_v_theText h_v_written h_v_quotient h_v_shortest h_v_decimal n_v_literal_digits x1 v_readCount v_noLiteralCount v_outOfRangeCount u_1.2.1 u_1.2.2.1 u_1.2.2.2.1 u_1.2.2.2.2.1 u_1.2.2.2.2.2 he_x1 u_3 hu_3) (cwV 1 hw (zg_V wd_601 wd_603 we_1_4 wd_1 wd_604) rfl rfl rfl hd_RT_bitsOfHex ⟨Nat.le_of_ble_eq_true rfl, Nat.le_of_ble_eq_true rfl⟩) (zz_preV (zx_ok adF tp adK adV) (va_recv (q0 := 0) (ci := 6) hK hP rfl rfl) hP hD hK hS hA hX [0, 3, 4] rfl (by decide)) rfl rfl hl.1 rfl (lv_room (Nat.le_of_ble_eq_true rfl)) d_RT_bitsOfText_42 ⟨Nat.zero_le _, Nat.zero_le _⟩) (fun H locs hP hD hS => ?_)
        refine lv_goto (tgt := 53) hx hb d_RT_bitsOfText_45 (by decide) ?_
        cases hf
        exact hend 53 ls _ _ d_RT_bitsOfText_53 hP hD hS
    · have hf := zz_ifp hc hf
      refine lv_lconst (v := 0) hx hb d_RT_bitsOfText_28 (by decide) ?_
      cases hf
      exact hend 29 ls _ _ d_RT_bitsOfText_29 hP hD hS
  · have hf := zz_ifp hc hf
    refine lv_ldc2 (v := (-1)) hx hb hown (hw _ wd_600) d_RT_bitsOfText_14 ?_
    cases hf
    exact hend 17 ls _ _ d_RT_bitsOfText_17 hP hD hS
abbrev ws_RT_take : List Cond := .code y_RT_take prog_1_method_5_code 4 (some .long) :: zw
abbrev rm_RT_take : Room := { frames := 2, cells := 0, slots := 0, locals := 42 }
theorem hd_RT_take : y_RT_take.cls = "RealText" ∧ y_RT_take.cls ≠ "java/lang/invoke/MethodHandle" ∧ y_RT_take.cls ≠ "java/lang/invoke/VarHandle" ∧ (parseMethodDescriptor y_RT_take.desc).map (fun d => d.parameters.length) = some 0 := by decide +kernel
theorem d_RT_take_0 : decode prog_1_method_5_code 0 = .ok (.lconst 0, 1) := by decide +kernel
theorem d_RT_take_1 : decode prog_1_method_5_code 1 = .ok (.lstore_n 1, 1) := by decide +kernel
theorem d_RT_take_2 : decode prog_1_method_5_code 2 = .ok (.iconst 0, 1) := by decide +kernel
theorem d_RT_take_3 : decode prog_1_method_5_code 3 = .ok (.istore_n 3, 1) := by decide +kernel
theorem d_RT_take_4 : decode prog_1_method_5_code 4 = .ok (.iload_n 3, 1) := by decide +kernel
theorem d_RT_take_5 : decode prog_1_method_5_code 5 = .ok (.bipush 8, 2) := by decide +kernel
theorem d_RT_take_7 : decode prog_1_method_5_code 7 = .ok (.if_icmp .ge 33, 3) := by decide +kernel
theorem d_RT_take_10 : decode prog_1_method_5_code 10 = .ok (.aload_n 0, 1) := by decide +kernel
theorem d_RT_take_11 : decode prog_1_method_5_code 11 = .ok (.getfield 18, 3) := by decide +kernel
theorem d_RT_take_14 : decode prog_1_method_5_code 14 = .ok (.invokevirtual 56, 3) := by decide +kernel
theorem d_RT_take_17 : decode prog_1_method_5_code 17 = .ok (.ifCond .le 23, 3) := by decide +kernel
theorem d_RT_take_20 : decode prog_1_method_5_code 20 = .ok (.lload_n 1, 1) := by decide +kernel
theorem d_RT_take_21 : decode prog_1_method_5_code 21 = .ok (.bipush 8, 2) := by decide +kernel
theorem d_RT_take_23 : decode prog_1_method_5_code 23 = .ok (.lshl, 1) := by decide +kernel
theorem d_RT_take_24 : decode prog_1_method_5_code 24 = .ok (.aload_n 0, 1) := by decide +kernel
theorem d_RT_take_25 : decode prog_1_method_5_code 25 = .ok (.getfield 18, 3) := by decide +kernel
theorem d_RT_take_28 : decode prog_1_method_5_code 28 = .ok (.invokevirtual 147, 3) := by decide +kernel
theorem d_RT_take_31 : decode prog_1_method_5_code 31 = .ok (.i2l, 1) := by decide +kernel
theorem d_RT_take_32 : decode prog_1_method_5_code 32 = .ok (.lor, 1) := by decide +kernel
theorem d_RT_take_33 : decode prog_1_method_5_code 33 = .ok (.lstore_n 1, 1) := by decide +kernel
theorem d_RT_take_34 : decode prog_1_method_5_code 34 = .ok (.iinc 3 1, 3) := by decide +kernel
theorem d_RT_take_37 : decode prog_1_method_5_code 37 = .ok (.goto (-33), 3) := by decide +kernel
theorem d_RT_take_40 : decode prog_1_method_5_code 40 = .ok (.lload_n 1, 1) := by decide +kernel
theorem d_RT_take_41 : decode prog_1_method_5_code 41 = .ok (.lreturn, 1) := by decide +kernel
def f_RT_take_4 (fu : Nat) (n_v_written_letters : Nat) (v_written_end : Int32) (v_written_letters_a : Nat → Int32)  : Nat → Int64 → Int32 → Int32 → Option (Int64 × Int32)
  | 0, _, _, _ => none
  | n + 1, y1, y3, v_written_start =>
  (if 8 ≤ y3 then
  some (y1, v_written_start)
  else
  (f_Row_length v_written_start v_written_end).bind fun u_1 =>
  (if u_1 ≤ 0 then
  some (y1, v_written_start)
  else
  (f_Row_takeFirst n_v_written_letters v_written_start v_written_end v_written_letters_a).bind fun u_2 =>
  zz_lt ((y1 <<< ((8 : Int32).toInt64 &&& 63)) ||| u_2.1.toInt64) fun x1_3 =>
  f_RT_take_4 fu n_v_written_letters v_written_end v_written_letters_a n x1_3 (y3 + 1) u_2.2))
theorem f_RT_take_4_s (fu : Nat) (n_v_written_letters : Nat) (v_written_end : Int32) (v_written_letters_a : Nat → Int32)  (n : Nat) (y1 : Int64) (y3 : Int32) (v_written_start : Int32) : f_RT_take_4 fu n_v_written_letters v_written_end v_written_letters_a (n + 1) y1 y3 v_written_start =
  (if 8 ≤ y3 then
  some (y1, v_written_start)
  else
  (f_Row_length v_written_start v_written_end).bind fun u_1 =>
  (if u_1 ≤ 0 then
  some (y1, v_written_start)
  else
  (f_Row_takeFirst n_v_written_letters v_written_start v_written_end v_written_letters_a).bind fun u_2 =>
  zz_lt ((y1 <<< ((8 : Int32).toInt64 &&& 63)) ||| u_2.1.toInt64) fun x1_3 =>
  f_RT_take_4 fu n_v_written_letters v_written_end v_written_letters_a n x1_3 (y3 + 1) u_2.2)) := rfl
def f_RT_take (fu : Nat) (n_v_written_letters : Nat) (v_written_start : Int32) (v_written_end : Int32) (v_written_letters_a : Nat → Int32) : Option (Int64 × Int32) :=
  f_RT_take_4 fu n_v_written_letters v_written_end v_written_letters_a fu 0 0 v_written_start
set_option maxHeartbeats 4000000 in
set_option maxRecDepth 100000 in
theorem c_RT_take (l : Launch) (dC : Nat → ClassId) (dI : Nat → Nat → Nat) (cI cC cB cJ : ClassId) (fu : Nat) (sz : Nat) (h_v : Nat) (h_v_written : Nat) (h_v_written_letters : Nat) (h_v_theText : Nat) (h_v_literal : Nat) (h_v_quotient : Nat) (h_v_shortest : Nat) (h_v_decimal : Nat) (n_v_written_letters : Nat) (v_readCount : Int32) (v_noLiteralCount : Int32) (v_outOfRangeCount : Int32) (v_written_start : Int32) (v_written_end : Int32) (v_written_letters_a : Nat → Int32) (u : Int64 × Int32) (hf : f_RT_take fu n_v_written_letters v_written_start v_written_end v_written_letters_a = some u) : Met l y_RT_take ws_RT_take rm_RT_take (zz_P zz_T (dC, dI) vwCl (zz_tys cI cC cB cJ) [.ref h_v] [(h_v, .inr (6, [.ref h_v_theText, .ref h_v_written, .ref h_v_literal, .ref h_v_quotient, .ref h_v_shortest, .ref h_v_decimal, .int v_readCount, .int v_noLiteralCount, .int v_outOfRangeCount])), (h_v_written, .inr (4, [.ref h_v_written_letters, .int v_written_start, .int v_written_end])), (h_v_written_letters, .inl (cC, n_v_written_letters, .inl v_written_letters_a))] sz) (zz_Ql (dC, dI) vwCl u.1 [(h_v, .inr (6, [.ref h_v_theText, .ref h_v_written, .ref h_v_literal, .ref h_v_quotient, .ref h_v_shortest, .ref h_v_decimal, .int v_readCount, .int v_noLiteralCount, .int v_outOfRangeCount])), (h_v_written, .inr (4, [.ref h_v_written_letters, .int u.2, .int v_written_end])), (h_v_written_letters, .inl (cC, n_v_written_letters, .inl v_written_letters_a))] (va_A [(h_v, .inr (6, [.ref h_v_theText, .ref h_v_written, .ref h_v_literal, .ref h_v_quotient, .ref h_v_shortest, .ref h_v_decimal, .int v_readCount, .int v_noLiteralCount, .int v_outOfRangeCount])), (h_v_written, .inr (4, [.ref h_v_written_letters, .int v_written_start, .int v_written_end])), (h_v_written_letters, .inl (cC, n_v_written_letters, .inl v_written_letters_a))] sz)) 0 0 (va_A [(h_v, .inr (6, [.ref h_v_theText, .ref h_v_written, .ref h_v_literal, .ref h_v_quotient, .ref h_v_shortest, .ref h_v_decimal, .int v_readCount, .int v_noLiteralCount, .int v_outOfRangeCount])), (h_v_written, .inr (4, [.ref h_v_written_letters, .int v_written_start, .int v_written_end])), (h_v_written_letters, .inl (cC, n_v_written_letters, .inl v_written_letters_a))] sz) := by
  refine Met.ofW (cc := prog_1_method_5_code) (maxL := 4) (ret := (some .long)) (by decide +kernel) rfl ?_
  intro p e s m args below meth c s₁ B hml hv
  obtain ⟨rfl, hsz, hP, hK, hD0, hX⟩ := hv
  have hx := B.exec
  have hb := B.bytes
  have hr := B.returns
  have hts := atoms_spec (ws := ws_RT_take) B.pre
  have hw : ∀ w ∈ zw, w.before [.ref h_v].toArray s = true := fun w h => hts w (List.mem_cons_of_mem _ h)
  have hown : s.vm.findClass R_RT = some m.cls := findClass_of_methodNamed B.named
  have hlocks := B.notSynchronized
  subst hsz
  have hD := hD0.self (sz := s.heap.size)
  generalize hAe : va_A [(h_v, .inr (6, [.ref h_v_theText, .ref h_v_written, .ref h_v_literal, .ref h_v_quotient, .ref h_v_shortest, .ref h_v_decimal, .int v_readCount, .int v_noLiteralCount, .int v_outOfRangeCount])), (h_v_written, .inr (4, [.ref h_v_written_letters, .int v_written_start, .int v_written_end])), (h_v_written_letters, .inl (cC, n_v_written_letters, .inl v_written_letters_a))] s.heap.size = A at hD hX ⊢
  have hA : ∀ q : Nat, s.heap.size ≤ q → A q := fun q h => by rw [← hAe]; exact Or.inr h
  have hS : va_S A s.heap s.heap [] := va_S.rf
  have hl := lv_entry [.ref h_v] (n := 4) (Nat.le_of_ble_eq_true rfl)
  rw [lg_entry_eq]
  generalize (lg_sl [.ref h_v] ++ List.replicate (4 - (lg_sl [.ref h_v]).length) Slot.unset).toArray = ls at hl ⊢
  have hl : lv_has ls 4 [(0, .ref h_v)] := hl
  refine zz_endl hx hb hr hlocks (fun Qq hend => ?_)
  have hL_4 : ∀ (n : Nat), ∀ (y1 : Int64) (y3 : Int32) (v_written_start : Int32) (ls : Array Slot) (H : Heap) (locs : List Loc), lv_has ls 4 [(0, .ref h_v), (1, .long y1), (3, .int y3)] → va_P (dC, dI) vwCl [(h_v, .inr (6, [.ref h_v_theText, .ref h_v_written, .ref h_v_literal, .ref h_v_quotient, .ref h_v_shortest, .ref h_v_decimal, .int v_readCount, .int v_noLiteralCount, .int v_outOfRangeCount])), (h_v_written, .inr (4, [.ref h_v_written_letters, .int v_written_start, .int v_written_end])), (h_v_written_letters, .inl (cC, n_v_written_letters, .inl v_written_letters_a))] H → va_D A [(h_v, .inr (6, [.ref h_v_theText, .ref h_v_written, .ref h_v_literal, .ref h_v_quotient, .ref h_v_shortest, .ref h_v_decimal, .int v_readCount, .int v_noLiteralCount, .int v_outOfRangeCount])), (h_v_written, .inr (4, [.ref h_v_written_letters, .int v_written_start, .int v_written_end])), (h_v_written_letters, .inl (cC, n_v_written_letters, .inl v_written_letters_a))] → va_S A s.heap H locs → f_RT_take_4 fu n_v_written_letters v_written_end v_written_letters_a n y1 y3 v_written_start = some u → W p l e (headSpec ws_RT_take rm_RT_take).room s m [.ref h_v].toArray below meth c H locs 0 0 Qq (F0 m 4 ls []) := by
    intro n
    induction n with
    | zero =>
      intro y1 y3 v_written_start ls H locs hl hP hD hS hf
      exact zz_no hf
    | succ n ih =>
      intro y1 y3 v_written_start ls H locs hl hP hD hS hf
      rw [f_RT_take_4_s] at hf
      refine lv_iload_n hx hb d_RT_take_4 rfl (lv_at hl 2 rfl) ?_
      refine lv_bipush (v := 8) hx hb d_RT_take_5 (by decide) ?_
      refine lv_icmp_ge (tgt := 40) hx hb d_RT_take_7 (by decide) (fun hc => ?_) (fun hc => ?_)
      · have hf := zz_ifp hc hf
        refine lv_lload_n hx hb d_RT_take_40 rfl (lv_at hl 1 rfl) ?_
        cases hf
        exact hend 41 ls _ _ d_RT_take_41 hP hD hS
      · have hf := zz_ifn hc hf
        refine lv_aload_n hx hb d_RT_take_10 rfl (lv_at hl 0 rfl) ?_
        refine va_get (D := (dC, dI)) (ci := 6) (v := .ref h_v_written) (C := R_RT) (T := T_RT) (N := 9) hx hb hw in_RT hown hK hP 0 rfl rfl 1 (by decide) (hw _ wd_169) (fun _ h9 => h9) rfl d_RT_take_11 ?_
        obtain ⟨u_1, hu_1, hf⟩ := zz_bd hf
        refine zz_ci (ws' := [(h_v, .inr (6, [.ref h_v_theText, .ref h_v_written, .ref h_v_literal, .ref h_v_quotient, .ref h_v_shortest, .ref h_v_decimal, .int v_readCount, .int v_noLiteralCount, .int v_outOfRangeCount])), (h_v_written, .inr (4, [.ref h_v_written_letters, .int v_written_start, .int v_written_end])), (h_v_written_letters, .inl (cC, n_v_written_letters, .inl v_written_letters_a))]) (wc := [(h_v_written, .inr (4, [.ref h_v_written_letters, .int v_written_start, .int v_written_end]))]) (w' := [(h_v_written, .inr (4, [.ref h_v_written_letters, .int v_written_start, .int v_written_end]))]) hP hD hS hA [1] [0, 2] [0, 2, 1] rfl rfl (by decide) (by decide) rfl (by decide) (va_runV (As := []) (rest := []) ⟨hx, hb, hml, hown, hw⟩ (c_Row_length l dC dI cI cC cB cJ _ h_v_written h_v_written_letters v_written_start v_written_end u_1 hu_1) (cwV 0 hw (zg_V wd_283 wd_284 wd_285 wd_2 wd_286) rfl rfl rfl hd_Row_length ⟨Nat.le_of_ble_eq_true rfl, Nat.le_of_ble_eq_true rfl⟩) (zz_preV zz_TE (va_recv (q0 := 1) (ci := 4) hK hP rfl rfl) hP hD hK hS hA trivial [1] rfl (by decide)) rfl rfl hl.1 rfl (lv_room (Nat.le_of_ble_eq_true rfl)) d_RT_take_14 ⟨Nat.zero_le _, Nat.zero_le _⟩) (fun H locs hP hD hS => ?_)
        refine lv_if_le (tgt := 40) hx hb d_RT_take_17 (by decide) (fun hc => ?_) (fun hc => ?_)
        · have hf := zz_ifp hc hf
          refine lv_lload_n hx hb d_RT_take_40 rfl (lv_at hl 1 rfl) ?_
          cases hf
          exact hend 41 ls _ _ d_RT_take_41 hP hD hS
        · have hf := zz_ifn hc hf
          refine lv_lload_n hx hb d_RT_take_20 rfl (lv_at hl 1 rfl) ?_
          refine lv_bipush (v := 8) hx hb d_RT_take_21 (by decide) ?_
          refine lv_lshl hx hb d_RT_take_23 rfl ?_
          refine lv_aload_n hx hb d_RT_take_24 rfl (lv_at hl 0 rfl) ?_
          refine va_get (D := (dC, dI)) (ci := 6) (v := .ref h_v_written) (C := R_RT) (T := T_RT) (N := 9) hx hb hw in_RT hown hK hP 0 rfl rfl 1 (by decide) (hw _ wd_169) (fun _ h9 => h9) rfl d_RT_take_25 ?_
          obtain ⟨u_2, hu_2, hf⟩ := zz_bd hf
          refine zz_ci (ws' := [(h_v, .inr (6, [.ref h_v_theText, .ref h_v_written, .ref h_v_literal, .ref h_v_quotient, .ref h_v_shortest, .ref h_v_decimal, .int v_readCount, .int v_noLiteralCount, .int v_outOfRangeCount])), (h_v_written, .inr (4, [.ref h_v_written_letters, .int u_2.2, .int v_written_end])), (h_v_written_letters, .inl (cC, n_v_written_letters, .inl v_written_letters_a))]) (wc := [(h_v_written, .inr (4, [.ref h_v_written_letters, .int v_written_start, .int v_written_end])), (h_v_written_letters, .inl (cC, n_v_written_letters, .inl v_written_letters_a))]) (w' := [(h_v_written, .inr (4, [.ref h_v_written_letters, .int u_2.2, .int v_written_end])), (h_v_written_letters, .inl (cC, n_v_written_letters, .inl v_written_letters_a))]) hP hD hS hA [1, 2] [0] [0, 1, 2] rfl rfl (by decide) (by decide) rfl (by decide) (va_runV (As := []) (rest := [.long (y1 <<< ((8 : Int32).toInt64 &&& 63))]) ⟨hx, hb, hml, hown, hw⟩ (c_Row_takeFirst l dC dI cI cC cB cJ _ h_v_written h_v_written_letters n_v_written_letters v_written_start v_written_end v_written_letters_a u_2 hu_2) (cwV 0 hw (zg_V wd_443 wd_444 wd_445 wd_2 wd_446) rfl rfl rfl hd_Row_takeFirst ⟨Nat.le_of_ble_eq_true rfl, Nat.le_of_ble_eq_true rfl⟩) (zz_preV zz_TE (va_recv (q0 := 1) (ci := 4) hK hP rfl rfl) hP hD hK hS hA trivial [1, 2] rfl (by decide)) rfl rfl hl.1 rfl (lv_room (Nat.le_of_ble_eq_true rfl)) d_RT_take_28 ⟨Nat.zero_le _, Nat.zero_le _⟩) (fun H locs hP hD hS => ?_)
          refine lv_i2l hx hb d_RT_take_31 rfl ?_
          refine lv_lor hx hb d_RT_take_32 ?_
          refine lv_topl (fun x1_3 e_x1_3 => ?_)
          have hf := zz_ltp hf x1_3 e_x1_3
          refine lv_lstore_n hx hb d_RT_take_33 rfl hl (by decide) rfl (fun ls hl => ?_)
          have hl : lv_has ls 4 [(1, .long x1_3), (0, .ref h_v), (3, .int y3)] := hl
          refine lv_iinc (k := 2) (v := y3 + 1) hx hb d_RT_take_34 hl rfl rfl (by decide) rfl (fun ls hl => ?_)
          have hl : lv_has ls 4 [(3, .int (y3 + 1)), (1, .long x1_3), (0, .ref h_v)] := hl
          refine lv_goto (tgt := 4) hx hb d_RT_take_37 (by decide) ?_
          exact ih x1_3 (y3 + 1) u_2.2 ls _ _ (lv_sub hl [2, 1, 0] rfl) hP hD hS hf
  unfold f_RT_take at hf
  refine lv_lconst (v := 0) hx hb d_RT_take_0 (by decide) ?_
  refine lv_lstore_n hx hb d_RT_take_1 rfl hl (by decide) rfl (fun ls hl => ?_)
  have hl : lv_has ls 4 [(1, .long 0), (0, .ref h_v)] := hl
  refine lv_iconst (v := 0) hx hb d_RT_take_2 (by decide) ?_
  refine lv_istore_n hx hb d_RT_take_3 rfl hl (by decide) rfl (fun ls hl => ?_)
  have hl : lv_has ls 4 [(3, .int 0), (1, .long 0), (0, .ref h_v)] := hl
  exact hL_4 fu 0 0 v_written_start ls _ _ (lv_sub hl [2, 1, 0] rfl) hP hD hS hf
abbrev ws_RT_back : List Cond := .code y_RT_back prog_1_method_6_code 2 (some .int) :: zw
abbrev rm_RT_back : Room := { frames := 1, cells := 0, slots := 0, locals := 21 }
theorem hd_RT_back : y_RT_back.cls = "RealText" ∧ y_RT_back.cls ≠ "java/lang/invoke/MethodHandle" ∧ y_RT_back.cls ≠ "java/lang/invoke/VarHandle" ∧ (parseMethodDescriptor y_RT_back.desc).map (fun d => d.parameters.length) = some 0 := by decide +kernel
theorem d_RT_back_0 : decode prog_1_method_6_code 0 = .ok (.aload_n 0, 1) := by decide +kernel
theorem d_RT_back_1 : decode prog_1_method_6_code 1 = .ok (.getfield 14, 3) := by decide +kernel
theorem d_RT_back_4 : decode prog_1_method_6_code 4 = .ok (.invokevirtual 88, 3) := by decide +kernel
theorem d_RT_back_7 : decode prog_1_method_6_code 7 = .ok (.iconst 0, 1) := by decide +kernel
theorem d_RT_back_8 : decode prog_1_method_6_code 8 = .ok (.istore_n 1, 1) := by decide +kernel
theorem d_RT_back_9 : decode prog_1_method_6_code 9 = .ok (.iload_n 1, 1) := by decide +kernel
theorem d_RT_back_10 : decode prog_1_method_6_code 10 = .ok (.aload_n 0, 1) := by decide +kernel
theorem d_RT_back_11 : decode prog_1_method_6_code 11 = .ok (.getfield 18, 3) := by decide +kernel
theorem d_RT_back_14 : decode prog_1_method_6_code 14 = .ok (.invokevirtual 56, 3) := by decide +kernel
theorem d_RT_back_17 : decode prog_1_method_6_code 17 = .ok (.if_icmp .ge 24, 3) := by decide +kernel
theorem d_RT_back_20 : decode prog_1_method_6_code 20 = .ok (.aload_n 0, 1) := by decide +kernel
theorem d_RT_back_21 : decode prog_1_method_6_code 21 = .ok (.getfield 14, 3) := by decide +kernel
theorem d_RT_back_24 : decode prog_1_method_6_code 24 = .ok (.aload_n 0, 1) := by decide +kernel
theorem d_RT_back_25 : decode prog_1_method_6_code 25 = .ok (.getfield 18, 3) := by decide +kernel
theorem d_RT_back_28 : decode prog_1_method_6_code 28 = .ok (.iload_n 1, 1) := by decide +kernel
theorem d_RT_back_29 : decode prog_1_method_6_code 29 = .ok (.invokevirtual 151, 3) := by decide +kernel
theorem d_RT_back_32 : decode prog_1_method_6_code 32 = .ok (.invokevirtual 71, 3) := by decide +kernel
theorem d_RT_back_35 : decode prog_1_method_6_code 35 = .ok (.iinc 1 1, 3) := by decide +kernel
theorem d_RT_back_38 : decode prog_1_method_6_code 38 = .ok (.goto (-29), 3) := by decide +kernel
theorem d_RT_back_41 : decode prog_1_method_6_code 41 = .ok (.aload_n 0, 1) := by decide +kernel
theorem d_RT_back_42 : decode prog_1_method_6_code 42 = .ok (.getfield 18, 3) := by decide +kernel
theorem d_RT_back_45 : decode prog_1_method_6_code 45 = .ok (.invokevirtual 88, 3) := by decide +kernel
theorem d_RT_back_48 : decode prog_1_method_6_code 48 = .ok (.aload_n 0, 1) := by decide +kernel
theorem d_RT_back_49 : decode prog_1_method_6_code 49 = .ok (.getfield 14, 3) := by decide +kernel
theorem d_RT_back_52 : decode prog_1_method_6_code 52 = .ok (.invokevirtual 56, 3) := by decide +kernel
theorem d_RT_back_55 : decode prog_1_method_6_code 55 = .ok (.ireturn, 1) := by decide +kernel
def f_RT_back_9 (fu : Nat) (n_v_theText_letters : Nat) (n_v_written_letters : Nat) (v_written_letters_a : Nat → Int32)  : Nat → Int32 → Int32 → Int32 → (Nat → Int32) → Int32 → Int32 → Option (Int32 × Int32 × Int32 × (Nat → Int32) × Int32 × Int32)
  | 0, _, _, _, _, _, _ => none
  | n + 1, y1, v_theText_start, v_theText_end, v_theText_letters_a, v_written_start, v_written_end =>
  (f_Row_length v_written_start v_written_end).bind fun u_2 =>
  (if u_2 ≤ y1 then
  (f_Row_clear v_written_start v_written_end).bind fun u_3 =>
  (f_Row_length v_theText_start v_theText_end).bind fun u_4 =>
  some (u_4, v_theText_start, v_theText_end, v_theText_letters_a, u_3.1, u_3.2)
  else
  (f_Row_at n_v_written_letters y1 v_written_start v_written_end v_written_letters_a).bind fun u_5 =>
  (f_Row_put n_v_theText_letters u_5 v_theText_end v_theText_letters_a).bind fun u_6 =>
  f_RT_back_9 fu n_v_theText_letters n_v_written_letters v_written_letters_a n (y1 + 1) v_theText_start u_6.1 u_6.2 v_written_start v_written_end)
theorem f_RT_back_9_s (fu : Nat) (n_v_theText_letters : Nat) (n_v_written_letters : Nat) (v_written_letters_a : Nat → Int32)  (n : Nat) (y1 : Int32) (v_theText_start : Int32) (v_theText_end : Int32) (v_theText_letters_a : Nat → Int32) (v_written_start : Int32) (v_written_end : Int32) : f_RT_back_9 fu n_v_theText_letters n_v_written_letters v_written_letters_a (n + 1) y1 v_theText_start v_theText_end v_theText_letters_a v_written_start v_written_end =
  (f_Row_length v_written_start v_written_end).bind fun u_2 =>
  (if u_2 ≤ y1 then
  (f_Row_clear v_written_start v_written_end).bind fun u_3 =>
  (f_Row_length v_theText_start v_theText_end).bind fun u_4 =>
  some (u_4, v_theText_start, v_theText_end, v_theText_letters_a, u_3.1, u_3.2)
  else
  (f_Row_at n_v_written_letters y1 v_written_start v_written_end v_written_letters_a).bind fun u_5 =>
  (f_Row_put n_v_theText_letters u_5 v_theText_end v_theText_letters_a).bind fun u_6 =>
  f_RT_back_9 fu n_v_theText_letters n_v_written_letters v_written_letters_a n (y1 + 1) v_theText_start u_6.1 u_6.2 v_written_start v_written_end) := rfl
def f_RT_back (fu : Nat) (n_v_theText_letters : Nat) (n_v_written_letters : Nat) (v_theText_start : Int32) (v_theText_end : Int32) (v_theText_letters_a : Nat → Int32) (v_written_start : Int32) (v_written_end : Int32) (v_written_letters_a : Nat → Int32) : Option (Int32 × Int32 × Int32 × (Nat → Int32) × Int32 × Int32) :=
  (f_Row_clear v_theText_start v_theText_end).bind fun u_1 =>
  f_RT_back_9 fu n_v_theText_letters n_v_written_letters v_written_letters_a fu 0 u_1.1 u_1.2 v_theText_letters_a v_written_start v_written_end
set_option maxHeartbeats 4000000 in
set_option maxRecDepth 100000 in
theorem c_RT_back (l : Launch) (dC : Nat → ClassId) (dI : Nat → Nat → Nat) (cI cC cB cJ : ClassId) (fu : Nat) (sz : Nat) (h_v : Nat) (h_v_theText : Nat) (h_v_theText_letters : Nat) (h_v_written : Nat) (h_v_written_letters : Nat) (h_v_literal : Nat) (h_v_quotient : Nat) (h_v_shortest : Nat) (h_v_decimal : Nat) (n_v_theText_letters : Nat) (n_v_written_letters : Nat) (v_readCount : Int32) (v_noLiteralCount : Int32) (v_outOfRangeCount : Int32) (v_theText_start : Int32) (v_theText_end : Int32) (v_theText_letters_a : Nat → Int32) (v_written_start : Int32) (v_written_end : Int32) (v_written_letters_a : Nat → Int32) (u : Int32 × Int32 × Int32 × (Nat → Int32) × Int32 × Int32) (hf : f_RT_back fu n_v_theText_letters n_v_written_letters v_theText_start v_theText_end v_theText_letters_a v_written_start v_written_end v_written_letters_a = some u) : Met l y_RT_back ws_RT_back rm_RT_back (zz_P zz_T (dC, dI) vwCl (zz_tys cI cC cB cJ) [.ref h_v] [(h_v, .inr (6, [.ref h_v_theText, .ref h_v_written, .ref h_v_literal, .ref h_v_quotient, .ref h_v_shortest, .ref h_v_decimal, .int v_readCount, .int v_noLiteralCount, .int v_outOfRangeCount])), (h_v_theText, .inr (4, [.ref h_v_theText_letters, .int v_theText_start, .int v_theText_end])), (h_v_theText_letters, .inl (cC, n_v_theText_letters, .inl v_theText_letters_a)), (h_v_written, .inr (4, [.ref h_v_written_letters, .int v_written_start, .int v_written_end])), (h_v_written_letters, .inl (cC, n_v_written_letters, .inl v_written_letters_a))] sz) (zz_Qi (dC, dI) vwCl u.1 [(h_v, .inr (6, [.ref h_v_theText, .ref h_v_written, .ref h_v_literal, .ref h_v_quotient, .ref h_v_shortest, .ref h_v_decimal, .int v_readCount, .int v_noLiteralCount, .int v_outOfRangeCount])), (h_v_theText, .inr (4, [.ref h_v_theText_letters, .int u.2.1, .int u.2.2.1])), (h_v_theText_letters, .inl (cC, n_v_theText_letters, .inl u.2.2.2.1)), (h_v_written, .inr (4, [.ref h_v_written_letters, .int u.2.2.2.2.1, .int u.2.2.2.2.2])), (h_v_written_letters, .inl (cC, n_v_written_letters, .inl v_written_letters_a))] (va_A [(h_v, .inr (6, [.ref h_v_theText, .ref h_v_written, .ref h_v_literal, .ref h_v_quotient, .ref h_v_shortest, .ref h_v_decimal, .int v_readCount, .int v_noLiteralCount, .int v_outOfRangeCount])), (h_v_theText, .inr (4, [.ref h_v_theText_letters, .int v_theText_start, .int v_theText_end])), (h_v_theText_letters, .inl (cC, n_v_theText_letters, .inl v_theText_letters_a)), (h_v_written, .inr (4, [.ref h_v_written_letters, .int v_written_start, .int v_written_end])), (h_v_written_letters, .inl (cC, n_v_written_letters, .inl v_written_letters_a))] sz)) 0 0 (va_A [(h_v, .inr (6, [.ref h_v_theText, .ref h_v_written, .ref h_v_literal, .ref h_v_quotient, .ref h_v_shortest, .ref h_v_decimal, .int v_readCount, .int v_noLiteralCount, .int v_outOfRangeCount])), (h_v_theText, .inr (4, [.ref h_v_theText_letters, .int v_theText_start, .int v_theText_end])), (h_v_theText_letters, .inl (cC, n_v_theText_letters, .inl v_theText_letters_a)), (h_v_written, .inr (4, [.ref h_v_written_letters, .int v_written_start, .int v_written_end])), (h_v_written_letters, .inl (cC, n_v_written_letters, .inl v_written_letters_a))] sz) := by
  refine Met.ofW (cc := prog_1_method_6_code) (maxL := 2) (ret := (some .int)) (by decide +kernel) rfl ?_
  intro p e s m args below meth c s₁ B hml hv
  obtain ⟨rfl, hsz, hP, hK, hD0, hX⟩ := hv
  have hx := B.exec
  have hb := B.bytes
  have hr := B.returns
  have hts := atoms_spec (ws := ws_RT_back) B.pre
  have hw : ∀ w ∈ zw, w.before [.ref h_v].toArray s = true := fun w h => hts w (List.mem_cons_of_mem _ h)
  have hown : s.vm.findClass R_RT = some m.cls := findClass_of_methodNamed B.named
  have hlocks := B.notSynchronized
  subst hsz
  have hD := hD0.self (sz := s.heap.size)
  generalize hAe : va_A [(h_v, .inr (6, [.ref h_v_theText, .ref h_v_written, .ref h_v_literal, .ref h_v_quotient, .ref h_v_shortest, .ref h_v_decimal, .int v_readCount, .int v_noLiteralCount, .int v_outOfRangeCount])), (h_v_theText, .inr (4, [.ref h_v_theText_letters, .int v_theText_start, .int v_theText_end])), (h_v_theText_letters, .inl (cC, n_v_theText_letters, .inl v_theText_letters_a)), (h_v_written, .inr (4, [.ref h_v_written_letters, .int v_written_start, .int v_written_end])), (h_v_written_letters, .inl (cC, n_v_written_letters, .inl v_written_letters_a))] s.heap.size = A at hD hX ⊢
  have hA : ∀ q : Nat, s.heap.size ≤ q → A q := fun q h => by rw [← hAe]; exact Or.inr h
  have hS : va_S A s.heap s.heap [] := va_S.rf
  have hl := lv_entry [.ref h_v] (n := 2) (Nat.le_of_ble_eq_true rfl)
  rw [lg_entry_eq]
  generalize (lg_sl [.ref h_v] ++ List.replicate (2 - (lg_sl [.ref h_v]).length) Slot.unset).toArray = ls at hl ⊢
  have hl : lv_has ls 2 [(0, .ref h_v)] := hl
  refine zz_endi hx hb hr hlocks (fun Qq hend => ?_)
  have hL_9 : ∀ (n : Nat), ∀ (y1 : Int32) (v_theText_start : Int32) (v_theText_end : Int32) (v_theText_letters_a : Nat → Int32) (v_written_start : Int32) (v_written_end : Int32) (ls : Array Slot) (H : Heap) (locs : List Loc), lv_has ls 2 [(0, .ref h_v), (1, .int y1)] → va_P (dC, dI) vwCl [(h_v, .inr (6, [.ref h_v_theText, .ref h_v_written, .ref h_v_literal, .ref h_v_quotient, .ref h_v_shortest, .ref h_v_decimal, .int v_readCount, .int v_noLiteralCount, .int v_outOfRangeCount])), (h_v_theText, .inr (4, [.ref h_v_theText_letters, .int v_theText_start, .int v_theText_end])), (h_v_theText_letters, .inl (cC, n_v_theText_letters, .inl v_theText_letters_a)), (h_v_written, .inr (4, [.ref h_v_written_letters, .int v_written_start, .int v_written_end])), (h_v_written_letters, .inl (cC, n_v_written_letters, .inl v_written_letters_a))] H → va_D A [(h_v, .inr (6, [.ref h_v_theText, .ref h_v_written, .ref h_v_literal, .ref h_v_quotient, .ref h_v_shortest, .ref h_v_decimal, .int v_readCount, .int v_noLiteralCount, .int v_outOfRangeCount])), (h_v_theText, .inr (4, [.ref h_v_theText_letters, .int v_theText_start, .int v_theText_end])), (h_v_theText_letters, .inl (cC, n_v_theText_letters, .inl v_theText_letters_a)), (h_v_written, .inr (4, [.ref h_v_written_letters, .int v_written_start, .int v_written_end])), (h_v_written_letters, .inl (cC, n_v_written_letters, .inl v_written_letters_a))] → va_S A s.heap H locs → f_RT_back_9 fu n_v_theText_letters n_v_written_letters v_written_letters_a n y1 v_theText_start v_theText_end v_theText_letters_a v_written_start v_written_end = some u → W p l e (headSpec ws_RT_back rm_RT_back).room s m [.ref h_v].toArray below meth c H locs 0 0 Qq (F0 m 9 ls []) := by
    intro n
    induction n with
    | zero =>
      intro y1 v_theText_start v_theText_end v_theText_letters_a v_written_start v_written_end ls H locs hl hP hD hS hf
      exact zz_no hf
    | succ n ih =>
      intro y1 v_theText_start v_theText_end v_theText_letters_a v_written_start v_written_end ls H locs hl hP hD hS hf
      rw [f_RT_back_9_s] at hf
      refine lv_iload_n hx hb d_RT_back_9 rfl (lv_at hl 1 rfl) ?_
      refine lv_aload_n hx hb d_RT_back_10 rfl (lv_at hl 0 rfl) ?_
      refine va_get (D := (dC, dI)) (ci := 6) (v := .ref h_v_written) (C := R_RT) (T := T_RT) (N := 9) hx hb hw in_RT hown hK hP 0 rfl rfl 1 (by decide) (hw _ wd_169) (fun _ h9 => h9) rfl d_RT_back_11 ?_
      obtain ⟨u_2, hu_2, hf⟩ := zz_bd hf
      refine zz_ci (ws' := [(h_v, .inr (6, [.ref h_v_theText, .ref h_v_written, .ref h_v_literal, .ref h_v_quotient, .ref h_v_shortest, .ref h_v_decimal, .int v_readCount, .int v_noLiteralCount, .int v_outOfRangeCount])), (h_v_theText, .inr (4, [.ref h_v_theText_letters, .int v_theText_start, .int v_theText_end])), (h_v_theText_letters, .inl (cC, n_v_theText_letters, .inl v_theText_letters_a)), (h_v_written, .inr (4, [.ref h_v_written_letters, .int v_written_start, .int v_written_end])), (h_v_written_letters, .inl (cC, n_v_written_letters, .inl v_written_letters_a))]) (wc := [(h_v_written, .inr (4, [.ref h_v_written_letters, .int v_written_start, .int v_written_end]))]) (w' := [(h_v_written, .inr (4, [.ref h_v_written_letters, .int v_written_start, .int v_written_end]))]) hP hD hS hA [3] [0, 1, 2, 4] [0, 1, 2, 4, 3] rfl rfl (by decide) (by decide) rfl (by decide) (va_runV (As := []) (rest := [.int y1]) ⟨hx, hb, hml, hown, hw⟩ (c_Row_length l dC dI cI cC cB cJ _ h_v_written h_v_written_letters v_written_start v_written_end u_2 hu_2) (cwV 0 hw (zg_V wd_283 wd_284 wd_285 wd_2 wd_286) rfl rfl rfl hd_Row_length ⟨Nat.le_of_ble_eq_true rfl, Nat.le_of_ble_eq_true rfl⟩) (zz_preV zz_TE (va_recv (q0 := 3) (ci := 4) hK hP rfl rfl) hP hD hK hS hA trivial [3] rfl (by decide)) rfl rfl hl.1 rfl (lv_room (Nat.le_of_ble_eq_true rfl)) d_RT_back_14 ⟨Nat.zero_le _, Nat.zero_le _⟩) (fun H locs hP hD hS => ?_)
      refine lv_icmp_ge (tgt := 41) hx hb d_RT_back_17 (by decide) (fun hc => ?_) (fun hc => ?_)
      · have hf := zz_ifp hc hf
        refine lv_aload_n hx hb d_RT_back_41 rfl (lv_at hl 0 rfl) ?_
        refine va_get (D := (dC, dI)) (ci := 6) (v := .ref h_v_written) (C := R_RT) (T := T_RT) (N := 9) hx hb hw in_RT hown hK hP 0 rfl rfl 1 (by decide) (hw _ wd_169) (fun _ h9 => h9) rfl d_RT_back_42 ?_
        obtain ⟨u_3, hu_3, hf⟩ := zz_bd hf
        refine zz_cv (ws' := [(h_v, .inr (6, [.ref h_v_theText, .ref h_v_written, .ref h_v_literal, .ref h_v_quotient, .ref h_v_shortest, .ref h_v_decimal, .int v_readCount, .int v_noLiteralCount, .int v_outOfRangeCount])), (h_v_theText, .inr (4, [.ref h_v_theText_letters, .int v_theText_start, .int v_theText_end])), (h_v_theText_letters, .inl (cC, n_v_theText_letters, .inl v_theText_letters_a)), (h_v_written, .inr (4, [.ref h_v_written_letters, .int u_3.1, .int u_3.2])), (h_v_written_letters, .inl (cC, n_v_written_letters, .inl v_written_letters_a))]) (wc := [(h_v_written, .inr (4, [.ref h_v_written_letters, .int v_written_start, .int v_written_end]))]) (w' := [(h_v_written, .inr (4, [.ref h_v_written_letters, .int u_3.1, .int u_3.2]))]) hP hD hS hA [3] [0, 1, 2, 4] [0, 1, 2, 4, 3] rfl rfl (by decide) (by decide) rfl (by decide) (va_runV (As := []) (rest := []) ⟨hx, hb, hml, hown, hw⟩ (c_Row_clear l dC dI cI cC cB cJ _ h_v_written h_v_written_letters v_written_start v_written_end u_3 hu_3) (cwV 0 hw (zg_V wd_221 wd_222 wd_223 wd_2 wd_224) rfl rfl rfl hd_Row_clear ⟨Nat.le_of_ble_eq_true rfl, Nat.le_of_ble_eq_true rfl⟩) (zz_preV zz_TE (va_recv (q0 := 3) (ci := 4) hK hP rfl rfl) hP hD hK hS hA trivial [3] rfl (by decide)) rfl rfl hl.1 rfl (lv_room (Nat.le_of_ble_eq_true rfl)) d_RT_back_45 ⟨Nat.zero_le _, Nat.zero_le _⟩) (fun H locs hP hD hS => ?_)
        refine lv_aload_n hx hb d_RT_back_48 rfl (lv_at hl 0 rfl) ?_
        refine va_get (D := (dC, dI)) (ci := 6) (v := .ref h_v_theText) (C := R_RT) (T := T_RT) (N := 9) hx hb hw in_RT hown hK hP 0 rfl rfl 0 (by decide) (hw _ wd_168) (fun _ h9 => h9) rfl d_RT_back_49 ?_
        obtain ⟨u_4, hu_4, hf⟩ := zz_bd hf
        refine zz_ci (ws' := [(h_v, .inr (6, [.ref h_v_theText, .ref h_v_written, .ref h_v_literal, .ref h_v_quotient, .ref h_v_shortest, .ref h_v_decimal, .int v_readCount, .int v_noLiteralCount, .int v_outOfRangeCount])), (h_v_theText, .inr (4, [.ref h_v_theText_letters, .int v_theText_start, .int v_theText_end])), (h_v_theText_letters, .inl (cC, n_v_theText_letters, .inl v_theText_letters_a)), (h_v_written, .inr (4, [.ref h_v_written_letters, .int u_3.1, .int u_3.2])), (h_v_written_letters, .inl (cC, n_v_written_letters, .inl v_written_letters_a))]) (wc := [(h_v_theText, .inr (4, [.ref h_v_theText_letters, .int v_theText_start, .int v_theText_end]))]) (w' := [(h_v_theText, .inr (4, [.ref h_v_theText_letters, .int v_theText_start, .int v_theText_end]))]) hP hD hS hA [1] [0, 2, 3, 4] [0, 4, 1, 2, 3] rfl rfl (by decide) (by decide) rfl (by decide) (va_runV (As := []) (rest := []) ⟨hx, hb, hml, hown, hw⟩ (c_Row_length l dC dI cI cC cB cJ _ h_v_theText h_v_theText_letters v_theText_start v_theText_end u_4 hu_4) (cwV 0 hw (zg_V wd_283 wd_284 wd_285 wd_2 wd_286) rfl rfl rfl hd_Row_length ⟨Nat.le_of_ble_eq_true rfl, Nat.le_of_ble_eq_true rfl⟩) (zz_preV zz_TE (va_recv (q0 := 1) (ci := 4) hK hP rfl rfl) hP hD hK hS hA trivial [1] rfl (by decide)) rfl rfl hl.1 rfl (lv_room (Nat.le_of_ble_eq_true rfl)) d_RT_back_52 ⟨Nat.zero_le _, Nat.zero_le _⟩) (fun H locs hP hD hS => ?_)
        cases hf
        exact hend 55 ls _ _ d_RT_back_55 hP hD hS
      · have hf := zz_ifn hc hf
        refine lv_aload_n hx hb d_RT_back_20 rfl (lv_at hl 0 rfl) ?_
        refine va_get (D := (dC, dI)) (ci := 6) (v := .ref h_v_theText) (C := R_RT) (T := T_RT) (N := 9) hx hb hw in_RT hown hK hP 0 rfl rfl 0 (by decide) (hw _ wd_168) (fun _ h9 => h9) rfl d_RT_back_21 ?_
        refine lv_aload_n hx hb d_RT_back_24 rfl (lv_at hl 0 rfl) ?_
        refine va_get (D := (dC, dI)) (ci := 6) (v := .ref h_v_written) (C := R_RT) (T := T_RT) (N := 9) hx hb hw in_RT hown hK hP 0 rfl rfl 1 (by decide) (hw _ wd_169) (fun _ h9 => h9) rfl d_RT_back_25 ?_
        refine lv_iload_n hx hb d_RT_back_28 rfl (lv_at hl 1 rfl) ?_
        obtain ⟨u_5, hu_5, hf⟩ := zz_bd hf
        refine zz_ci (ws' := [(h_v, .inr (6, [.ref h_v_theText, .ref h_v_written, .ref h_v_literal, .ref h_v_quotient, .ref h_v_shortest, .ref h_v_decimal, .int v_readCount, .int v_noLiteralCount, .int v_outOfRangeCount])), (h_v_theText, .inr (4, [.ref h_v_theText_letters, .int v_theText_start, .int v_theText_end])), (h_v_theText_letters, .inl (cC, n_v_theText_letters, .inl v_theText_letters_a)), (h_v_written, .inr (4, [.ref h_v_written_letters, .int v_written_start, .int v_written_end])), (h_v_written_letters, .inl (cC, n_v_written_letters, .inl v_written_letters_a))]) (wc := [(h_v_written, .inr (4, [.ref h_v_written_letters, .int v_written_start, .int v_written_end])), (h_v_written_letters, .inl (cC, n_v_written_letters, .inl v_written_letters_a))]) (w' := [(h_v_written, .inr (4, [.ref h_v_written_letters, .int v_written_start, .int v_written_end])), (h_v_written_letters, .inl (cC, n_v_written_letters, .inl v_written_letters_a))]) hP hD hS hA [3, 4] [0, 1, 2] [0, 1, 2, 3, 4] rfl rfl (by decide) (by decide) rfl (by decide) (va_runV (As := [.int y1]) (rest := [.ref h_v_theText]) ⟨hx, hb, hml, hown, hw⟩ (c_Row_at l dC dI cI cC cB cJ _ h_v_written h_v_written_letters n_v_written_letters y1 v_written_start v_written_end v_written_letters_a u_5 hu_5) (cwV 1 hw (zg_V wd_455 wd_448 wd_449 wd_2 wd_450) rfl rfl rfl hd_Row_at ⟨Nat.le_of_ble_eq_true rfl, Nat.le_of_ble_eq_true rfl⟩) (zz_preV zz_TE (va_recv (q0 := 3) (ci := 4) hK hP rfl rfl) hP hD hK hS hA trivial [3, 4] rfl (by decide)) rfl rfl hl.1 rfl (lv_room (Nat.le_of_ble_eq_true rfl)) d_RT_back_29 ⟨Nat.zero_le _, Nat.zero_le _⟩) (fun H locs hP hD hS => ?_)
        obtain ⟨u_6, hu_6, hf⟩ := zz_bd hf
        refine zz_cv (ws' := [(h_v, .inr (6, [.ref h_v_theText, .ref h_v_written, .ref h_v_literal, .ref h_v_quotient, .ref h_v_shortest, .ref h_v_decimal, .int v_readCount, .int v_noLiteralCount, .int v_outOfRangeCount])), (h_v_theText, .inr (4, [.ref h_v_theText_letters, .int v_theText_start, .int u_6.1])), (h_v_theText_letters, .inl (cC, n_v_theText_letters, .inl u_6.2)), (h_v_written, .inr (4, [.ref h_v_written_letters, .int v_written_start, .int v_written_end])), (h_v_written_letters, .inl (cC, n_v_written_letters, .inl v_written_letters_a))]) (wc := [(h_v_theText, .inr (4, [.ref h_v_theText_letters, .int v_theText_start, .int v_theText_end])), (h_v_theText_letters, .inl (cC, n_v_theText_letters, .inl v_theText_letters_a))]) (w' := [(h_v_theText, .inr (4, [.ref h_v_theText_letters, .int v_theText_start, .int u_6.1])), (h_v_theText_letters, .inl (cC, n_v_theText_letters, .inl u_6.2))]) hP hD hS hA [1, 2] [0, 3, 4] [0, 3, 4, 1, 2] rfl rfl (by decide) (by decide) rfl (by decide) (va_runV (As := [.int u_5]) (rest := []) ⟨hx, hb, hml, hown, hw⟩ (c_Row_put l dC dI cI cC cB cJ _ h_v_theText h_v_theText_letters n_v_theText_letters u_5 v_theText_start v_theText_end v_theText_letters_a u_6 hu_6) (cwV 1 hw (zg_V wd_292 wd_280 wd_281 wd_2 wd_282) rfl rfl rfl hd_Row_put ⟨Nat.le_of_ble_eq_true rfl, Nat.le_of_ble_eq_true rfl⟩) (zz_preV zz_TE (va_recv (q0 := 1) (ci := 4) hK hP rfl rfl) hP hD hK hS hA trivial [1, 2] rfl (by decide)) rfl rfl hl.1 rfl (lv_room (Nat.le_of_ble_eq_true rfl)) d_RT_back_32 ⟨Nat.zero_le _, Nat.zero_le _⟩) (fun H locs hP hD hS => ?_)
        refine lv_iinc (k := 1) (v := y1 + 1) hx hb d_RT_back_35 hl rfl rfl (by decide) rfl (fun ls hl => ?_)
        have hl : lv_has ls 2 [(1, .int (y1 + 1)), (0, .ref h_v)] := hl
        refine lv_goto (tgt := 9) hx hb d_RT_back_38 (by decide) ?_
        exact ih (y1 + 1) v_theText_start u_6.1 u_6.2 v_written_start v_written_end ls _ _ (lv_sub hl [1, 0] rfl) hP hD hS hf
  unfold f_RT_back at hf
  refine lv_aload_n hx hb d_RT_back_0 rfl (lv_at hl 0 rfl) ?_
  refine va_get (D := (dC, dI)) (ci := 6) (v := .ref h_v_theText) (C := R_RT) (T := T_RT) (N := 9) hx hb hw in_RT hown hK hP 0 rfl rfl 0 (by decide) (hw _ wd_168) (fun _ h9 => h9) rfl d_RT_back_1 ?_
  obtain ⟨u_1, hu_1, hf⟩ := zz_bd hf
  refine zz_cv (ws' := [(h_v, .inr (6, [.ref h_v_theText, .ref h_v_written, .ref h_v_literal, .ref h_v_quotient, .ref h_v_shortest, .ref h_v_decimal, .int v_readCount, .int v_noLiteralCount, .int v_outOfRangeCount])), (h_v_theText, .inr (4, [.ref h_v_theText_letters, .int u_1.1, .int u_1.2])), (h_v_theText_letters, .inl (cC, n_v_theText_letters, .inl v_theText_letters_a)), (h_v_written, .inr (4, [.ref h_v_written_letters, .int v_written_start, .int v_written_end])), (h_v_written_letters, .inl (cC, n_v_written_letters, .inl v_written_letters_a))]) (wc := [(h_v_theText, .inr (4, [.ref h_v_theText_letters, .int v_theText_start, .int v_theText_end]))]) (w' := [(h_v_theText, .inr (4, [.ref h_v_theText_letters, .int u_1.1, .int u_1.2]))]) hP hD hS hA [1] [0, 2, 3, 4] [0, 4, 1, 2, 3] rfl rfl (by decide) (by decide) rfl (by decide) (va_runV (As := []) (rest := []) ⟨hx, hb, hml, hown, hw⟩ (c_Row_clear l dC dI cI cC cB cJ _ h_v_theText h_v_theText_letters v_theText_start v_theText_end u_1 hu_1) (cwV 0 hw (zg_V wd_221 wd_222 wd_223 wd_2 wd_224) rfl rfl rfl hd_Row_clear ⟨Nat.le_of_ble_eq_true rfl, Nat.le_of_ble_eq_true rfl⟩) (zz_preV zz_TE (va_recv (q0 := 1) (ci := 4) hK hP rfl rfl) hP hD hK hS hA trivial [1] rfl (by decide)) rfl rfl hl.1 rfl (lv_room (Nat.le_of_ble_eq_true rfl)) d_RT_back_4 ⟨Nat.zero_le _, Nat.zero_le _⟩) (fun H locs hP hD hS => ?_)
  refine lv_iconst (v := 0) hx hb d_RT_back_7 (by decide) ?_
  refine lv_istore_n hx hb d_RT_back_8 rfl hl (by decide) rfl (fun ls hl => ?_)
  have hl : lv_has ls 2 [(1, .int 0), (0, .ref h_v)] := hl
  exact hL_9 fu 0 u_1.1 u_1.2 v_theText_letters_a v_written_start v_written_end ls _ _ (lv_sub hl [1, 0] rfl) hP hD hS hf
abbrev ws_RT_text : List Cond := .code y_RT_text prog_1_method_2_code 5 (some .int) :: zw
abbrev rm_RT_text : Room := { frames := 6, cells := 1, slots := 6, locals := 90 }
theorem hd_RT_text : y_RT_text.cls = "RealText" ∧ y_RT_text.cls ≠ "java/lang/invoke/MethodHandle" ∧ y_RT_text.cls ≠ "java/lang/invoke/VarHandle" ∧ (parseMethodDescriptor y_RT_text.desc).map (fun d => d.parameters.length) = some 1 := by decide +kernel
theorem d_RT_text_0 : decode prog_1_method_2_code 0 = .ok (.lload_n 1, 1) := by decide +kernel
theorem d_RT_text_1 : decode prog_1_method_2_code 1 = .ok (.invokestatic 49, 3) := by decide +kernel
theorem d_RT_text_4 : decode prog_1_method_2_code 4 = .ok (.ifCond .ne 11, 3) := by decide +kernel
theorem d_RT_text_7 : decode prog_1_method_2_code 7 = .ok (.new 53, 3) := by decide +kernel
theorem d_RT_text_10 : decode prog_1_method_2_code 10 = .ok (.dup, 1) := by decide +kernel
theorem d_RT_text_11 : decode prog_1_method_2_code 11 = .ok (.invokespecial 55, 3) := by decide +kernel
theorem d_RT_text_14 : decode prog_1_method_2_code 14 = .ok (.athrow, 1) := by decide +kernel
theorem d_RT_text_15 : decode prog_1_method_2_code 15 = .ok (.aload_n 0, 1) := by decide +kernel
theorem d_RT_text_16 : decode prog_1_method_2_code 16 = .ok (.getfield 14, 3) := by decide +kernel
theorem d_RT_text_19 : decode prog_1_method_2_code 19 = .ok (.invokevirtual 56, 3) := by decide +kernel
theorem d_RT_text_22 : decode prog_1_method_2_code 22 = .ok (.lload_n 1, 1) := by decide +kernel
theorem d_RT_text_23 : decode prog_1_method_2_code 23 = .ok (.invokestatic 60, 3) := by decide +kernel
theorem d_RT_text_26 : decode prog_1_method_2_code 26 = .ok (.iadd, 1) := by decide +kernel
theorem d_RT_text_27 : decode prog_1_method_2_code 27 = .ok (.sipush 1200, 3) := by decide +kernel
theorem d_RT_text_30 : decode prog_1_method_2_code 30 = .ok (.if_icmp .le 11, 3) := by decide +kernel
theorem d_RT_text_33 : decode prog_1_method_2_code 33 = .ok (.new 64, 3) := by decide +kernel
theorem d_RT_text_36 : decode prog_1_method_2_code 36 = .ok (.dup, 1) := by decide +kernel
theorem d_RT_text_37 : decode prog_1_method_2_code 37 = .ok (.invokespecial 66, 3) := by decide +kernel
theorem d_RT_text_40 : decode prog_1_method_2_code 40 = .ok (.athrow, 1) := by decide +kernel
theorem d_RT_text_41 : decode prog_1_method_2_code 41 = .ok (.bipush 56, 2) := by decide +kernel
theorem d_RT_text_43 : decode prog_1_method_2_code 43 = .ok (.istore_n 3, 1) := by decide +kernel
theorem d_RT_text_44 : decode prog_1_method_2_code 44 = .ok (.iload_n 3, 1) := by decide +kernel
theorem d_RT_text_45 : decode prog_1_method_2_code 45 = .ok (.ifCond .lt 31, 3) := by decide +kernel
theorem d_RT_text_48 : decode prog_1_method_2_code 48 = .ok (.lload_n 1, 1) := by decide +kernel
theorem d_RT_text_49 : decode prog_1_method_2_code 49 = .ok (.iload_n 3, 1) := by decide +kernel
theorem d_RT_text_50 : decode prog_1_method_2_code 50 = .ok (.invokestatic 67, 3) := by decide +kernel
theorem d_RT_text_53 : decode prog_1_method_2_code 53 = .ok (.istore 4, 2) := by decide +kernel
theorem d_RT_text_55 : decode prog_1_method_2_code 55 = .ok (.iload 4, 2) := by decide +kernel
theorem d_RT_text_57 : decode prog_1_method_2_code 57 = .ok (.ifCond .eq 13, 3) := by decide +kernel
theorem d_RT_text_60 : decode prog_1_method_2_code 60 = .ok (.aload_n 0, 1) := by decide +kernel
theorem d_RT_text_61 : decode prog_1_method_2_code 61 = .ok (.getfield 14, 3) := by decide +kernel
theorem d_RT_text_64 : decode prog_1_method_2_code 64 = .ok (.iload 4, 2) := by decide +kernel
theorem d_RT_text_66 : decode prog_1_method_2_code 66 = .ok (.i2c, 1) := by decide +kernel
theorem d_RT_text_67 : decode prog_1_method_2_code 67 = .ok (.invokevirtual 71, 3) := by decide +kernel
theorem d_RT_text_70 : decode prog_1_method_2_code 70 = .ok (.iinc 3 (-8), 3) := by decide +kernel
theorem d_RT_text_73 : decode prog_1_method_2_code 73 = .ok (.goto (-29), 3) := by decide +kernel
theorem d_RT_text_76 : decode prog_1_method_2_code 76 = .ok (.aload_n 0, 1) := by decide +kernel
theorem d_RT_text_77 : decode prog_1_method_2_code 77 = .ok (.getfield 14, 3) := by decide +kernel
theorem d_RT_text_80 : decode prog_1_method_2_code 80 = .ok (.invokevirtual 56, 3) := by decide +kernel
theorem d_RT_text_83 : decode prog_1_method_2_code 83 = .ok (.ireturn, 1) := by decide +kernel
def f_RT_text_44 (fu : Nat) (n_v_theText_letters : Nat) (x1 : Int64) (v_theText_start : Int32)  : Nat → Int32 → Int32 → (Nat → Int32) → Option (Int32 × Int32 × Int32 × (Nat → Int32))
  | 0, _, _, _ => none
  | n + 1, y3, v_theText_end, v_theText_letters_a =>
  (if y3 < 0 then
  (f_Row_length v_theText_start v_theText_end).bind fun u_4 =>
  some (0, u_4, v_theText_end, v_theText_letters_a)
  else
  (f_RT_byteAt x1 y3).bind fun u_5 =>
  (if u_5 = 0 then
  f_RT_text_44 fu n_v_theText_letters x1 v_theText_start n (y3 + (-8)) v_theText_end v_theText_letters_a
  else
  (f_Row_put n_v_theText_letters ((u_5.toUInt32 % 65536).toInt32) v_theText_end v_theText_letters_a).bind fun u_6 =>
  f_RT_text_44 fu n_v_theText_letters x1 v_theText_start n (y3 + (-8)) u_6.1 u_6.2))
theorem f_RT_text_44_s (fu : Nat) (n_v_theText_letters : Nat) (x1 : Int64) (v_theText_start : Int32)  (n : Nat) (y3 : Int32) (v_theText_end : Int32) (v_theText_letters_a : Nat → Int32) : f_RT_text_44 fu n_v_theText_letters x1 v_theText_start (n + 1) y3 v_theText_end v_theText_letters_a =
  (if y3 < 0 then
  (f_Row_length v_theText_start v_theText_end).bind fun u_4 =>
  some (0, u_4, v_theText_end, v_theText_letters_a)
  else
  (f_RT_byteAt x1 y3).bind fun u_5 =>
  (if u_5 = 0 then
  f_RT_text_44 fu n_v_theText_letters x1 v_theText_start n (y3 + (-8)) v_theText_end v_theText_letters_a
  else
  (f_Row_put n_v_theText_letters ((u_5.toUInt32 % 65536).toInt32) v_theText_end v_theText_letters_a).bind fun u_6 =>
  f_RT_text_44 fu n_v_theText_letters x1 v_theText_start n (y3 + (-8)) u_6.1 u_6.2)) := rfl
def f_RT_text (fu : Nat) (n_v_theText_letters : Nat) (x1 : Int64) (v_theText_start : Int32) (v_theText_end : Int32) (v_theText_letters_a : Nat → Int32) : Option (Int32 × Int32 × Int32 × (Nat → Int32)) :=
  (f_RT_hasOnlyCharacters fu x1).bind fun u_1 =>
  (if u_1 = 0 then
  some (1, 0, v_theText_end, v_theText_letters_a)
  else
  (f_Row_length v_theText_start v_theText_end).bind fun u_2 =>
  (f_RT_charactersIn fu x1).bind fun u_3 =>
  (if (u_2 + u_3) ≤ 1200 then
  f_RT_text_44 fu n_v_theText_letters x1 v_theText_start fu 56 v_theText_end v_theText_letters_a
  else
  some (2, 0, v_theText_end, v_theText_letters_a)))
set_option maxHeartbeats 4000000 in
set_option maxRecDepth 100000 in
theorem c_RT_text (l : Launch) (htl : l.stackTraces = false) (dC : Nat → ClassId) (dI : Nat → Nat → Nat) (cI cC cB cJ : ClassId) (adF : Nat → Nat) (tp : Nat) (adK adV : Nat → Nat) (fu : Nat) (sz : Nat) (h_v : Nat) (h_v_theText : Nat) (h_v_theText_letters : Nat) (h_v_written : Nat) (h_v_literal : Nat) (h_v_quotient : Nat) (h_v_shortest : Nat) (h_v_decimal : Nat) (n_v_theText_letters : Nat) (x1 : Int64) (v_readCount : Int32) (v_noLiteralCount : Int32) (v_outOfRangeCount : Int32) (v_theText_start : Int32) (v_theText_end : Int32) (v_theText_letters_a : Nat → Int32) (u : Int32 × Int32 × Int32 × (Nat → Int32)) (hf : f_RT_text fu n_v_theText_letters x1 v_theText_start v_theText_end v_theText_letters_a = some u) : xm_Met l y_RT_text ws_RT_text rm_RT_text (zz_P (zx_E adF tp adK adV) (dC, dI) vwCl (zz_tys cI cC cB cJ) [.ref h_v, .long x1] [(h_v, .inr (6, [.ref h_v_theText, .ref h_v_written, .ref h_v_literal, .ref h_v_quotient, .ref h_v_shortest, .ref h_v_decimal, .int v_readCount, .int v_noLiteralCount, .int v_outOfRangeCount])), (h_v_theText, .inr (4, [.ref h_v_theText_letters, .int v_theText_start, .int v_theText_end])), (h_v_theText_letters, .inl (cC, n_v_theText_letters, .inl v_theText_letters_a))] sz) (zz_Qx (dC, dI) vwCl zt_nis u.1 (.int u.2.1) [(h_v, .inr (6, [.ref h_v_theText, .ref h_v_written, .ref h_v_literal, .ref h_v_quotient, .ref h_v_shortest, .ref h_v_decimal, .int v_readCount, .int v_noLiteralCount, .int v_outOfRangeCount])), (h_v_theText, .inr (4, [.ref h_v_theText_letters, .int v_theText_start, .int u.2.2.1])), (h_v_theText_letters, .inl (cC, n_v_theText_letters, .inl u.2.2.2))] (va_A [(h_v, .inr (6, [.ref h_v_theText, .ref h_v_written, .ref h_v_literal, .ref h_v_quotient, .ref h_v_shortest, .ref h_v_decimal, .int v_readCount, .int v_noLiteralCount, .int v_outOfRangeCount])), (h_v_theText, .inr (4, [.ref h_v_theText_letters, .int v_theText_start, .int v_theText_end])), (h_v_theText_letters, .inl (cC, n_v_theText_letters, .inl v_theText_letters_a))] sz)) 1 6 (va_A [(h_v, .inr (6, [.ref h_v_theText, .ref h_v_written, .ref h_v_literal, .ref h_v_quotient, .ref h_v_shortest, .ref h_v_decimal, .int v_readCount, .int v_noLiteralCount, .int v_outOfRangeCount])), (h_v_theText, .inr (4, [.ref h_v_theText_letters, .int v_theText_start, .int v_theText_end])), (h_v_theText_letters, .inl (cC, n_v_theText_letters, .inl v_theText_letters_a))] sz) := by
  refine xm_ofW (cc := prog_1_method_2_code) (maxL := 5) (ret := (some .int)) (by decide +kernel) rfl ?_
  intro p e s m args below meth c s₁ B hml hv
  obtain ⟨rfl, hsz, hP, hK, hD0, hX⟩ := hv
  have hx := B.exec
  have hb := B.bytes
  have hr := B.returns
  have hts := atoms_spec (ws := ws_RT_text) B.pre
  have hw : ∀ w ∈ zw, w.before [.ref h_v, .long x1].toArray s = true := fun w h => hts w (List.mem_cons_of_mem _ h)
  have hown : s.vm.findClass R_RT = some m.cls := findClass_of_methodNamed B.named
  have hlocks := B.notSynchronized
  subst hsz
  have hD := hD0.self (sz := s.heap.size)
  generalize hAe : va_A [(h_v, .inr (6, [.ref h_v_theText, .ref h_v_written, .ref h_v_literal, .ref h_v_quotient, .ref h_v_shortest, .ref h_v_decimal, .int v_readCount, .int v_noLiteralCount, .int v_outOfRangeCount])), (h_v_theText, .inr (4, [.ref h_v_theText_letters, .int v_theText_start, .int v_theText_end])), (h_v_theText_letters, .inl (cC, n_v_theText_letters, .inl v_theText_letters_a))] s.heap.size = A at hD hX ⊢
  have hA : ∀ q : Nat, s.heap.size ≤ q → A q := fun q h => by rw [← hAe]; exact Or.inr h
  have hS : va_S A s.heap s.heap [] := va_S.rf
  have hl := lv_entry [.ref h_v, .long x1] (n := 5) (Nat.le_of_ble_eq_true rfl)
  rw [lg_entry_eq]
  generalize (lg_sl [.ref h_v, .long x1] ++ List.replicate (5 - (lg_sl [.ref h_v, .long x1]).length) Slot.unset).toArray = ls at hl ⊢
  have hl : lv_has ls 5 [(0, .ref h_v), (1, .long x1)] := hl
  have hlc : ∀ (H : Heap) (locs : List Loc), va_S A s.heap H locs → ∀ x ∈ locs, ∀ cell, s.heap[x.base]? = some cell → cell.vm.isStatics = false := fun H locs h => by rw [← hAe] at h; exact xm_locs hP h
  refine zz_endxi hx hb hr hlocks hml (B.noHandlers (hts _ List.mem_cons_self)) htl hlc (fun Qq hend hthr => ?_)
  have hL_44 : ∀ (n : Nat), ∀ (y3 : Int32) (v_theText_end : Int32) (v_theText_letters_a : Nat → Int32) (ls : Array Slot) (H : Heap) (locs : List Loc), lv_has ls 5 [(0, .ref h_v), (1, .long x1), (3, .int y3)] → va_P (dC, dI) vwCl [(h_v, .inr (6, [.ref h_v_theText, .ref h_v_written, .ref h_v_literal, .ref h_v_quotient, .ref h_v_shortest, .ref h_v_decimal, .int v_readCount, .int v_noLiteralCount, .int v_outOfRangeCount])), (h_v_theText, .inr (4, [.ref h_v_theText_letters, .int v_theText_start, .int v_theText_end])), (h_v_theText_letters, .inl (cC, n_v_theText_letters, .inl v_theText_letters_a))] H → va_D A [(h_v, .inr (6, [.ref h_v_theText, .ref h_v_written, .ref h_v_literal, .ref h_v_quotient, .ref h_v_shortest, .ref h_v_decimal, .int v_readCount, .int v_noLiteralCount, .int v_outOfRangeCount])), (h_v_theText, .inr (4, [.ref h_v_theText_letters, .int v_theText_start, .int v_theText_end])), (h_v_theText_letters, .inl (cC, n_v_theText_letters, .inl v_theText_letters_a))] → va_S A s.heap H locs → f_RT_text_44 fu n_v_theText_letters x1 v_theText_start n y3 v_theText_end v_theText_letters_a = some u → W p l e (headSpec ws_RT_text rm_RT_text).room s m [.ref h_v, .long x1].toArray below meth c H locs 0 0 Qq (F0 m 44 ls []) := by
    intro n
    induction n with
    | zero =>
      intro y3 v_theText_end v_theText_letters_a ls H locs hl hP hD hS hf
      exact zz_no hf
    | succ n ih =>
      intro y3 v_theText_end v_theText_letters_a ls H locs hl hP hD hS hf
      rw [f_RT_text_44_s] at hf
      refine lv_iload_n hx hb d_RT_text_44 rfl (lv_at hl 2 rfl) ?_
      refine lv_if_lt (tgt := 76) hx hb d_RT_text_45 (by decide) (fun hc => ?_) (fun hc => ?_)
      · have hf := zz_ifp hc hf
        refine lv_aload_n hx hb d_RT_text_76 rfl (lv_at hl 0 rfl) ?_
        refine va_get (D := (dC, dI)) (ci := 6) (v := .ref h_v_theText) (C := R_RT) (T := T_RT) (N := 9) hx hb hw in_RT hown hK hP 0 rfl rfl 0 (by decide) (hw _ wd_168) (fun _ h9 => h9) rfl d_RT_text_77 ?_
        obtain ⟨u_4, hu_4, hf⟩ := zz_bd hf
        refine zz_ci (ws' := [(h_v, .inr (6, [.ref h_v_theText, .ref h_v_written, .ref h_v_literal, .ref h_v_quotient, .ref h_v_shortest, .ref h_v_decimal, .int v_readCount, .int v_noLiteralCount, .int v_outOfRangeCount])), (h_v_theText, .inr (4, [.ref h_v_theText_letters, .int v_theText_start, .int v_theText_end])), (h_v_theText_letters, .inl (cC, n_v_theText_letters, .inl v_theText_letters_a))]) (wc := [(h_v_theText, .inr (4, [.ref h_v_theText_letters, .int v_theText_start, .int v_theText_end]))]) (w' := [(h_v_theText, .inr (4, [.ref h_v_theText_letters, .int v_theText_start, .int v_theText_end]))]) hP hD hS hA [1] [0, 2] [0, 2, 1] rfl rfl (by decide) (by decide) rfl (by decide) (va_runV (As := []) (rest := []) ⟨hx, hb, hml, hown, hw⟩ (c_Row_length l dC dI cI cC cB cJ _ h_v_theText h_v_theText_letters v_theText_start v_theText_end u_4 hu_4) (cwV 0 hw (zg_V wd_283 wd_284 wd_285 wd_2 wd_286) rfl rfl rfl hd_Row_length ⟨Nat.le_of_ble_eq_true rfl, Nat.le_of_ble_eq_true rfl⟩) (zz_preV zz_TE (va_recv (q0 := 1) (ci := 4) hK hP rfl rfl) hP hD hK hS hA trivial [1] rfl (by decide)) rfl rfl hl.1 rfl (lv_room (Nat.le_of_ble_eq_true rfl)) d_RT_text_80 ⟨Nat.zero_le _, Nat.zero_le _⟩) (fun H locs hP hD hS => ?_)
        cases hf
        exact hend 83 ls _ _ rfl d_RT_text_83 hP hD hS
      · have hf := zz_ifn hc hf
        refine lv_lload_n hx hb d_RT_text_48 rfl (lv_at hl 1 rfl) ?_
        refine lv_iload_n hx hb d_RT_text_49 rfl (lv_at hl 2 rfl) ?_
        obtain ⟨u_5, hu_5, hf⟩ := zz_bd hf
        refine zz_ci (ws' := [(h_v, .inr (6, [.ref h_v_theText, .ref h_v_written, .ref h_v_literal, .ref h_v_quotient, .ref h_v_shortest, .ref h_v_decimal, .int v_readCount, .int v_noLiteralCount, .int v_outOfRangeCount])), (h_v_theText, .inr (4, [.ref h_v_theText_letters, .int v_theText_start, .int v_theText_end])), (h_v_theText_letters, .inl (cC, n_v_theText_letters, .inl v_theText_letters_a))]) (wc := []) (w' := []) hP hD hS hA [] [0, 1, 2] [0, 1, 2] rfl rfl (by decide) (by decide) rfl (by decide) (va_runS (As := [.long x1, .int y3]) (rest := []) ⟨hx, hb, hml, hown, hw⟩ (c_RT_byteAt l dC dI cI cC cB cJ _ x1 y3 u_5 hu_5) (va_cwS 2 hw (zg_S wd_468 wd_469 wd_1 wd_470) rfl rfl rfl hd_RT_byteAt ⟨Nat.le_of_ble_eq_true rfl, Nat.le_of_ble_eq_true rfl⟩) (zz_preS zz_TE hP hD hK hS hA trivial [] rfl (by decide)) rfl rfl hl.1 rfl (lv_room (Nat.le_of_ble_eq_true rfl)) d_RT_text_50 ⟨Nat.zero_le _, Nat.zero_le _⟩) (fun H locs hP hD hS => ?_)
        refine lv_istore hx hb d_RT_text_53 hl (by decide) rfl (fun ls hl => ?_)
        have hl : lv_has ls 5 [(4, .int u_5), (0, .ref h_v), (1, .long x1), (3, .int y3)] := hl
        refine lv_iload hx hb d_RT_text_55 (lv_at hl 0 rfl) ?_
        refine lv_if_eq (tgt := 70) hx hb d_RT_text_57 (by decide) (fun hc => ?_) (fun hc => ?_)
        · have hf := zz_ifp hc hf
          refine lv_iinc (k := 3) (v := y3 + (-8)) hx hb d_RT_text_70 hl rfl rfl (by decide) rfl (fun ls hl => ?_)
          have hl : lv_has ls 5 [(3, .int (y3 + (-8))), (4, .int u_5), (0, .ref h_v), (1, .long x1)] := hl
          refine lv_goto (tgt := 44) hx hb d_RT_text_73 (by decide) ?_
          exact ih (y3 + (-8)) v_theText_end v_theText_letters_a ls _ _ (lv_sub hl [2, 3, 0] rfl) hP hD hS hf
        · have hf := zz_ifn hc hf
          refine lv_aload_n hx hb d_RT_text_60 rfl (lv_at hl 1 rfl) ?_
          refine va_get (D := (dC, dI)) (ci := 6) (v := .ref h_v_theText) (C := R_RT) (T := T_RT) (N := 9) hx hb hw in_RT hown hK hP 0 rfl rfl 0 (by decide) (hw _ wd_168) (fun _ h9 => h9) rfl d_RT_text_61 ?_
          refine lv_iload hx hb d_RT_text_64 (lv_at hl 0 rfl) ?_
          refine lv_i2c hx hb d_RT_text_66 rfl ?_
          obtain ⟨u_6, hu_6, hf⟩ := zz_bd hf
          refine zz_cv (ws' := [(h_v, .inr (6, [.ref h_v_theText, .ref h_v_written, .ref h_v_literal, .ref h_v_quotient, .ref h_v_shortest, .ref h_v_decimal, .int v_readCount, .int v_noLiteralCount, .int v_outOfRangeCount])), (h_v_theText, .inr (4, [.ref h_v_theText_letters, .int v_theText_start, .int u_6.1])), (h_v_theText_letters, .inl (cC, n_v_theText_letters, .inl u_6.2))]) (wc := [(h_v_theText, .inr (4, [.ref h_v_theText_letters, .int v_theText_start, .int v_theText_end])), (h_v_theText_letters, .inl (cC, n_v_theText_letters, .inl v_theText_letters_a))]) (w' := [(h_v_theText, .inr (4, [.ref h_v_theText_letters, .int v_theText_start, .int u_6.1])), (h_v_theText_letters, .inl (cC, n_v_theText_letters, .inl u_6.2))]) hP hD hS hA [1, 2] [0] [0, 1, 2] rfl rfl (by decide) (by decide) rfl (by decide) (va_runV (As := [.int ((u_5.toUInt32 % 65536).toInt32)]) (rest := []) ⟨hx, hb, hml, hown, hw⟩ (c_Row_put l dC dI cI cC cB cJ _ h_v_theText h_v_theText_letters n_v_theText_letters ((u_5.toUInt32 % 65536).toInt32) v_theText_start v_theText_end v_theText_letters_a u_6 hu_6) (cwV 1 hw (zg_V wd_292 wd_280 wd_281 wd_2 wd_282) rfl rfl rfl hd_Row_put ⟨Nat.le_of_ble_eq_true rfl, Nat.le_of_ble_eq_true rfl⟩) (zz_preV zz_TE (va_recv (q0 := 1) (ci := 4) hK hP rfl rfl) hP hD hK hS hA trivial [1, 2] rfl (by decide)) rfl rfl hl.1 rfl (lv_room (Nat.le_of_ble_eq_true rfl)) d_RT_text_67 ⟨Nat.zero_le _, Nat.zero_le _⟩) (fun H locs hP hD hS => ?_)
          refine lv_iinc (k := 3) (v := y3 + (-8)) hx hb d_RT_text_70 hl rfl rfl (by decide) rfl (fun ls hl => ?_)
          have hl : lv_has ls 5 [(3, .int (y3 + (-8))), (4, .int u_5), (0, .ref h_v), (1, .long x1)] := hl
          refine lv_goto (tgt := 44) hx hb d_RT_text_73 (by decide) ?_
          exact ih (y3 + (-8)) u_6.1 u_6.2 ls _ _ (lv_sub hl [2, 3, 0] rfl) hP hD hS hf
  unfold f_RT_text at hf
  refine lv_lload_n hx hb d_RT_text_0 rfl (lv_at hl 1 rfl) ?_
  obtain ⟨u_1, hu_1, hf⟩ := zz_bd hf
  refine zz_ci (ws' := [(h_v, .inr (6, [.ref h_v_theText, .ref h_v_written, .ref h_v_literal, .ref h_v_quotient, .ref h_v_shortest, .ref h_v_decimal, .int v_readCount, .int v_noLiteralCount, .int v_outOfRangeCount])), (h_v_theText, .inr (4, [.ref h_v_theText_letters, .int v_theText_start, .int v_theText_end])), (h_v_theText_letters, .inl (cC, n_v_theText_letters, .inl v_theText_letters_a))]) (wc := []) (w' := []) hP hD hS hA [] [0, 1, 2] [0, 1, 2] rfl rfl (by decide) (by decide) rfl (by decide) (va_runS (As := [.long x1]) (rest := []) ⟨hx, hb, hml, hown, hw⟩ (c_RT_hasOnlyCharacters l dC dI cI cC cB cJ fu _ x1 u_1 hu_1) (va_cwS 1 hw (zg_S wd_465 wd_466 wd_1 wd_467) rfl rfl rfl hd_RT_hasOnlyCharacters ⟨Nat.le_of_ble_eq_true rfl, Nat.le_of_ble_eq_true rfl⟩) (zz_preS zz_TE hP hD hK hS hA trivial [] rfl (by decide)) rfl rfl hl.1 rfl (lv_room (Nat.le_of_ble_eq_true rfl)) d_RT_text_1 ⟨Nat.zero_le _, Nat.zero_le _⟩) (fun H locs hP hD hS => ?_)
  refine lv_if_ne (tgt := 15) hx hb d_RT_text_4 (by decide) (fun hc => ?_) (fun hc => ?_)
  · have hf := zz_ifn hc hf
    refine lv_aload_n hx hb d_RT_text_15 rfl (lv_at hl 0 rfl) ?_
    refine va_get (D := (dC, dI)) (ci := 6) (v := .ref h_v_theText) (C := R_RT) (T := T_RT) (N := 9) hx hb hw in_RT hown hK hP 0 rfl rfl 0 (by decide) (hw _ wd_168) (fun _ h9 => h9) rfl d_RT_text_16 ?_
    obtain ⟨u_2, hu_2, hf⟩ := zz_bd hf
    refine zz_ci (ws' := [(h_v, .inr (6, [.ref h_v_theText, .ref h_v_written, .ref h_v_literal, .ref h_v_quotient, .ref h_v_shortest, .ref h_v_decimal, .int v_readCount, .int v_noLiteralCount, .int v_outOfRangeCount])), (h_v_theText, .inr (4, [.ref h_v_theText_letters, .int v_theText_start, .int v_theText_end])), (h_v_theText_letters, .inl (cC, n_v_theText_letters, .inl v_theText_letters_a))]) (wc := [(h_v_theText, .inr (4, [.ref h_v_theText_letters, .int v_theText_start, .int v_theText_end]))]) (w' := [(h_v_theText, .inr (4, [.ref h_v_theText_letters, .int v_theText_start, .int v_theText_end]))]) hP hD hS hA [1] [0, 2] [0, 2, 1] rfl rfl (by decide) (by decide) rfl (by decide) (va_runV (As := []) (rest := []) ⟨hx, hb, hml, hown, hw⟩ (c_Row_length l dC dI cI cC cB cJ _ h_v_theText h_v_theText_letters v_theText_start v_theText_end u_2 hu_2) (cwV 0 hw (zg_V wd_283 wd_284 wd_285 wd_2 wd_286) rfl rfl rfl hd_Row_length ⟨Nat.le_of_ble_eq_true rfl, Nat.le_of_ble_eq_true rfl⟩) (zz_preV zz_TE (va_recv (q0 := 1) (ci := 4) hK hP rfl rfl) hP hD hK hS hA trivial [1] rfl (by decide)) rfl rfl hl.1 rfl (lv_room (Nat.le_of_ble_eq_true rfl)) d_RT_text_19 ⟨Nat.zero_le _, Nat.zero_le _⟩) (fun H locs hP hD hS => ?_)
    refine lv_lload_n hx hb d_RT_text_22 rfl (lv_at hl 1 rfl) ?_
    obtain ⟨u_3, hu_3, hf⟩ := zz_bd hf
    refine zz_ci (ws' := [(h_v, .inr (6, [.ref h_v_theText, .ref h_v_written, .ref h_v_literal, .ref h_v_quotient, .ref h_v_shortest, .ref h_v_decimal, .int v_readCount, .int v_noLiteralCount, .int v_outOfRangeCount])), (h_v_theText, .inr (4, [.ref h_v_theText_letters, .int v_theText_start, .int v_theText_end])), (h_v_theText_letters, .inl (cC, n_v_theText_letters, .inl v_theText_letters_a))]) (wc := []) (w' := []) hP hD hS hA [] [0, 1, 2] [0, 1, 2] rfl rfl (by decide) (by decide) rfl (by decide) (va_runS (As := [.long x1]) (rest := [.int u_2]) ⟨hx, hb, hml, hown, hw⟩ (c_RT_charactersIn l dC dI cI cC cB cJ fu _ x1 u_3 hu_3) (va_cwS 1 hw (zg_S wd_534 wd_535 wd_1 wd_536) rfl rfl rfl hd_RT_charactersIn ⟨Nat.le_of_ble_eq_true rfl, Nat.le_of_ble_eq_true rfl⟩) (zz_preS zz_TE hP hD hK hS hA trivial [] rfl (by decide)) rfl rfl hl.1 rfl (lv_room (Nat.le_of_ble_eq_true rfl)) d_RT_text_23 ⟨Nat.zero_le _, Nat.zero_le _⟩) (fun H locs hP hD hS => ?_)
    refine lv_iadd hx hb d_RT_text_26 ?_
    refine lv_sipush (v := 1200) hx hb d_RT_text_27 (by decide) ?_
    refine lv_icmp_le (tgt := 41) hx hb d_RT_text_30 (by decide) (fun hc => ?_) (fun hc => ?_)
    · have hf := zz_ifp hc hf
      refine lv_bipush (v := 56) hx hb d_RT_text_41 (by decide) ?_
      refine lv_istore_n hx hb d_RT_text_43 rfl hl (by decide) rfl (fun ls hl => ?_)
      have hl : lv_has ls 5 [(3, .int 56), (0, .ref h_v), (1, .long x1)] := hl
      exact hL_44 fu 56 v_theText_end v_theText_letters_a ls _ _ (lv_sub hl [1, 2, 0] rfl) hP hD hS hf
    · have hf := zz_ifn hc hf
      cases hf
      exact hthr 33 ls _ _ "RealText" "java/lang/IllegalStateException" ["java/lang/RuntimeException", "java/lang/Exception"] 66 64 hl.1 zt_n20 (if_neg zt_n21) hown (by decide +kernel) (by decide +kernel) (zt_is hw hX) (hw _ wd_537) (hw _ wd_13) d_RT_text_33 d_RT_text_36 d_RT_text_37 d_RT_text_40 (Nat.le_of_ble_eq_true rfl) (Nat.le_of_ble_eq_true rfl) (Nat.le_of_ble_eq_true rfl) (Nat.le_of_ble_eq_true rfl) hP hD hS
  · have hf := zz_ifp hc hf
    cases hf
    exact hthr 7 ls _ _ "RealText" "java/lang/IllegalArgumentException" ["java/lang/RuntimeException", "java/lang/Exception"] 55 53 hl.1 zt_n10 (if_pos rfl) hown (by decide +kernel) (by decide +kernel) (zt_ia hw hX) (hw _ wd_471) (hw _ wd_12) d_RT_text_7 d_RT_text_10 d_RT_text_11 d_RT_text_14 (Nat.le_of_ble_eq_true rfl) (Nat.le_of_ble_eq_true rfl) (Nat.le_of_ble_eq_true rfl) (Nat.le_of_ble_eq_true rfl) hP hD hS
abbrev ws_RT_read : List Cond := .code y_RT_read prog_1_method_3_code 4 (some .long) :: zw
abbrev rm_RT_read : Room := { frames := 6, cells := 1, slots := 6, locals := 139 }
theorem hd_RT_read : y_RT_read.cls = "RealText" ∧ y_RT_read.cls ≠ "java/lang/invoke/MethodHandle" ∧ y_RT_read.cls ≠ "java/lang/invoke/VarHandle" ∧ (parseMethodDescriptor y_RT_read.desc).map (fun d => d.parameters.length) = some 1 := by decide +kernel
theorem d_RT_read_0 : decode prog_1_method_3_code 0 = .ok (.aload_n 0, 1) := by decide +kernel
theorem d_RT_read_1 : decode prog_1_method_3_code 1 = .ok (.iload_n 1, 1) := by decide +kernel
theorem d_RT_read_2 : decode prog_1_method_3_code 2 = .ok (.ifCond .eq 9, 3) := by decide +kernel
theorem d_RT_read_5 : decode prog_1_method_3_code 5 = .ok (.getstatic 75, 3) := by decide +kernel
theorem d_RT_read_8 : decode prog_1_method_3_code 8 = .ok (.goto 6, 3) := by decide +kernel
theorem d_RT_read_11 : decode prog_1_method_3_code 11 = .ok (.getstatic 81, 3) := by decide +kernel
theorem d_RT_read_14 : decode prog_1_method_3_code 14 = .ok (.invokevirtual 84, 3) := by decide +kernel
theorem d_RT_read_17 : decode prog_1_method_3_code 17 = .ok (.lstore_n 2, 1) := by decide +kernel
theorem d_RT_read_18 : decode prog_1_method_3_code 18 = .ok (.aload_n 0, 1) := by decide +kernel
theorem d_RT_read_19 : decode prog_1_method_3_code 19 = .ok (.getfield 14, 3) := by decide +kernel
theorem d_RT_read_22 : decode prog_1_method_3_code 22 = .ok (.invokevirtual 88, 3) := by decide +kernel
theorem d_RT_read_25 : decode prog_1_method_3_code 25 = .ok (.lload_n 2, 1) := by decide +kernel
theorem d_RT_read_26 : decode prog_1_method_3_code 26 = .ok (.ldc2_w 91, 3) := by decide +kernel
theorem d_RT_read_29 : decode prog_1_method_3_code 29 = .ok (.lcmp, 1) := by decide +kernel
theorem d_RT_read_30 : decode prog_1_method_3_code 30 = .ok (.ifCond .ne 21, 3) := by decide +kernel
theorem d_RT_read_33 : decode prog_1_method_3_code 33 = .ok (.aload_n 0, 1) := by decide +kernel
theorem d_RT_read_34 : decode prog_1_method_3_code 34 = .ok (.dup, 1) := by decide +kernel
theorem d_RT_read_35 : decode prog_1_method_3_code 35 = .ok (.getfield 93, 3) := by decide +kernel
theorem d_RT_read_38 : decode prog_1_method_3_code 38 = .ok (.iconst 1, 1) := by decide +kernel
theorem d_RT_read_39 : decode prog_1_method_3_code 39 = .ok (.iadd, 1) := by decide +kernel
theorem d_RT_read_40 : decode prog_1_method_3_code 40 = .ok (.putfield 93, 3) := by decide +kernel
theorem d_RT_read_43 : decode prog_1_method_3_code 43 = .ok (.new 53, 3) := by decide +kernel
theorem d_RT_read_46 : decode prog_1_method_3_code 46 = .ok (.dup, 1) := by decide +kernel
theorem d_RT_read_47 : decode prog_1_method_3_code 47 = .ok (.invokespecial 55, 3) := by decide +kernel
theorem d_RT_read_50 : decode prog_1_method_3_code 50 = .ok (.athrow, 1) := by decide +kernel
theorem d_RT_read_51 : decode prog_1_method_3_code 51 = .ok (.lload_n 2, 1) := by decide +kernel
theorem d_RT_read_52 : decode prog_1_method_3_code 52 = .ok (.ldc2_w 97, 3) := by decide +kernel
theorem d_RT_read_55 : decode prog_1_method_3_code 55 = .ok (.lcmp, 1) := by decide +kernel
theorem d_RT_read_56 : decode prog_1_method_3_code 56 = .ok (.ifCond .ne 21, 3) := by decide +kernel
theorem d_RT_read_59 : decode prog_1_method_3_code 59 = .ok (.aload_n 0, 1) := by decide +kernel
theorem d_RT_read_60 : decode prog_1_method_3_code 60 = .ok (.dup, 1) := by decide +kernel
theorem d_RT_read_61 : decode prog_1_method_3_code 61 = .ok (.getfield 99, 3) := by decide +kernel
theorem d_RT_read_64 : decode prog_1_method_3_code 64 = .ok (.iconst 1, 1) := by decide +kernel
theorem d_RT_read_65 : decode prog_1_method_3_code 65 = .ok (.iadd, 1) := by decide +kernel
theorem d_RT_read_66 : decode prog_1_method_3_code 66 = .ok (.putfield 99, 3) := by decide +kernel
theorem d_RT_read_69 : decode prog_1_method_3_code 69 = .ok (.new 102, 3) := by decide +kernel
theorem d_RT_read_72 : decode prog_1_method_3_code 72 = .ok (.dup, 1) := by decide +kernel
theorem d_RT_read_73 : decode prog_1_method_3_code 73 = .ok (.invokespecial 104, 3) := by decide +kernel
theorem d_RT_read_76 : decode prog_1_method_3_code 76 = .ok (.athrow, 1) := by decide +kernel
theorem d_RT_read_77 : decode prog_1_method_3_code 77 = .ok (.aload_n 0, 1) := by decide +kernel
theorem d_RT_read_78 : decode prog_1_method_3_code 78 = .ok (.dup, 1) := by decide +kernel
theorem d_RT_read_79 : decode prog_1_method_3_code 79 = .ok (.getfield 105, 3) := by decide +kernel
theorem d_RT_read_82 : decode prog_1_method_3_code 82 = .ok (.iconst 1, 1) := by decide +kernel
theorem d_RT_read_83 : decode prog_1_method_3_code 83 = .ok (.iadd, 1) := by decide +kernel
theorem d_RT_read_84 : decode prog_1_method_3_code 84 = .ok (.putfield 105, 3) := by decide +kernel
theorem d_RT_read_87 : decode prog_1_method_3_code 87 = .ok (.lload_n 2, 1) := by decide +kernel
theorem d_RT_read_88 : decode prog_1_method_3_code 88 = .ok (.lreturn, 1) := by decide +kernel
def f_RT_read_14 (fu : Nat) (n_v_theText_letters : Nat) (n_v_literal_digits : Nat) (n_v_quotient_numerator_limbs : Nat) (n_v_quotient_denominator_limbs : Nat) (x1 : Int32) (v_theText_letters_a : Nat → Int32)  (k1 : Nat) (v_readCount : Int32) (v_noLiteralCount : Int32) (v_outOfRangeCount : Int32) (v_theText_start : Int32) (v_theText_end : Int32) (v_literal_digitCount : Int32) (v_literal_fraction : Int32) (v_literal_exponent : Int32) (v_literal_isHex : Int32) (v_literal_digits_a : Nat → Int32) (v_quotient_lead : Int64) (v_quotient_power : Int32) (v_quotient_more : Int32) (v_quotient_numerator_size : Int32) (v_quotient_numerator_limbs_a : Nat → Int32) (v_quotient_denominator_size : Int32) (v_quotient_denominator_limbs_a : Nat → Int32) : Option (Int32 × Int64 × Int32 × Int32 × Int32 × Int32 × Int32 × Int32 × Int32 × Int32 × Int32 × (Nat → Int32) × Int64 × Int32 × Int32 × Int32 × (Nat → Int32) × Int32 × (Nat → Int32)) :=
  (f_RT_bitsOfText fu n_v_theText_letters n_v_literal_digits n_v_quotient_numerator_limbs n_v_quotient_denominator_limbs k1 v_theText_start v_theText_end v_theText_letters_a v_literal_digitCount v_literal_fraction v_literal_exponent v_literal_isHex v_literal_digits_a v_quotient_lead v_quotient_power v_quotient_more v_quotient_numerator_size v_quotient_numerator_limbs_a v_quotient_denominator_size v_quotient_denominator_limbs_a).bind fun u_1 =>
  (f_Row_clear v_theText_start v_theText_end).bind fun u_2 =>
  (if (lg_cmp u_1.1 (-1)) = 0 then
  some (1, 0, v_readCount, v_noLiteralCount + 1, v_outOfRangeCount, u_2.1, u_2.2, u_1.2.1, u_1.2.2.1, u_1.2.2.2.1, u_1.2.2.2.2.1, u_1.2.2.2.2.2.1, u_1.2.2.2.2.2.2.1, u_1.2.2.2.2.2.2.2.1, u_1.2.2.2.2.2.2.2.2.1, u_1.2.2.2.2.2.2.2.2.2.1, u_1.2.2.2.2.2.2.2.2.2.2.1, u_1.2.2.2.2.2.2.2.2.2.2.2.1, u_1.2.2.2.2.2.2.2.2.2.2.2.2)
  else
  (if (lg_cmp u_1.1 (-2)) = 0 then
  some (2, 0, v_readCount, v_noLiteralCount, v_outOfRangeCount + 1, u_2.1, u_2.2, u_1.2.1, u_1.2.2.1, u_1.2.2.2.1, u_1.2.2.2.2.1, u_1.2.2.2.2.2.1, u_1.2.2.2.2.2.2.1, u_1.2.2.2.2.2.2.2.1, u_1.2.2.2.2.2.2.2.2.1, u_1.2.2.2.2.2.2.2.2.2.1, u_1.2.2.2.2.2.2.2.2.2.2.1, u_1.2.2.2.2.2.2.2.2.2.2.2.1, u_1.2.2.2.2.2.2.2.2.2.2.2.2)
  else
  some (0, u_1.1, v_readCount + 1, v_noLiteralCount, v_outOfRangeCount, u_2.1, u_2.2, u_1.2.1, u_1.2.2.1, u_1.2.2.2.1, u_1.2.2.2.2.1, u_1.2.2.2.2.2.1, u_1.2.2.2.2.2.2.1, u_1.2.2.2.2.2.2.2.1, u_1.2.2.2.2.2.2.2.2.1, u_1.2.2.2.2.2.2.2.2.2.1, u_1.2.2.2.2.2.2.2.2.2.2.1, u_1.2.2.2.2.2.2.2.2.2.2.2.1, u_1.2.2.2.2.2.2.2.2.2.2.2.2)))
def f_RT_read (fu : Nat) (n_v_theText_letters : Nat) (n_v_literal_digits : Nat) (n_v_quotient_numerator_limbs : Nat) (n_v_quotient_denominator_limbs : Nat) (x1 : Int32) (v_readCount : Int32) (v_noLiteralCount : Int32) (v_outOfRangeCount : Int32) (v_theText_start : Int32) (v_theText_end : Int32) (v_theText_letters_a : Nat → Int32) (v_literal_digitCount : Int32) (v_literal_fraction : Int32) (v_literal_exponent : Int32) (v_literal_isHex : Int32) (v_literal_digits_a : Nat → Int32) (v_quotient_lead : Int64) (v_quotient_power : Int32) (v_quotient_more : Int32) (v_quotient_numerator_size : Int32) (v_quotient_numerator_limbs_a : Nat → Int32) (v_quotient_denominator_size : Int32) (v_quotient_denominator_limbs_a : Nat → Int32) : Option (Int32 × Int64 × Int32 × Int32 × Int32 × Int32 × Int32 × Int32 × Int32 × Int32 × Int32 × (Nat → Int32) × Int64 × Int32 × Int32 × Int32 × (Nat → Int32) × Int32 × (Nat → Int32)) :=
  (if x1 = 0 then
  f_RT_read_14 fu n_v_theText_letters n_v_literal_digits n_v_quotient_numerator_limbs n_v_quotient_denominator_limbs x1 v_theText_letters_a 1 v_readCount v_noLiteralCount v_outOfRangeCount v_theText_start v_theText_end v_literal_digitCount v_literal_fraction v_literal_exponent v_literal_isHex v_literal_digits_a v_quotient_lead v_quotient_power v_quotient_more v_quotient_numerator_size v_quotient_numerator_limbs_a v_quotient_denominator_size v_quotient_denominator_limbs_a
  else
  f_RT_read_14 fu n_v_theText_letters n_v_literal_digits n_v_quotient_numerator_limbs n_v_quotient_denominator_limbs x1 v_theText_letters_a 0 v_readCount v_noLiteralCount v_outOfRangeCount v_theText_start v_theText_end v_literal_digitCount v_literal_fraction v_literal_exponent v_literal_isHex v_literal_digits_a v_quotient_lead v_quotient_power v_quotient_more v_quotient_numerator_size v_quotient_numerator_limbs_a v_quotient_denominator_size v_quotient_denominator_limbs_a)
set_option maxHeartbeats 4000000 in
set_option maxRecDepth 100000 in
theorem c_RT_read (l : Launch) (htl : l.stackTraces = false) (dC : Nat → ClassId) (dI : Nat → Nat → Nat) (cI cC cB cJ : ClassId) (adF : Nat → Nat) (tp : Nat) (adK adV : Nat → Nat) (fu : Nat) (sz : Nat) (h_v : Nat) (h_v_theText : Nat) (h_v_theText_letters : Nat) (h_v_literal : Nat) (h_v_literal_digits : Nat) (h_v_quotient : Nat) (h_v_quotient_numerator : Nat) (h_v_quotient_numerator_limbs : Nat) (h_v_quotient_denominator : Nat) (h_v_quotient_denominator_limbs : Nat) (h_v_written : Nat) (h_v_shortest : Nat) (h_v_decimal : Nat) (n_v_theText_letters : Nat) (n_v_literal_digits : Nat) (n_v_quotient_numerator_limbs : Nat) (n_v_quotient_denominator_limbs : Nat) (x1 : Int32) (v_readCount : Int32) (v_noLiteralCount : Int32) (v_outOfRangeCount : Int32) (v_theText_start : Int32) (v_theText_end : Int32) (v_theText_letters_a : Nat → Int32) (v_literal_digitCount : Int32) (v_literal_fraction : Int32) (v_literal_exponent : Int32) (v_literal_isHex : Int32) (v_literal_digits_a : Nat → Int32) (v_quotient_lead : Int64) (v_quotient_power : Int32) (v_quotient_more : Int32) (v_quotient_numerator_size : Int32) (v_quotient_numerator_limbs_a : Nat → Int32) (v_quotient_denominator_size : Int32) (v_quotient_denominator_limbs_a : Nat → Int32) (u : Int32 × Int64 × Int32 × Int32 × Int32 × Int32 × Int32 × Int32 × Int32 × Int32 × Int32 × (Nat → Int32) × Int64 × Int32 × Int32 × Int32 × (Nat → Int32) × Int32 × (Nat → Int32)) (hf : f_RT_read fu n_v_theText_letters n_v_literal_digits n_v_quotient_numerator_limbs n_v_quotient_denominator_limbs x1 v_readCount v_noLiteralCount v_outOfRangeCount v_theText_start v_theText_end v_theText_letters_a v_literal_digitCount v_literal_fraction v_literal_exponent v_literal_isHex v_literal_digits_a v_quotient_lead v_quotient_power v_quotient_more v_quotient_numerator_size v_quotient_numerator_limbs_a v_quotient_denominator_size v_quotient_denominator_limbs_a = some u) : xm_Met l y_RT_read ws_RT_read rm_RT_read (zz_P (zx_E adF tp adK adV) (dC, dI) vwCl (zz_tys cI cC cB cJ) [.ref h_v, .int x1] [(h_v, .inr (6, [.ref h_v_theText, .ref h_v_written, .ref h_v_literal, .ref h_v_quotient, .ref h_v_shortest, .ref h_v_decimal, .int v_readCount, .int v_noLiteralCount, .int v_outOfRangeCount])), (h_v_theText, .inr (4, [.ref h_v_theText_letters, .int v_theText_start, .int v_theText_end])), (h_v_theText_letters, .inl (cC, n_v_theText_letters, .inl v_theText_letters_a)), (h_v_literal, .inr (2, [.ref h_v_literal_digits, .int v_literal_digitCount, .int v_literal_fraction, .int v_literal_exponent, .int v_literal_isHex])), (h_v_literal_digits, .inl (cB, n_v_literal_digits, .inl v_literal_digits_a)), (h_v_quotient, .inr (3, [.ref h_v_quotient_numerator, .ref h_v_quotient_denominator, .long v_quotient_lead, .int v_quotient_power, .int v_quotient_more])), (h_v_quotient_numerator, .inr (0, [.ref h_v_quotient_numerator_limbs, .int v_quotient_numerator_size])), (h_v_quotient_numerator_limbs, .inl (cI, n_v_quotient_numerator_limbs, .inl v_quotient_numerator_limbs_a)), (h_v_quotient_denominator, .inr (0, [.ref h_v_quotient_denominator_limbs, .int v_quotient_denominator_size])), (h_v_quotient_denominator_limbs, .inl (cI, n_v_quotient_denominator_limbs, .inl v_quotient_denominator_limbs_a))] sz) (zz_Qx (dC, dI) vwCl zt_nar u.1 (.long u.2.1) [(h_v, .inr (6, [.ref h_v_theText, .ref h_v_written, .ref h_v_literal, .ref h_v_quotient, .ref h_v_shortest, .ref h_v_decimal, .int u.2.2.1, .int u.2.2.2.1, .int u.2.2.2.2.1])), (h_v_theText, .inr (4, [.ref h_v_theText_letters, .int u.2.2.2.2.2.1, .int u.2.2.2.2.2.2.1])), (h_v_theText_letters, .inl (cC, n_v_theText_letters, .inl v_theText_letters_a)), (h_v_literal, .inr (2, [.ref h_v_literal_digits, .int u.2.2.2.2.2.2.2.1, .int u.2.2.2.2.2.2.2.2.1, .int u.2.2.2.2.2.2.2.2.2.1, .int u.2.2.2.2.2.2.2.2.2.2.1])), (h_v_literal_digits, .inl (cB, n_v_literal_digits, .inl u.2.2.2.2.2.2.2.2.2.2.2.1)), (h_v_quotient, .inr (3, [.ref h_v_quotient_numerator, .ref h_v_quotient_denominator, .long u.2.2.2.2.2.2.2.2.2.2.2.2.1, .int u.2.2.2.2.2.2.2.2.2.2.2.2.2.1, .int u.2.2.2.2.2.2.2.2.2.2.2.2.2.2.1])), (h_v_quotient_numerator, .inr (0, [.ref h_v_quotient_numerator_limbs, .int u.2.2.2.2.2.2.2.2.2.2.2.2.2.2.2.1])), (h_v_quotient_numerator_limbs, .inl (cI, n_v_quotient_numerator_limbs, .inl u.2.2.2.2.2.2.2.2.2.2.2.2.2.2.2.2.1)), (h_v_quotient_denominator, .inr (0, [.ref h_v_quotient_denominator_limbs, .int u.2.2.2.2.2.2.2.2.2.2.2.2.2.2.2.2.2.1])), (h_v_quotient_denominator_limbs, .inl (cI, n_v_quotient_denominator_limbs, .inl u.2.2.2.2.2.2.2.2.2.2.2.2.2.2.2.2.2.2))] (va_A [(h_v, .inr (6, [.ref h_v_theText, .ref h_v_written, .ref h_v_literal, .ref h_v_quotient, .ref h_v_shortest, .ref h_v_decimal, .int v_readCount, .int v_noLiteralCount, .int v_outOfRangeCount])), (h_v_theText, .inr (4, [.ref h_v_theText_letters, .int v_theText_start, .int v_theText_end])), (h_v_theText_letters, .inl (cC, n_v_theText_letters, .inl v_theText_letters_a)), (h_v_literal, .inr (2, [.ref h_v_literal_digits, .int v_literal_digitCount, .int v_literal_fraction, .int v_literal_exponent, .int v_literal_isHex])), (h_v_literal_digits, .inl (cB, n_v_literal_digits, .inl v_literal_digits_a)), (h_v_quotient, .inr (3, [.ref h_v_quotient_numerator, .ref h_v_quotient_denominator, .long v_quotient_lead, .int v_quotient_power, .int v_quotient_more])), (h_v_quotient_numerator, .inr (0, [.ref h_v_quotient_numerator_limbs, .int v_quotient_numerator_size])), (h_v_quotient_numerator_limbs, .inl (cI, n_v_quotient_numerator_limbs, .inl v_quotient_numerator_limbs_a)), (h_v_quotient_denominator, .inr (0, [.ref h_v_quotient_denominator_limbs, .int v_quotient_denominator_size])), (h_v_quotient_denominator_limbs, .inl (cI, n_v_quotient_denominator_limbs, .inl v_quotient_denominator_limbs_a))] sz)) 1 6 (va_A [(h_v, .inr (6, [.ref h_v_theText, .ref h_v_written, .ref h_v_literal, .ref h_v_quotient, .ref h_v_shortest, .ref h_v_decimal, .int v_readCount, .int v_noLiteralCount, .int v_outOfRangeCount])), (h_v_theText, .inr (4, [.ref h_v_theText_letters, .int v_theText_start, .int v_theText_end])), (h_v_theText_letters, .inl (cC, n_v_theText_letters, .inl v_theText_letters_a)), (h_v_literal, .inr (2, [.ref h_v_literal_digits, .int v_literal_digitCount, .int v_literal_fraction, .int v_literal_exponent, .int v_literal_isHex])), (h_v_literal_digits, .inl (cB, n_v_literal_digits, .inl v_literal_digits_a)), (h_v_quotient, .inr (3, [.ref h_v_quotient_numerator, .ref h_v_quotient_denominator, .long v_quotient_lead, .int v_quotient_power, .int v_quotient_more])), (h_v_quotient_numerator, .inr (0, [.ref h_v_quotient_numerator_limbs, .int v_quotient_numerator_size])), (h_v_quotient_numerator_limbs, .inl (cI, n_v_quotient_numerator_limbs, .inl v_quotient_numerator_limbs_a)), (h_v_quotient_denominator, .inr (0, [.ref h_v_quotient_denominator_limbs, .int v_quotient_denominator_size])), (h_v_quotient_denominator_limbs, .inl (cI, n_v_quotient_denominator_limbs, .inl v_quotient_denominator_limbs_a))] sz) := by
  refine xm_ofW (cc := prog_1_method_3_code) (maxL := 4) (ret := (some .long)) (by decide +kernel) rfl ?_
  intro p e s m args below meth c s₁ B hml hv
  obtain ⟨rfl, hsz, hP, hK, hD0, hX⟩ := hv
  have hx := B.exec
  have hb := B.bytes
  have hr := B.returns
  have hts := atoms_spec (ws := ws_RT_read) B.pre
  have hw : ∀ w ∈ zw, w.before [.ref h_v, .int x1].toArray s = true := fun w h => hts w (List.mem_cons_of_mem _ h)
  have hown : s.vm.findClass R_RT = some m.cls := findClass_of_methodNamed B.named
  have hlocks := B.notSynchronized
  subst hsz
  have hD := hD0.self (sz := s.heap.size)
  generalize hAe : va_A [(h_v, .inr (6, [.ref h_v_theText, .ref h_v_written, .ref h_v_literal, .ref h_v_quotient, .ref h_v_shortest, .ref h_v_decimal, .int v_readCount, .int v_noLiteralCount, .int v_outOfRangeCount])), (h_v_theText, .inr (4, [.ref h_v_theText_letters, .int v_theText_start, .int v_theText_end])), (h_v_theText_letters, .inl (cC, n_v_theText_letters, .inl v_theText_letters_a)), (h_v_literal, .inr (2, [.ref h_v_literal_digits, .int v_literal_digitCount, .int v_literal_fraction, .int v_literal_exponent, .int v_literal_isHex])), (h_v_literal_digits, .inl (cB, n_v_literal_digits, .inl v_literal_digits_a)), (h_v_quotient, .inr (3, [.ref h_v_quotient_numerator, .ref h_v_quotient_denominator, .long v_quotient_lead, .int v_quotient_power, .int v_quotient_more])), (h_v_quotient_numerator, .inr (0, [.ref h_v_quotient_numerator_limbs, .int v_quotient_numerator_size])), (h_v_quotient_numerator_limbs, .inl (cI, n_v_quotient_numerator_limbs, .inl v_quotient_numerator_limbs_a)), (h_v_quotient_denominator, .inr (0, [.ref h_v_quotient_denominator_limbs, .int v_quotient_denominator_size])), (h_v_quotient_denominator_limbs, .inl (cI, n_v_quotient_denominator_limbs, .inl v_quotient_denominator_limbs_a))] s.heap.size = A at hD hX ⊢
  have hA : ∀ q : Nat, s.heap.size ≤ q → A q := fun q h => by rw [← hAe]; exact Or.inr h
  have hS : va_S A s.heap s.heap [] := va_S.rf
  have hl := lv_entry [.ref h_v, .int x1] (n := 4) (Nat.le_of_ble_eq_true rfl)
  rw [lg_entry_eq]
  generalize (lg_sl [.ref h_v, .int x1] ++ List.replicate (4 - (lg_sl [.ref h_v, .int x1]).length) Slot.unset).toArray = ls at hl ⊢
  have hl : lv_has ls 4 [(0, .ref h_v), (1, .int x1)] := hl
  have hlc : ∀ (H : Heap) (locs : List Loc), va_S A s.heap H locs → ∀ x ∈ locs, ∀ cell, s.heap[x.base]? = some cell → cell.vm.isStatics = false := fun H locs h => by rw [← hAe] at h; exact xm_locs hP h
  refine zz_endxl hx hb hr hlocks hml (B.noHandlers (hts _ List.mem_cons_self)) htl hlc (fun Qq hend hthr => ?_)
  have hL_14 : ∀ (k1 : Nat) (v_readCount : Int32) (v_noLiteralCount : Int32) (v_outOfRangeCount : Int32) (v_theText_start : Int32) (v_theText_end : Int32) (v_literal_digitCount : Int32) (v_literal_fraction : Int32) (v_literal_exponent : Int32) (v_literal_isHex : Int32) (v_literal_digits_a : Nat → Int32) (v_quotient_lead : Int64) (v_quotient_power : Int32) (v_quotient_more : Int32) (v_quotient_numerator_size : Int32) (v_quotient_numerator_limbs_a : Nat → Int32) (v_quotient_denominator_size : Int32) (v_quotient_denominator_limbs_a : Nat → Int32) (ls : Array Slot) (H : Heap) (locs : List Loc), k1 < 2 → lv_has ls 4 [(0, .ref h_v)] → va_P (dC, dI) vwCl [(h_v, .inr (6, [.ref h_v_theText, .ref h_v_written, .ref h_v_literal, .ref h_v_quotient, .ref h_v_shortest, .ref h_v_decimal, .int v_readCount, .int v_noLiteralCount, .int v_outOfRangeCount])), (h_v_theText, .inr (4, [.ref h_v_theText_letters, .int v_theText_start, .int v_theText_end])), (h_v_theText_letters, .inl (cC, n_v_theText_letters, .inl v_theText_letters_a)), (h_v_literal, .inr (2, [.ref h_v_literal_digits, .int v_literal_digitCount, .int v_literal_fraction, .int v_literal_exponent, .int v_literal_isHex])), (h_v_literal_digits, .inl (cB, n_v_literal_digits, .inl v_literal_digits_a)), (h_v_quotient, .inr (3, [.ref h_v_quotient_numerator, .ref h_v_quotient_denominator, .long v_quotient_lead, .int v_quotient_power, .int v_quotient_more])), (h_v_quotient_numerator, .inr (0, [.ref h_v_quotient_numerator_limbs, .int v_quotient_numerator_size])), (h_v_quotient_numerator_limbs, .inl (cI, n_v_quotient_numerator_limbs, .inl v_quotient_numerator_limbs_a)), (h_v_quotient_denominator, .inr (0, [.ref h_v_quotient_denominator_limbs, .int v_quotient_denominator_size])), (h_v_quotient_denominator_limbs, .inl (cI, n_v_quotient_denominator_limbs, .inl v_quotient_denominator_limbs_a))] H → va_D A [(h_v, .inr (6, [.ref h_v_theText, .ref h_v_written, .ref h_v_literal, .ref h_v_quotient, .ref h_v_shortest, .ref h_v_decimal, .int v_readCount, .int v_noLiteralCount, .int v_outOfRangeCount])), (h_v_theText, .inr (4, [.ref h_v_theText_letters, .int v_theText_start, .int v_theText_end])), (h_v_theText_letters, .inl (cC, n_v_theText_letters, .inl v_theText_letters_a)), (h_v_literal, .inr (2, [.ref h_v_literal_digits, .int v_literal_digitCount, .int v_literal_fraction, .int v_literal_exponent, .int v_literal_isHex])), (h_v_literal_digits, .inl (cB, n_v_literal_digits, .inl v_literal_digits_a)), (h_v_quotient, .inr (3, [.ref h_v_quotient_numerator, .ref h_v_quotient_denominator, .long v_quotient_lead, .int v_quotient_power, .int v_quotient_more])), (h_v_quotient_numerator, .inr (0, [.ref h_v_quotient_numerator_limbs, .int v_quotient_numerator_size])), (h_v_quotient_numerator_limbs, .inl (cI, n_v_quotient_numerator_limbs, .inl v_quotient_numerator_limbs_a)), (h_v_quotient_denominator, .inr (0, [.ref h_v_quotient_denominator_limbs, .int v_quotient_denominator_size])), (h_v_quotient_denominator_limbs, .inl (cI, n_v_quotient_denominator_limbs, .inl v_quotient_denominator_limbs_a))] → va_S A s.heap H locs → f_RT_read_14 fu n_v_theText_letters n_v_literal_digits n_v_quotient_numerator_limbs n_v_quotient_denominator_limbs x1 v_theText_letters_a k1 v_readCount v_noLiteralCount v_outOfRangeCount v_theText_start v_theText_end v_literal_digitCount v_literal_fraction v_literal_exponent v_literal_isHex v_literal_digits_a v_quotient_lead v_quotient_power v_quotient_more v_quotient_numerator_size v_quotient_numerator_limbs_a v_quotient_denominator_size v_quotient_denominator_limbs_a = some u → W p l e (headSpec ws_RT_read rm_RT_read).room s m [.ref h_v, .int x1].toArray below meth c H locs 0 0 Qq (F0 m 14 ls [.ref (adF k1), .ref h_v]) := by
    intro k1 v_readCount v_noLiteralCount v_outOfRangeCount v_theText_start v_theText_end v_literal_digitCount v_literal_fraction v_literal_exponent v_literal_isHex v_literal_digits_a v_quotient_lead v_quotient_power v_quotient_more v_quotient_numerator_size v_quotient_numerator_limbs_a v_quotient_denominator_size v_quotient_denominator_limbs_a ls H locs he_k1 hl hP hD hS hf
    unfold f_RT_read_14 at hf
    obtain ⟨u_1, hu_1, hf⟩ := zz_bd hf
    refine zz_cl (ws' := [(h_v, .inr (6, [.ref h_v_theText, .ref h_v_written, .ref h_v_literal, .ref h_v_quotient, .ref h_v_shortest, .ref h_v_decimal, .int v_readCount, .int v_noLiteralCount, .int v_outOfRangeCount])), (h_v_theText, .inr (4, [.ref h_v_theText_letters, .int v_theText_start, .int v_theText_end])), (h_v_theText_letters, .inl (cC, n_v_theText_letters, .inl v_theText_letters_a)), (h_v_literal, .inr (2, [.ref h_v_literal_digits, .int u_1.2.1, .int u_1.2.2.1, .int u_1.2.2.2.1, .int u_1.2.2.2.2.1])), (h_v_literal_digits, .inl (cB, n_v_literal_digits, .inl u_1.2.2.2.2.2.1)), (h_v_quotient, .inr (3, [.ref h_v_quotient_numerator, .ref h_v_quotient_denominator, .long u_1.2.2.2.2.2.2.1, .int u_1.2.2.2.2.2.2.2.1, .int u_1.2.2.2.2.2.2.2.2.1])), (h_v_quotient_numerator, .inr (0, [.ref h_v_quotient_numerator_limbs, .int u_1.2.2.2.2.2.2.2.2.2.1])), (h_v_quotient_numerator_limbs, .inl (cI, n_v_quotient_numerator_limbs, .inl u_1.2.2.2.2.2.2.2.2.2.2.1)), (h_v_quotient_denominator, .inr (0, [.ref h_v_quotient_denominator_limbs, .int u_1.2.2.2.2.2.2.2.2.2.2.2.1])), (h_v_quotient_denominator_limbs, .inl (cI, n_v_quotient_denominator_limbs, .inl u_1.2.2.2.2.2.2.2.2.2.2.2.2))]) (wc := [(h_v, .inr (6, [.ref h_v_theText, .ref h_v_written, .ref h_v_literal, .ref h_v_quotient, .ref h_v_shortest, .ref h_v_decimal, .int v_readCount, .int v_noLiteralCount, .int v_outOfRangeCount])), (h_v_theText, .inr (4, [.ref h_v_theText_letters, .int v_theText_start, .int v_theText_end])), (h_v_theText_letters, .inl (cC, n_v_theText_letters, .inl v_theText_letters_a)), (h_v_literal, .inr (2, [.ref h_v_literal_digits, .int v_literal_digitCount, .int v_literal_fraction, .int v_literal_exponent, .int v_literal_isHex])), (h_v_literal_digits, .inl (cB, n_v_literal_digits, .inl v_literal_digits_a)), (h_v_quotient, .inr (3, [.ref h_v_quotient_numerator, .ref h_v_quotient_denominator, .long v_quotient_lead, .int v_quotient_power, .int v_quotient_more])), (h_v_quotient_numerator, .inr (0, [.ref h_v_quotient_numerator_limbs, .int v_quotient_numerator_size])), (h_v_quotient_numerator_limbs, .inl (cI, n_v_quotient_numerator_limbs, .inl v_quotient_numerator_limbs_a)), (h_v_quotient_denominator, .inr (0, [.ref h_v_quotient_denominator_limbs, .int v_quotient_denominator_size])), (h_v_quotient_denominator_limbs, .inl (cI, n_v_quotient_denominator_limbs, .inl v_quotient_denominator_limbs_a))]) (w' := [(h_v, .inr (6, [.ref h_v_theText, .ref h_v_written, .ref h_v_literal, .ref h_v_quotient, .ref h_v_shortest, .ref h_v_decimal, .int v_readCount, .int v_noLiteralCount, .int v_outOfRangeCount])), (h_v_theText, .inr (4, [.ref h_v_theText_letters, .int v_theText_start, .int v_theText_end])), (h_v_theText_letters, .inl (cC, n_v_theText_letters, .inl v_theText_letters_a)), (h_v_literal, .inr (2, [.ref h_v_literal_digits, .int u_1.2.1, .int u_1.2.2.1, .int u_1.2.2.2.1, .int u_1.2.2.2.2.1])), (h_v_literal_digits, .inl (cB, n_v_literal_digits, .inl u_1.2.2.2.2.2.1)), (h_v_quotient, .inr (3, [.ref h_v_quotient_numerator, .ref h_v_quotient_denominator, .long u_1.2.2.2.2.2.2.1, .int u_1.2.2.2.2.2.2.2.1, .int u_1.2.2.2.2.2.2.2.2.1])), (h_v_quotient_numerator, .inr (0, [.ref h_v_quotient_numerator_limbs, .int u_1.2.2.2.2.2.2.2.2.2.1])), (h_v_quotient_numerator_limbs, .inl (cI, n_v_quotient_numerator_limbs, .inl u_1.2.2.2.2.2.2.2.2.2.2.1)), (h_v_quotient_denominator, .inr (0, [.ref h_v_quotient_denominator_limbs, .int u_1.2.2.2.2.2.2.2.2.2.2.2.1])), (h_v_quotient_denominator_limbs, .inl (cI, n_v_quotient_denominator_limbs, .inl u_1.2.2.2.2.2.2.2.2.2.2.2.2))]) hP hD hS hA [0, 1, 2, 3, 4, 5, 6, 7, 8, 9] [] [0, 1, 2, 3, 4, 5, 6, 7, 8, 9] rfl rfl (by decide) (by decide) rfl (by decide) (va_runV (As := [.ref (adF k1)]) (rest := []) ⟨hx, hb, hml, hown, hw⟩ (c_RT_bitsOfText l dC dI cI cC cB cJ adF tp adK adV fu _ h_v h_v_theText h_v_theText_letters h_v_literal h_v_literal_digits h_v_quotient h_v_quotient_numerator h_v_quotient_numerator_limbs h_v_quotient_denominator h_v_quotient_denominator_limbs h_v_written h_v_shortest h_v_decimal n_v_theText_letters n_v_literal_digits n_v_quotient_numerator_limbs n_v_quotient_denominator_limbs k1 v_readCount v_noLiteralCount v_outOfRangeCount v_theText_start v_theText_end v_theText_letters_a v_literal_digitCount v_literal_fraction v_literal_exponent v_literal_isHex v_literal_digits_a v_quotient_lead v_quotient_power v_quotient_more v_quotient_numerator_size v_quotient_numerator_limbs_a v_quotient_denominator_size v_quotient_denominator_limbs_a he_k1 u_1 hu_1) (cwV 1 hw (zg_V wd_560 wd_562 we_0_15 wd_1 wd_563) rfl rfl rfl hd_RT_bitsOfText ⟨Nat.le_of_ble_eq_true rfl, Nat.le_of_ble_eq_true rfl⟩) (zz_preV (zx_ok adF tp adK adV) (va_recv (q0 := 0) (ci := 6) hK hP rfl rfl) hP hD hK hS hA hX [0, 1, 2, 3, 4, 5, 6, 7, 8, 9] rfl (by decide)) rfl rfl hl.1 rfl (lv_room (Nat.le_of_ble_eq_true rfl)) d_RT_read_14 ⟨Nat.zero_le _, Nat.zero_le _⟩) (fun H locs hP hD hS => ?_)
    refine lv_lstore_n hx hb d_RT_read_17 rfl hl (by decide) rfl (fun ls hl => ?_)
    have hl : lv_has ls 4 [(2, .long u_1.1), (0, .ref h_v)] := hl
    refine lv_aload_n hx hb d_RT_read_18 rfl (lv_at hl 1 rfl) ?_
    refine va_get (D := (dC, dI)) (ci := 6) (v := .ref h_v_theText) (C := R_RT) (T := T_RT) (N := 9) hx hb hw in_RT hown hK hP 0 rfl rfl 0 (by decide) (hw _ wd_168) (fun _ h9 => h9) rfl d_RT_read_19 ?_
    obtain ⟨u_2, hu_2, hf⟩ := zz_bd hf
    refine zz_cv (ws' := [(h_v, .inr (6, [.ref h_v_theText, .ref h_v_written, .ref h_v_literal, .ref h_v_quotient, .ref h_v_shortest, .ref h_v_decimal, .int v_readCount, .int v_noLiteralCount, .int v_outOfRangeCount])), (h_v_theText, .inr (4, [.ref h_v_theText_letters, .int u_2.1, .int u_2.2])), (h_v_theText_letters, .inl (cC, n_v_theText_letters, .inl v_theText_letters_a)), (h_v_literal, .inr (2, [.ref h_v_literal_digits, .int u_1.2.1, .int u_1.2.2.1, .int u_1.2.2.2.1, .int u_1.2.2.2.2.1])), (h_v_literal_digits, .inl (cB, n_v_literal_digits, .inl u_1.2.2.2.2.2.1)), (h_v_quotient, .inr (3, [.ref h_v_quotient_numerator, .ref h_v_quotient_denominator, .long u_1.2.2.2.2.2.2.1, .int u_1.2.2.2.2.2.2.2.1, .int u_1.2.2.2.2.2.2.2.2.1])), (h_v_quotient_numerator, .inr (0, [.ref h_v_quotient_numerator_limbs, .int u_1.2.2.2.2.2.2.2.2.2.1])), (h_v_quotient_numerator_limbs, .inl (cI, n_v_quotient_numerator_limbs, .inl u_1.2.2.2.2.2.2.2.2.2.2.1)), (h_v_quotient_denominator, .inr (0, [.ref h_v_quotient_denominator_limbs, .int u_1.2.2.2.2.2.2.2.2.2.2.2.1])), (h_v_quotient_denominator_limbs, .inl (cI, n_v_quotient_denominator_limbs, .inl u_1.2.2.2.2.2.2.2.2.2.2.2.2))]) (wc := [(h_v_theText, .inr (4, [.ref h_v_theText_letters, .int v_theText_start, .int v_theText_end]))]) (w' := [(h_v_theText, .inr (4, [.ref h_v_theText_letters, .int u_2.1, .int u_2.2]))]) hP hD hS hA [1] [0, 2, 3, 4, 5, 6, 7, 8, 9] [0, 9, 1, 2, 3, 4, 5, 6, 7, 8] rfl rfl (by decide) (by decide) rfl (by decide) (va_runV (As := []) (rest := []) ⟨hx, hb, hml, hown, hw⟩ (c_Row_clear l dC dI cI cC cB cJ _ h_v_theText h_v_theText_letters v_theText_start v_theText_end u_2 hu_2) (cwV 0 hw (zg_V wd_221 wd_222 wd_223 wd_2 wd_224) rfl rfl rfl hd_Row_clear ⟨Nat.le_of_ble_eq_true rfl, Nat.le_of_ble_eq_true rfl⟩) (zz_preV zz_TE (va_recv (q0 := 1) (ci := 4) hK hP rfl rfl) hP hD hK hS hA trivial [1] rfl (by decide)) rfl rfl hl.1 rfl (lv_room (Nat.le_of_ble_eq_true rfl)) d_RT_read_22 ⟨Nat.zero_le _, Nat.zero_le _⟩) (fun H locs hP hD hS => ?_)
    refine lv_lload_n hx hb d_RT_read_25 rfl (lv_at hl 0 rfl) ?_
    refine lv_ldc2 (v := (-1)) hx hb hown (hw _ wd_600) d_RT_read_26 ?_
    refine W.lcmp hx hb d_RT_read_29 ?_
    refine lv_if_ne (tgt := 51) hx hb d_RT_read_30 (by decide) (fun hc => ?_) (fun hc => ?_)
    · have hf := zz_ifn hc hf
      refine lv_lload_n hx hb d_RT_read_51 rfl (lv_at hl 0 rfl) ?_
      refine lv_ldc2 (v := (-2)) hx hb hown (hw _ wd_622) d_RT_read_52 ?_
      refine W.lcmp hx hb d_RT_read_55 ?_
      refine lv_if_ne (tgt := 77) hx hb d_RT_read_56 (by decide) (fun hc => ?_) (fun hc => ?_)
      · have hf := zz_ifn hc hf
        refine lv_aload_n hx hb d_RT_read_77 rfl (lv_at hl 1 rfl) ?_
        refine lv_dup hx hb d_RT_read_78 rfl ?_
        refine va_get (D := (dC, dI)) (ci := 6) (v := .int v_readCount) (C := R_RT) (T := T_RT) (N := 9) hx hb hw in_RT hown hK hP 0 rfl rfl 6 (by decide) (hw _ wd_174) (fun _ h9 => h9) rfl d_RT_read_79 ?_
        refine lv_iconst (v := 1) hx hb d_RT_read_82 (by decide) ?_
        refine lv_iadd hx hb d_RT_read_83 ?_
        refine va_put (D := (dC, dI)) (ci := 6) (v := .int (v_readCount + 1)) (ty := .int) (C := R_RT) (T := T_RT) (N := 9) hx hb hw in_RT ty_RT tyok_RT nm_RT hown hK hP hD hS 0 rfl rfl 6 (by decide) (hw _ wd_174) (fun _ h9 => h9) rfl (tyok_RT 6 (by decide)) rfl rfl (Nat.le_of_ble_eq_true rfl) d_RT_read_84 (fun H locs hP hD hS => ?_)
        have hP : va_P (dC, dI) vwCl [(h_v, .inr (6, [.ref h_v_theText, .ref h_v_written, .ref h_v_literal, .ref h_v_quotient, .ref h_v_shortest, .ref h_v_decimal, .int (v_readCount + 1), .int v_noLiteralCount, .int v_outOfRangeCount])), (h_v_theText, .inr (4, [.ref h_v_theText_letters, .int u_2.1, .int u_2.2])), (h_v_theText_letters, .inl (cC, n_v_theText_letters, .inl v_theText_letters_a)), (h_v_literal, .inr (2, [.ref h_v_literal_digits, .int u_1.2.1, .int u_1.2.2.1, .int u_1.2.2.2.1, .int u_1.2.2.2.2.1])), (h_v_literal_digits, .inl (cB, n_v_literal_digits, .inl u_1.2.2.2.2.2.1)), (h_v_quotient, .inr (3, [.ref h_v_quotient_numerator, .ref h_v_quotient_denominator, .long u_1.2.2.2.2.2.2.1, .int u_1.2.2.2.2.2.2.2.1, .int u_1.2.2.2.2.2.2.2.2.1])), (h_v_quotient_numerator, .inr (0, [.ref h_v_quotient_numerator_limbs, .int u_1.2.2.2.2.2.2.2.2.2.1])), (h_v_quotient_numerator_limbs, .inl (cI, n_v_quotient_numerator_limbs, .inl u_1.2.2.2.2.2.2.2.2.2.2.1)), (h_v_quotient_denominator, .inr (0, [.ref h_v_quotient_denominator_limbs, .int u_1.2.2.2.2.2.2.2.2.2.2.2.1])), (h_v_quotient_denominator_limbs, .inl (cI, n_v_quotient_denominator_limbs, .inl u_1.2.2.2.2.2.2.2.2.2.2.2.2))] H := hP
        have hD : va_D A [(h_v, .inr (6, [.ref h_v_theText, .ref h_v_written, .ref h_v_literal, .ref h_v_quotient, .ref h_v_shortest, .ref h_v_decimal, .int (v_readCount + 1), .int v_noLiteralCount, .int v_outOfRangeCount])), (h_v_theText, .inr (4, [.ref h_v_theText_letters, .int u_2.1, .int u_2.2])), (h_v_theText_letters, .inl (cC, n_v_theText_letters, .inl v_theText_letters_a)), (h_v_literal, .inr (2, [.ref h_v_literal_digits, .int u_1.2.1, .int u_1.2.2.1, .int u_1.2.2.2.1, .int u_1.2.2.2.2.1])), (h_v_literal_digits, .inl (cB, n_v_literal_digits, .inl u_1.2.2.2.2.2.1)), (h_v_quotient, .inr (3, [.ref h_v_quotient_numerator, .ref h_v_quotient_denominator, .long u_1.2.2.2.2.2.2.1, .int u_1.2.2.2.2.2.2.2.1, .int u_1.2.2.2.2.2.2.2.2.1])), (h_v_quotient_numerator, .inr (0, [.ref h_v_quotient_numerator_limbs, .int u_1.2.2.2.2.2.2.2.2.2.1])), (h_v_quotient_numerator_limbs, .inl (cI, n_v_quotient_numerator_limbs, .inl u_1.2.2.2.2.2.2.2.2.2.2.1)), (h_v_quotient_denominator, .inr (0, [.ref h_v_quotient_denominator_limbs, .int u_1.2.2.2.2.2.2.2.2.2.2.2.1])), (h_v_quotient_denominator_limbs, .inl (cI, n_v_quotient_denominator_limbs, .inl u_1.2.2.2.2.2.2.2.2.2.2.2.2))] := hD
        refine lv_lload_n hx hb d_RT_read_87 rfl (lv_at hl 0 rfl) ?_
        cases hf
        exact hend 88 ls _ _ rfl d_RT_read_88 hP hD hS
      · have hf := zz_ifp hc hf
        refine lv_aload_n hx hb d_RT_read_59 rfl (lv_at hl 1 rfl) ?_
        refine lv_dup hx hb d_RT_read_60 rfl ?_
        refine va_get (D := (dC, dI)) (ci := 6) (v := .int v_outOfRangeCount) (C := R_RT) (T := T_RT) (N := 9) hx hb hw in_RT hown hK hP 0 rfl rfl 8 (by decide) (hw _ wd_176) (fun _ h9 => h9) rfl d_RT_read_61 ?_
        refine lv_iconst (v := 1) hx hb d_RT_read_64 (by decide) ?_
        refine lv_iadd hx hb d_RT_read_65 ?_
        refine va_put (D := (dC, dI)) (ci := 6) (v := .int (v_outOfRangeCount + 1)) (ty := .int) (C := R_RT) (T := T_RT) (N := 9) hx hb hw in_RT ty_RT tyok_RT nm_RT hown hK hP hD hS 0 rfl rfl 8 (by decide) (hw _ wd_176) (fun _ h9 => h9) rfl (tyok_RT 8 (by decide)) rfl rfl (Nat.le_of_ble_eq_true rfl) d_RT_read_66 (fun H locs hP hD hS => ?_)
        have hP : va_P (dC, dI) vwCl [(h_v, .inr (6, [.ref h_v_theText, .ref h_v_written, .ref h_v_literal, .ref h_v_quotient, .ref h_v_shortest, .ref h_v_decimal, .int v_readCount, .int v_noLiteralCount, .int (v_outOfRangeCount + 1)])), (h_v_theText, .inr (4, [.ref h_v_theText_letters, .int u_2.1, .int u_2.2])), (h_v_theText_letters, .inl (cC, n_v_theText_letters, .inl v_theText_letters_a)), (h_v_literal, .inr (2, [.ref h_v_literal_digits, .int u_1.2.1, .int u_1.2.2.1, .int u_1.2.2.2.1, .int u_1.2.2.2.2.1])), (h_v_literal_digits, .inl (cB, n_v_literal_digits, .inl u_1.2.2.2.2.2.1)), (h_v_quotient, .inr (3, [.ref h_v_quotient_numerator, .ref h_v_quotient_denominator, .long u_1.2.2.2.2.2.2.1, .int u_1.2.2.2.2.2.2.2.1, .int u_1.2.2.2.2.2.2.2.2.1])), (h_v_quotient_numerator, .inr (0, [.ref h_v_quotient_numerator_limbs, .int u_1.2.2.2.2.2.2.2.2.2.1])), (h_v_quotient_numerator_limbs, .inl (cI, n_v_quotient_numerator_limbs, .inl u_1.2.2.2.2.2.2.2.2.2.2.1)), (h_v_quotient_denominator, .inr (0, [.ref h_v_quotient_denominator_limbs, .int u_1.2.2.2.2.2.2.2.2.2.2.2.1])), (h_v_quotient_denominator_limbs, .inl (cI, n_v_quotient_denominator_limbs, .inl u_1.2.2.2.2.2.2.2.2.2.2.2.2))] H := hP
        have hD : va_D A [(h_v, .inr (6, [.ref h_v_theText, .ref h_v_written, .ref h_v_literal, .ref h_v_quotient, .ref h_v_shortest, .ref h_v_decimal, .int v_readCount, .int v_noLiteralCount, .int (v_outOfRangeCount + 1)])), (h_v_theText, .inr (4, [.ref h_v_theText_letters, .int u_2.1, .int u_2.2])), (h_v_theText_letters, .inl (cC, n_v_theText_letters, .inl v_theText_letters_a)), (h_v_literal, .inr (2, [.ref h_v_literal_digits, .int u_1.2.1, .int u_1.2.2.1, .int u_1.2.2.2.1, .int u_1.2.2.2.2.1])), (h_v_literal_digits, .inl (cB, n_v_literal_digits, .inl u_1.2.2.2.2.2.1)), (h_v_quotient, .inr (3, [.ref h_v_quotient_numerator, .ref h_v_quotient_denominator, .long u_1.2.2.2.2.2.2.1, .int u_1.2.2.2.2.2.2.2.1, .int u_1.2.2.2.2.2.2.2.2.1])), (h_v_quotient_numerator, .inr (0, [.ref h_v_quotient_numerator_limbs, .int u_1.2.2.2.2.2.2.2.2.2.1])), (h_v_quotient_numerator_limbs, .inl (cI, n_v_quotient_numerator_limbs, .inl u_1.2.2.2.2.2.2.2.2.2.2.1)), (h_v_quotient_denominator, .inr (0, [.ref h_v_quotient_denominator_limbs, .int u_1.2.2.2.2.2.2.2.2.2.2.2.1])), (h_v_quotient_denominator_limbs, .inl (cI, n_v_quotient_denominator_limbs, .inl u_1.2.2.2.2.2.2.2.2.2.2.2.2))] := hD
        cases hf
        exact hthr 69 ls _ _ "RealText" "java/lang/ArithmeticException" ["java/lang/RuntimeException", "java/lang/Exception"] 104 102 hl.1 zt_n20 (if_neg zt_n21) hown (by decide +kernel) (by decide +kernel) (zt_ar hw hX) (hw _ wd_646) (hw _ wd_17) d_RT_read_69 d_RT_read_72 d_RT_read_73 d_RT_read_76 (Nat.le_of_ble_eq_true rfl) (Nat.le_of_ble_eq_true rfl) (Nat.le_of_ble_eq_true rfl) (Nat.le_of_ble_eq_true rfl) hP hD hS
    · have hf := zz_ifp hc hf
      refine lv_aload_n hx hb d_RT_read_33 rfl (lv_at hl 1 rfl) ?_
      refine lv_dup hx hb d_RT_read_34 rfl ?_
      refine va_get (D := (dC, dI)) (ci := 6) (v := .int v_noLiteralCount) (C := R_RT) (T := T_RT) (N := 9) hx hb hw in_RT hown hK hP 0 rfl rfl 7 (by decide) (hw _ wd_175) (fun _ h9 => h9) rfl d_RT_read_35 ?_
      refine lv_iconst (v := 1) hx hb d_RT_read_38 (by decide) ?_
      refine lv_iadd hx hb d_RT_read_39 ?_
      refine va_put (D := (dC, dI)) (ci := 6) (v := .int (v_noLiteralCount + 1)) (ty := .int) (C := R_RT) (T := T_RT) (N := 9) hx hb hw in_RT ty_RT tyok_RT nm_RT hown hK hP hD hS 0 rfl rfl 7 (by decide) (hw _ wd_175) (fun _ h9 => h9) rfl (tyok_RT 7 (by decide)) rfl rfl (Nat.le_of_ble_eq_true rfl) d_RT_read_40 (fun H locs hP hD hS => ?_)
      have hP : va_P (dC, dI) vwCl [(h_v, .inr (6, [.ref h_v_theText, .ref h_v_written, .ref h_v_literal, .ref h_v_quotient, .ref h_v_shortest, .ref h_v_decimal, .int v_readCount, .int (v_noLiteralCount + 1), .int v_outOfRangeCount])), (h_v_theText, .inr (4, [.ref h_v_theText_letters, .int u_2.1, .int u_2.2])), (h_v_theText_letters, .inl (cC, n_v_theText_letters, .inl v_theText_letters_a)), (h_v_literal, .inr (2, [.ref h_v_literal_digits, .int u_1.2.1, .int u_1.2.2.1, .int u_1.2.2.2.1, .int u_1.2.2.2.2.1])), (h_v_literal_digits, .inl (cB, n_v_literal_digits, .inl u_1.2.2.2.2.2.1)), (h_v_quotient, .inr (3, [.ref h_v_quotient_numerator, .ref h_v_quotient_denominator, .long u_1.2.2.2.2.2.2.1, .int u_1.2.2.2.2.2.2.2.1, .int u_1.2.2.2.2.2.2.2.2.1])), (h_v_quotient_numerator, .inr (0, [.ref h_v_quotient_numerator_limbs, .int u_1.2.2.2.2.2.2.2.2.2.1])), (h_v_quotient_numerator_limbs, .inl (cI, n_v_quotient_numerator_limbs, .inl u_1.2.2.2.2.2.2.2.2.2.2.1)), (h_v_quotient_denominator, .inr (0, [.ref h_v_quotient_denominator_limbs, .int u_1.2.2.2.2.2.2.2.2.2.2.2.1])), (h_v_quotient_denominator_limbs, .inl (cI, n_v_quotient_denominator_limbs, .inl u_1.2.2.2.2.2.2.2.2.2.2.2.2))] H := hP
      have hD : va_D A [(h_v, .inr (6, [.ref h_v_theText, .ref h_v_written, .ref h_v_literal, .ref h_v_quotient, .ref h_v_shortest, .ref h_v_decimal, .int v_readCount, .int (v_noLiteralCount + 1), .int v_outOfRangeCount])), (h_v_theText, .inr (4, [.ref h_v_theText_letters, .int u_2.1, .int u_2.2])), (h_v_theText_letters, .inl (cC, n_v_theText_letters, .inl v_theText_letters_a)), (h_v_literal, .inr (2, [.ref h_v_literal_digits, .int u_1.2.1, .int u_1.2.2.1, .int u_1.2.2.2.1, .int u_1.2.2.2.2.1])), (h_v_literal_digits, .inl (cB, n_v_literal_digits, .inl u_1.2.2.2.2.2.1)), (h_v_quotient, .inr (3, [.ref h_v_quotient_numerator, .ref h_v_quotient_denominator, .long u_1.2.2.2.2.2.2.1, .int u_1.2.2.2.2.2.2.2.1, .int u_1.2.2.2.2.2.2.2.2.1])), (h_v_quotient_numerator, .inr (0, [.ref h_v_quotient_numerator_limbs, .int u_1.2.2.2.2.2.2.2.2.2.1])), (h_v_quotient_numerator_limbs, .inl (cI, n_v_quotient_numerator_limbs, .inl u_1.2.2.2.2.2.2.2.2.2.2.1)), (h_v_quotient_denominator, .inr (0, [.ref h_v_quotient_denominator_limbs, .int u_1.2.2.2.2.2.2.2.2.2.2.2.1])), (h_v_quotient_denominator_limbs, .inl (cI, n_v_quotient_denominator_limbs, .inl u_1.2.2.2.2.2.2.2.2.2.2.2.2))] := hD
      cases hf
      exact hthr 43 ls _ _ "RealText" "java/lang/IllegalArgumentException" ["java/lang/RuntimeException", "java/lang/Exception"] 55 53 hl.1 zt_n10 (if_pos rfl) hown (by decide +kernel) (by decide +kernel) (zt_ia hw hX) (hw _ wd_471) (hw _ wd_12) d_RT_read_43 d_RT_read_46 d_RT_read_47 d_RT_read_50 (Nat.le_of_ble_eq_true rfl) (Nat.le_of_ble_eq_true rfl) (Nat.le_of_ble_eq_true rfl) (Nat.le_of_ble_eq_true rfl) hP hD hS
  unfold f_RT_read at hf
  refine lv_aload_n hx hb d_RT_read_0 rfl (lv_at hl 0 rfl) ?_
  refine lv_iload_n hx hb d_RT_read_1 rfl (lv_at hl 1 rfl) ?_
  refine lv_if_eq (tgt := 11) hx hb d_RT_read_2 (by decide) (fun hc => ?_) (fun hc => ?_)
  · have hf := zz_ifp hc hf
    refine va_gets hx hb ((hX.1.1 1 (by decide)).1) hS hown (hw _ wd_202) (fun _ h9 => h9) d_RT_read_11 ?_
    exact hL_14 1 v_readCount v_noLiteralCount v_outOfRangeCount v_theText_start v_theText_end v_literal_digitCount v_literal_fraction v_literal_exponent v_literal_isHex v_literal_digits_a v_quotient_lead v_quotient_power v_quotient_more v_quotient_numerator_size v_quotient_numerator_limbs_a v_quotient_denominator_size v_quotient_denominator_limbs_a ls _ _ (by decide) (lv_sub hl [0] rfl) hP hD hS hf
  · have hf := zz_ifn hc hf
    refine va_gets hx hb ((hX.1.1 0 (by decide)).1) hS hown (hw _ wd_200) (fun _ h9 => h9) d_RT_read_5 ?_
    refine lv_goto (tgt := 14) hx hb d_RT_read_8 (by decide) ?_
    exact hL_14 0 v_readCount v_noLiteralCount v_outOfRangeCount v_theText_start v_theText_end v_literal_digitCount v_literal_fraction v_literal_exponent v_literal_isHex v_literal_digits_a v_quotient_lead v_quotient_power v_quotient_more v_quotient_numerator_size v_quotient_numerator_limbs_a v_quotient_denominator_size v_quotient_denominator_limbs_a ls _ _ (by decide) (lv_sub hl [0] rfl) hP hD hS hf
abbrev ws_RT_count : List Cond := .code y_RT_count prog_1_method_7_code 2 (some .int) :: zw
abbrev rm_RT_count : Room := { frames := 6, cells := 1, slots := 6, locals := 90 }
theorem hd_RT_count : y_RT_count.cls = "RealText" ∧ y_RT_count.cls ≠ "java/lang/invoke/MethodHandle" ∧ y_RT_count.cls ≠ "java/lang/invoke/VarHandle" ∧ (parseMethodDescriptor y_RT_count.desc).map (fun d => d.parameters.length) = some 1 := by decide +kernel
theorem d_RT_count_0 : decode prog_1_method_7_code 0 = .ok (.iload_n 1, 1) := by decide +kernel
theorem d_RT_count_1 : decode prog_1_method_7_code 1 = .ok (.tableswitch 66 0 4 #[35, 43, 51, 56, 61], 35) := by decide +kernel
theorem d_RT_count_36 : decode prog_1_method_7_code 36 = .ok (.aload_n 0, 1) := by decide +kernel
theorem d_RT_count_37 : decode prog_1_method_7_code 37 = .ok (.getfield 14, 3) := by decide +kernel
theorem d_RT_count_40 : decode prog_1_method_7_code 40 = .ok (.invokevirtual 56, 3) := by decide +kernel
theorem d_RT_count_43 : decode prog_1_method_7_code 43 = .ok (.ireturn, 1) := by decide +kernel
theorem d_RT_count_44 : decode prog_1_method_7_code 44 = .ok (.aload_n 0, 1) := by decide +kernel
theorem d_RT_count_45 : decode prog_1_method_7_code 45 = .ok (.getfield 18, 3) := by decide +kernel
theorem d_RT_count_48 : decode prog_1_method_7_code 48 = .ok (.invokevirtual 56, 3) := by decide +kernel
theorem d_RT_count_51 : decode prog_1_method_7_code 51 = .ok (.ireturn, 1) := by decide +kernel
theorem d_RT_count_52 : decode prog_1_method_7_code 52 = .ok (.aload_n 0, 1) := by decide +kernel
theorem d_RT_count_53 : decode prog_1_method_7_code 53 = .ok (.getfield 105, 3) := by decide +kernel
theorem d_RT_count_56 : decode prog_1_method_7_code 56 = .ok (.ireturn, 1) := by decide +kernel
theorem d_RT_count_57 : decode prog_1_method_7_code 57 = .ok (.aload_n 0, 1) := by decide +kernel
theorem d_RT_count_58 : decode prog_1_method_7_code 58 = .ok (.getfield 93, 3) := by decide +kernel
theorem d_RT_count_61 : decode prog_1_method_7_code 61 = .ok (.ireturn, 1) := by decide +kernel
theorem d_RT_count_62 : decode prog_1_method_7_code 62 = .ok (.aload_n 0, 1) := by decide +kernel
theorem d_RT_count_63 : decode prog_1_method_7_code 63 = .ok (.getfield 99, 3) := by decide +kernel
theorem d_RT_count_66 : decode prog_1_method_7_code 66 = .ok (.ireturn, 1) := by decide +kernel
theorem d_RT_count_67 : decode prog_1_method_7_code 67 = .ok (.new 53, 3) := by decide +kernel
theorem d_RT_count_70 : decode prog_1_method_7_code 70 = .ok (.dup, 1) := by decide +kernel
theorem d_RT_count_71 : decode prog_1_method_7_code 71 = .ok (.invokespecial 55, 3) := by decide +kernel
theorem d_RT_count_74 : decode prog_1_method_7_code 74 = .ok (.athrow, 1) := by decide +kernel
def f_RT_count (x1 : Int32) (v_readCount : Int32) (v_noLiteralCount : Int32) (v_outOfRangeCount : Int32) (v_theText_start : Int32) (v_theText_end : Int32) (v_written_start : Int32) (v_written_end : Int32) : Option (Int32 × Int32) :=
  (if x1 = 0 then
  (f_Row_length v_theText_start v_theText_end).bind fun u_1 =>
  some (0, u_1)
  else
  (if x1 = 1 then
  (f_Row_length v_written_start v_written_end).bind fun u_2 =>
  some (0, u_2)
  else
  (if x1 = 2 then
  some (0, v_readCount)
  else
  (if x1 = 3 then
  some (0, v_noLiteralCount)
  else
  (if x1 = 4 then
  some (0, v_outOfRangeCount)
  else
  some (1, 0))))))
set_option maxHeartbeats 4000000 in
set_option maxRecDepth 100000 in
theorem c_RT_count (l : Launch) (htl : l.stackTraces = false) (dC : Nat → ClassId) (dI : Nat → Nat → Nat) (cI cC cB cJ : ClassId) (adF : Nat → Nat) (tp : Nat) (adK adV : Nat → Nat) (sz : Nat) (h_v : Nat) (h_v_theText : Nat) (h_v_written : Nat) (h_v_literal : Nat) (h_v_quotient : Nat) (h_v_shortest : Nat) (h_v_decimal : Nat) (h_v_theText_letters : Nat) (h_v_written_letters : Nat) (x1 : Int32) (v_readCount : Int32) (v_noLiteralCount : Int32) (v_outOfRangeCount : Int32) (v_theText_start : Int32) (v_theText_end : Int32) (v_written_start : Int32) (v_written_end : Int32) (u : Int32 × Int32) (hf : f_RT_count x1 v_readCount v_noLiteralCount v_outOfRangeCount v_theText_start v_theText_end v_written_start v_written_end = some u) : xm_Met l y_RT_count ws_RT_count rm_RT_count (zz_P (zx_E adF tp adK adV) (dC, dI) vwCl (zz_tys cI cC cB cJ) [.ref h_v, .int x1] [(h_v, .inr (6, [.ref h_v_theText, .ref h_v_written, .ref h_v_literal, .ref h_v_quotient, .ref h_v_shortest, .ref h_v_decimal, .int v_readCount, .int v_noLiteralCount, .int v_outOfRangeCount])), (h_v_theText, .inr (4, [.ref h_v_theText_letters, .int v_theText_start, .int v_theText_end])), (h_v_written, .inr (4, [.ref h_v_written_letters, .int v_written_start, .int v_written_end]))] sz) (zz_Qx (dC, dI) vwCl zt_nis u.1 (.int u.2) [(h_v, .inr (6, [.ref h_v_theText, .ref h_v_written, .ref h_v_literal, .ref h_v_quotient, .ref h_v_shortest, .ref h_v_decimal, .int v_readCount, .int v_noLiteralCount, .int v_outOfRangeCount])), (h_v_theText, .inr (4, [.ref h_v_theText_letters, .int v_theText_start, .int v_theText_end])), (h_v_written, .inr (4, [.ref h_v_written_letters, .int v_written_start, .int v_written_end]))] (va_A [(h_v, .inr (6, [.ref h_v_theText, .ref h_v_written, .ref h_v_literal, .ref h_v_quotient, .ref h_v_shortest, .ref h_v_decimal, .int v_readCount, .int v_noLiteralCount, .int v_outOfRangeCount])), (h_v_theText, .inr (4, [.ref h_v_theText_letters, .int v_theText_start, .int v_theText_end])), (h_v_written, .inr (4, [.ref h_v_written_letters, .int v_written_start, .int v_written_end]))] sz)) 1 6 (va_A [(h_v, .inr (6, [.ref h_v_theText, .ref h_v_written, .ref h_v_literal, .ref h_v_quotient, .ref h_v_shortest, .ref h_v_decimal, .int v_readCount, .int v_noLiteralCount, .int v_outOfRangeCount])), (h_v_theText, .inr (4, [.ref h_v_theText_letters, .int v_theText_start, .int v_theText_end])), (h_v_written, .inr (4, [.ref h_v_written_letters, .int v_written_start, .int v_written_end]))] sz) := by
  refine xm_ofW (cc := prog_1_method_7_code) (maxL := 2) (ret := (some .int)) (by decide +kernel) rfl ?_
  intro p e s m args below meth c s₁ B hml hv
  obtain ⟨rfl, hsz, hP, hK, hD0, hX⟩ := hv
  have hx := B.exec
  have hb := B.bytes
  have hr := B.returns
  have hts := atoms_spec (ws := ws_RT_count) B.pre
  have hw : ∀ w ∈ zw, w.before [.ref h_v, .int x1].toArray s = true := fun w h => hts w (List.mem_cons_of_mem _ h)
  have hown : s.vm.findClass R_RT = some m.cls := findClass_of_methodNamed B.named
  have hlocks := B.notSynchronized
  subst hsz
  have hD := hD0.self (sz := s.heap.size)
  generalize hAe : va_A [(h_v, .inr (6, [.ref h_v_theText, .ref h_v_written, .ref h_v_literal, .ref h_v_quotient, .ref h_v_shortest, .ref h_v_decimal, .int v_readCount, .int v_noLiteralCount, .int v_outOfRangeCount])), (h_v_theText, .inr (4, [.ref h_v_theText_letters, .int v_theText_start, .int v_theText_end])), (h_v_written, .inr (4, [.ref h_v_written_letters, .int v_written_start, .int v_written_end]))] s.heap.size = A at hD hX ⊢
  have hA : ∀ q : Nat, s.heap.size ≤ q → A q := fun q h => by rw [← hAe]; exact Or.inr h
  have hS : va_S A s.heap s.heap [] := va_S.rf
  have hl := lv_entry [.ref h_v, .int x1] (n := 2) (Nat.le_of_ble_eq_true rfl)
  rw [lg_entry_eq]
  generalize (lg_sl [.ref h_v, .int x1] ++ List.replicate (2 - (lg_sl [.ref h_v, .int x1]).length) Slot.unset).toArray = ls at hl ⊢
  have hl : lv_has ls 2 [(0, .ref h_v), (1, .int x1)] := hl
  have hlc : ∀ (H : Heap) (locs : List Loc), va_S A s.heap H locs → ∀ x ∈ locs, ∀ cell, s.heap[x.base]? = some cell → cell.vm.isStatics = false := fun H locs h => by rw [← hAe] at h; exact xm_locs hP h
  refine zz_endxi hx hb hr hlocks hml (B.noHandlers (hts _ List.mem_cons_self)) htl hlc (fun Qq hend hthr => ?_)
  unfold f_RT_count at hf
  refine lv_iload_n hx hb d_RT_count_0 rfl (lv_at hl 1 rfl) ?_
  by_cases hc : x1 = 0
  · have hf := zz_ifp hc hf
    refine lv_tableIn (tgt := 36) (off := 35) hx hb d_RT_count_1 (by rw [hc]; decide) (by rw [hc]; decide) (by rw [hc]; rfl) (by decide) ?_
    refine lv_aload_n hx hb d_RT_count_36 rfl (lv_at hl 0 rfl) ?_
    refine va_get (D := (dC, dI)) (ci := 6) (v := .ref h_v_theText) (C := R_RT) (T := T_RT) (N := 9) hx hb hw in_RT hown hK hP 0 rfl rfl 0 (by decide) (hw _ wd_168) (fun _ h9 => h9) rfl d_RT_count_37 ?_
    obtain ⟨u_1, hu_1, hf⟩ := zz_bd hf
    refine zz_ci (ws' := [(h_v, .inr (6, [.ref h_v_theText, .ref h_v_written, .ref h_v_literal, .ref h_v_quotient, .ref h_v_shortest, .ref h_v_decimal, .int v_readCount, .int v_noLiteralCount, .int v_outOfRangeCount])), (h_v_theText, .inr (4, [.ref h_v_theText_letters, .int v_theText_start, .int v_theText_end])), (h_v_written, .inr (4, [.ref h_v_written_letters, .int v_written_start, .int v_written_end]))]) (wc := [(h_v_theText, .inr (4, [.ref h_v_theText_letters, .int v_theText_start, .int v_theText_end]))]) (w' := [(h_v_theText, .inr (4, [.ref h_v_theText_letters, .int v_theText_start, .int v_theText_end]))]) hP hD hS hA [1] [0, 2] [0, 2, 1] rfl rfl (by decide) (by decide) rfl (by decide) (va_runV (As := []) (rest := []) ⟨hx, hb, hml, hown, hw⟩ (c_Row_length l dC dI cI cC cB cJ _ h_v_theText h_v_theText_letters v_theText_start v_theText_end u_1 hu_1) (cwV 0 hw (zg_V wd_283 wd_284 wd_285 wd_2 wd_286) rfl rfl rfl hd_Row_length ⟨Nat.le_of_ble_eq_true rfl, Nat.le_of_ble_eq_true rfl⟩) (zz_preV zz_TE (va_recv (q0 := 1) (ci := 4) hK hP rfl rfl) hP hD hK hS hA trivial [1] rfl (by decide)) rfl rfl hl.1 rfl (lv_room (Nat.le_of_ble_eq_true rfl)) d_RT_count_40 ⟨Nat.zero_le _, Nat.zero_le _⟩) (fun H locs hP hD hS => ?_)
    cases hf
    exact hend 43 ls _ _ rfl d_RT_count_43 hP hD hS
  · have hf := zz_ifn hc hf
    have hc_0 := hc
    by_cases hc : x1 = 1
    · have hf := zz_ifp hc hf
      refine lv_tableIn (tgt := 44) (off := 43) hx hb d_RT_count_1 (by rw [hc]; decide) (by rw [hc]; decide) (by rw [hc]; rfl) (by decide) ?_
      refine lv_aload_n hx hb d_RT_count_44 rfl (lv_at hl 0 rfl) ?_
      refine va_get (D := (dC, dI)) (ci := 6) (v := .ref h_v_written) (C := R_RT) (T := T_RT) (N := 9) hx hb hw in_RT hown hK hP 0 rfl rfl 1 (by decide) (hw _ wd_169) (fun _ h9 => h9) rfl d_RT_count_45 ?_
      obtain ⟨u_2, hu_2, hf⟩ := zz_bd hf
      refine zz_ci (ws' := [(h_v, .inr (6, [.ref h_v_theText, .ref h_v_written, .ref h_v_literal, .ref h_v_quotient, .ref h_v_shortest, .ref h_v_decimal, .int v_readCount, .int v_noLiteralCount, .int v_outOfRangeCount])), (h_v_theText, .inr (4, [.ref h_v_theText_letters, .int v_theText_start, .int v_theText_end])), (h_v_written, .inr (4, [.ref h_v_written_letters, .int v_written_start, .int v_written_end]))]) (wc := [(h_v_written, .inr (4, [.ref h_v_written_letters, .int v_written_start, .int v_written_end]))]) (w' := [(h_v_written, .inr (4, [.ref h_v_written_letters, .int v_written_start, .int v_written_end]))]) hP hD hS hA [2] [0, 1] [0, 1, 2] rfl rfl (by decide) (by decide) rfl (by decide) (va_runV (As := []) (rest := []) ⟨hx, hb, hml, hown, hw⟩ (c_Row_length l dC dI cI cC cB cJ _ h_v_written h_v_written_letters v_written_start v_written_end u_2 hu_2) (cwV 0 hw (zg_V wd_283 wd_284 wd_285 wd_2 wd_286) rfl rfl rfl hd_Row_length ⟨Nat.le_of_ble_eq_true rfl, Nat.le_of_ble_eq_true rfl⟩) (zz_preV zz_TE (va_recv (q0 := 2) (ci := 4) hK hP rfl rfl) hP hD hK hS hA trivial [2] rfl (by decide)) rfl rfl hl.1 rfl (lv_room (Nat.le_of_ble_eq_true rfl)) d_RT_count_48 ⟨Nat.zero_le _, Nat.zero_le _⟩) (fun H locs hP hD hS => ?_)
      cases hf
      exact hend 51 ls _ _ rfl d_RT_count_51 hP hD hS
    · have hf := zz_ifn hc hf
      have hc_1 := hc
      by_cases hc : x1 = 2
      · have hf := zz_ifp hc hf
        refine lv_tableIn (tgt := 52) (off := 51) hx hb d_RT_count_1 (by rw [hc]; decide) (by rw [hc]; decide) (by rw [hc]; rfl) (by decide) ?_
        refine lv_aload_n hx hb d_RT_count_52 rfl (lv_at hl 0 rfl) ?_
        refine va_get (D := (dC, dI)) (ci := 6) (v := .int v_readCount) (C := R_RT) (T := T_RT) (N := 9) hx hb hw in_RT hown hK hP 0 rfl rfl 6 (by decide) (hw _ wd_174) (fun _ h9 => h9) rfl d_RT_count_53 ?_
        cases hf
        exact hend 56 ls _ _ rfl d_RT_count_56 hP hD hS
      · have hf := zz_ifn hc hf
        have hc_2 := hc
        by_cases hc : x1 = 3
        · have hf := zz_ifp hc hf
          refine lv_tableIn (tgt := 57) (off := 56) hx hb d_RT_count_1 (by rw [hc]; decide) (by rw [hc]; decide) (by rw [hc]; rfl) (by decide) ?_
          refine lv_aload_n hx hb d_RT_count_57 rfl (lv_at hl 0 rfl) ?_
          refine va_get (D := (dC, dI)) (ci := 6) (v := .int v_noLiteralCount) (C := R_RT) (T := T_RT) (N := 9) hx hb hw in_RT hown hK hP 0 rfl rfl 7 (by decide) (hw _ wd_175) (fun _ h9 => h9) rfl d_RT_count_58 ?_
          cases hf
          exact hend 61 ls _ _ rfl d_RT_count_61 hP hD hS
        · have hf := zz_ifn hc hf
          have hc_3 := hc
          by_cases hc : x1 = 4
          · have hf := zz_ifp hc hf
            refine lv_tableIn (tgt := 62) (off := 61) hx hb d_RT_count_1 (by rw [hc]; decide) (by rw [hc]; decide) (by rw [hc]; rfl) (by decide) ?_
            refine lv_aload_n hx hb d_RT_count_62 rfl (lv_at hl 0 rfl) ?_
            refine va_get (D := (dC, dI)) (ci := 6) (v := .int v_outOfRangeCount) (C := R_RT) (T := T_RT) (N := 9) hx hb hw in_RT hown hK hP 0 rfl rfl 8 (by decide) (hw _ wd_176) (fun _ h9 => h9) rfl d_RT_count_63 ?_
            cases hf
            exact hend 66 ls _ _ rfl d_RT_count_66 hP hD hS
          · have hf := zz_ifn hc hf
            have hc_4 := hc
            refine lv_tableOut (tgt := 67) hx hb d_RT_count_1 (zz_out0_4 hc_0 hc_1 hc_2 hc_3 hc_4) (by decide) ?_
            cases hf
            exact hthr 67 ls _ _ "RealText" "java/lang/IllegalArgumentException" ["java/lang/RuntimeException", "java/lang/Exception"] 55 53 hl.1 zt_n10 (if_pos rfl) hown (by decide +kernel) (by decide +kernel) (zt_ia hw hX) (hw _ wd_471) (hw _ wd_12) d_RT_count_67 d_RT_count_70 d_RT_count_71 d_RT_count_74 (Nat.le_of_ble_eq_true rfl) (Nat.le_of_ble_eq_true rfl) (Nat.le_of_ble_eq_true rfl) (Nat.le_of_ble_eq_true rfl) hP hD hS
