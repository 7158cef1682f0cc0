abbrev ws_Lit_isEither : List Cond := .code y_Lit_isEither prog_5_method_4_code 3 (some .boolean) :: zw
abbrev rm_Lit_isEither : Room := { frames := 0, cells := 0, slots := 0, locals := 0 }
theorem hd_Lit_isEither : y_Lit_isEither.cls ≠ "java/lang/invoke/MethodHandle" ∧ y_Lit_isEither.cls ≠ "java/lang/invoke/VarHandle" ∧ (parseMethodDescriptor y_Lit_isEither.desc).map (fun d => d.parameters.length) = some 3 := by decide +kernel
theorem d_Lit_isEither_0 : decode prog_5_method_4_code 0 = .ok (.iload_n 0, 1) := by decide +kernel
theorem d_Lit_isEither_1 : decode prog_5_method_4_code 1 = .ok (.iload_n 1, 1) := by decide +kernel
theorem d_Lit_isEither_2 : decode prog_5_method_4_code 2 = .ok (.if_icmp .eq 8, 3) := by decide +kernel
theorem d_Lit_isEither_5 : decode prog_5_method_4_code 5 = .ok (.iload_n 0, 1) := by decide +kernel
theorem d_Lit_isEither_6 : decode prog_5_method_4_code 6 = .ok (.iload_n 2, 1) := by decide +kernel
theorem d_Lit_isEither_7 : decode prog_5_method_4_code 7 = .ok (.if_icmp .ne 7, 3) := by decide +kernel
theorem d_Lit_isEither_10 : decode prog_5_method_4_code 10 = .ok (.iconst 1, 1) := by decide +kernel
theorem d_Lit_isEither_11 : decode prog_5_method_4_code 11 = .ok (.goto 4, 3) := by decide +kernel
theorem d_Lit_isEither_14 : decode prog_5_method_4_code 14 = .ok (.iconst 0, 1) := by decide +kernel
theorem d_Lit_isEither_15 : decode prog_5_method_4_code 15 = .ok (.ireturn, 1) := by decide +kernel
def f_Lit_isEither (x0 : Int32) (x1 : Int32) (x2 : Int32) : Option (Int32) :=
  (if x0 = x1 then
  some (1)
  else
  (if x0 = x2 then
  some (1)
  else
  some (0)))
set_option maxHeartbeats 4000000 in
set_option maxRecDepth 100000 in
theorem c_Lit_isEither (l : Launch) (dC : Nat → ClassId) (dI : Nat → Nat → Nat) (cI cC cB cJ : ClassId) (sz : Nat) (x0 : Int32) (x1 : Int32) (x2 : Int32) (u : Int32) (hf : f_Lit_isEither x0 x1 x2 = some u) : Met l y_Lit_isEither ws_Lit_isEither rm_Lit_isEither (zz_P zz_T (dC, dI) vwCl (zz_tys cI cC cB cJ) [.int x0, .int x1, .int x2] [] sz) (zz_Qi (dC, dI) vwCl u [] (va_A [] sz)) 0 0 (va_A [] sz) := by
  refine Met.ofW (cc := prog_5_method_4_code) (maxL := 3) (ret := (some .boolean)) (by decide +kernel) rfl ?_
  intro p e s m args below meth c s₁ B hml hv
  obtain ⟨rfl, hsz, hP, hK, hD0, hX⟩ := hv
  have hx := B.exec
  have hb := B.bytes
  have hr := B.returns
  have hts := atoms_spec (ws := ws_Lit_isEither) B.pre
  have hw : ∀ w ∈ zw, w.before [.int x0, .int x1, .int x2].toArray s = true := fun w h => hts w (List.mem_cons_of_mem _ h)
  have hown : s.vm.findClass R_Lit = some m.cls := findClass_of_methodNamed B.named
  have hlocks := B.notSynchronized
  subst hsz
  have hD := hD0.self (sz := s.heap.size)
  generalize hAe : va_A [] s.heap.size = A at hD hX ⊢
  have hA : ∀ q : Nat, s.heap.size ≤ q → A q := fun q h => by rw [← hAe]; exact Or.inr h
  have hS : va_S A s.heap s.heap [] := va_S.rf
  have hl := lv_entry [.int x0, .int x1, .int x2] (n := 3) (Nat.le_of_ble_eq_true rfl)
  rw [lg_entry_eq]
  generalize (lg_sl [.int x0, .int x1, .int x2] ++ List.replicate (3 - (lg_sl [.int x0, .int x1, .int x2]).length) Slot.unset).toArray = ls at hl ⊢
  have hl : lv_has ls 3 [(0, .int x0), (1, .int x1), (2, .int x2)] := hl
  refine zz_endz hx hb hr hlocks (fun Qq hend => ?_)
  unfold f_Lit_isEither at hf
  refine lv_iload_n hx hb d_Lit_isEither_0 rfl (lv_at hl 0 rfl) ?_
  refine lv_iload_n hx hb d_Lit_isEither_1 rfl (lv_at hl 1 rfl) ?_
  refine lv_icmp_eq (tgt := 10) hx hb d_Lit_isEither_2 (by decide) (fun hc => ?_) (fun hc => ?_)
  · have hf := zz_ifp hc hf
    refine lv_iconst (v := 1) hx hb d_Lit_isEither_10 (by decide) ?_
    refine lv_goto (tgt := 15) hx hb d_Lit_isEither_11 (by decide) ?_
    cases hf
    exact hend 15 ls _ _ narrow_b1 d_Lit_isEither_15 hP hD hS
  · have hf := zz_ifn hc hf
    refine lv_iload_n hx hb d_Lit_isEither_5 rfl (lv_at hl 0 rfl) ?_
    refine lv_iload_n hx hb d_Lit_isEither_6 rfl (lv_at hl 2 rfl) ?_
    refine lv_icmp_ne (tgt := 14) hx hb d_Lit_isEither_7 (by decide) (fun hc => ?_) (fun hc => ?_)
    · have hf := zz_ifn hc hf
      refine lv_iconst (v := 0) hx hb d_Lit_isEither_14 (by decide) ?_
      cases hf
      exact hend 15 ls _ _ narrow_b0 d_Lit_isEither_15 hP hD hS
    · have hf := zz_ifp hc hf
      refine lv_iconst (v := 1) hx hb d_Lit_isEither_10 (by decide) ?_
      refine lv_goto (tgt := 15) hx hb d_Lit_isEither_11 (by decide) ?_
      cases hf
      exact hend 15 ls _ _ narrow_b1 d_Lit_isEither_15 hP hD hS
abbrev ws_Lit_digitOf : List Cond := .code y_Lit_digitOf prog_5_method_6_code 2 (some .int) :: zw
abbrev rm_Lit_digitOf : Room := { frames := 0, cells := 0, slots := 0, locals := 0 }
theorem hd_Lit_digitOf : y_Lit_digitOf.cls ≠ "java/lang/invoke/MethodHandle" ∧ y_Lit_digitOf.cls ≠ "java/lang/invoke/VarHandle" ∧ (parseMethodDescriptor y_Lit_digitOf.desc).map (fun d => d.parameters.length) = some 2 := by decide +kernel
theorem d_Lit_digitOf_0 : decode prog_5_method_6_code 0 = .ok (.iload_n 0, 1) := by decide +kernel
theorem d_Lit_digitOf_1 : decode prog_5_method_6_code 1 = .ok (.bipush 48, 2) := by decide +kernel
theorem d_Lit_digitOf_3 : decode prog_5_method_6_code 3 = .ok (.if_icmp .lt 14, 3) := by decide +kernel
theorem d_Lit_digitOf_6 : decode prog_5_method_6_code 6 = .ok (.iload_n 0, 1) := by decide +kernel
theorem d_Lit_digitOf_7 : decode prog_5_method_6_code 7 = .ok (.bipush 57, 2) := by decide +kernel
theorem d_Lit_digitOf_9 : decode prog_5_method_6_code 9 = .ok (.if_icmp .gt 8, 3) := by decide +kernel
theorem d_Lit_digitOf_12 : decode prog_5_method_6_code 12 = .ok (.iload_n 0, 1) := by decide +kernel
theorem d_Lit_digitOf_13 : decode prog_5_method_6_code 13 = .ok (.bipush 48, 2) := by decide +kernel
theorem d_Lit_digitOf_15 : decode prog_5_method_6_code 15 = .ok (.isub, 1) := by decide +kernel
theorem d_Lit_digitOf_16 : decode prog_5_method_6_code 16 = .ok (.ireturn, 1) := by decide +kernel
theorem d_Lit_digitOf_17 : decode prog_5_method_6_code 17 = .ok (.iload_n 1, 1) := by decide +kernel
theorem d_Lit_digitOf_18 : decode prog_5_method_6_code 18 = .ok (.bipush 16, 2) := by decide +kernel
theorem d_Lit_digitOf_20 : decode prog_5_method_6_code 20 = .ok (.if_icmp .ne 23, 3) := by decide +kernel
theorem d_Lit_digitOf_23 : decode prog_5_method_6_code 23 = .ok (.iload_n 0, 1) := by decide +kernel
theorem d_Lit_digitOf_24 : decode prog_5_method_6_code 24 = .ok (.bipush 97, 2) := by decide +kernel
theorem d_Lit_digitOf_26 : decode prog_5_method_6_code 26 = .ok (.if_icmp .lt 17, 3) := by decide +kernel
theorem d_Lit_digitOf_29 : decode prog_5_method_6_code 29 = .ok (.iload_n 0, 1) := by decide +kernel
theorem d_Lit_digitOf_30 : decode prog_5_method_6_code 30 = .ok (.bipush 102, 2) := by decide +kernel
theorem d_Lit_digitOf_32 : decode prog_5_method_6_code 32 = .ok (.if_icmp .gt 11, 3) := by decide +kernel
theorem d_Lit_digitOf_35 : decode prog_5_method_6_code 35 = .ok (.iload_n 0, 1) := by decide +kernel
theorem d_Lit_digitOf_36 : decode prog_5_method_6_code 36 = .ok (.bipush 97, 2) := by decide +kernel
theorem d_Lit_digitOf_38 : decode prog_5_method_6_code 38 = .ok (.isub, 1) := by decide +kernel
theorem d_Lit_digitOf_39 : decode prog_5_method_6_code 39 = .ok (.bipush 10, 2) := by decide +kernel
theorem d_Lit_digitOf_41 : decode prog_5_method_6_code 41 = .ok (.iadd, 1) := by decide +kernel
theorem d_Lit_digitOf_42 : decode prog_5_method_6_code 42 = .ok (.ireturn, 1) := by decide +kernel
theorem d_Lit_digitOf_43 : decode prog_5_method_6_code 43 = .ok (.iload_n 1, 1) := by decide +kernel
theorem d_Lit_digitOf_44 : decode prog_5_method_6_code 44 = .ok (.bipush 16, 2) := by decide +kernel
theorem d_Lit_digitOf_46 : decode prog_5_method_6_code 46 = .ok (.if_icmp .ne 23, 3) := by decide +kernel
theorem d_Lit_digitOf_49 : decode prog_5_method_6_code 49 = .ok (.iload_n 0, 1) := by decide +kernel
theorem d_Lit_digitOf_50 : decode prog_5_method_6_code 50 = .ok (.bipush 65, 2) := by decide +kernel
theorem d_Lit_digitOf_52 : decode prog_5_method_6_code 52 = .ok (.if_icmp .lt 17, 3) := by decide +kernel
theorem d_Lit_digitOf_55 : decode prog_5_method_6_code 55 = .ok (.iload_n 0, 1) := by decide +kernel
theorem d_Lit_digitOf_56 : decode prog_5_method_6_code 56 = .ok (.bipush 70, 2) := by decide +kernel
theorem d_Lit_digitOf_58 : decode prog_5_method_6_code 58 = .ok (.if_icmp .gt 11, 3) := by decide +kernel
theorem d_Lit_digitOf_61 : decode prog_5_method_6_code 61 = .ok (.iload_n 0, 1) := by decide +kernel
theorem d_Lit_digitOf_62 : decode prog_5_method_6_code 62 = .ok (.bipush 65, 2) := by decide +kernel
theorem d_Lit_digitOf_64 : decode prog_5_method_6_code 64 = .ok (.isub, 1) := by decide +kernel
theorem d_Lit_digitOf_65 : decode prog_5_method_6_code 65 = .ok (.bipush 10, 2) := by decide +kernel
theorem d_Lit_digitOf_67 : decode prog_5_method_6_code 67 = .ok (.iadd, 1) := by decide +kernel
theorem d_Lit_digitOf_68 : decode prog_5_method_6_code 68 = .ok (.ireturn, 1) := by decide +kernel
theorem d_Lit_digitOf_69 : decode prog_5_method_6_code 69 = .ok (.iconst (-1), 1) := by decide +kernel
theorem d_Lit_digitOf_70 : decode prog_5_method_6_code 70 = .ok (.ireturn, 1) := by decide +kernel
def f_Lit_digitOf_43 (x0 : Int32) (x1 : Int32)   : Option (Int32) :=
  (if x1 = 16 then
  (if x0 < 65 then
  some ((-1))
  else
  (if 70 < x0 then
  some ((-1))
  else
  some ((x0 - 65) + 10)))
  else
  some ((-1)))
def f_Lit_digitOf_17 (x0 : Int32) (x1 : Int32)   : Option (Int32) :=
  (if x1 = 16 then
  (if x0 < 97 then
  f_Lit_digitOf_43 x0 x1
  else
  (if 102 < x0 then
  f_Lit_digitOf_43 x0 x1
  else
  some ((x0 - 97) + 10)))
  else
  f_Lit_digitOf_43 x0 x1)
def f_Lit_digitOf (x0 : Int32) (x1 : Int32) : Option (Int32) :=
  (if x0 < 48 then
  f_Lit_digitOf_17 x0 x1
  else
  (if 57 < x0 then
  f_Lit_digitOf_17 x0 x1
  else
  some (x0 - 48)))
set_option maxHeartbeats 4000000 in
set_option maxRecDepth 100000 in
theorem c_Lit_digitOf (l : Launch) (dC : Nat → ClassId) (dI : Nat → Nat → Nat) (cI cC cB cJ : ClassId) (sz : Nat) (x0 : Int32) (x1 : Int32) (u : Int32) (hf : f_Lit_digitOf x0 x1 = some u) : Met l y_Lit_digitOf ws_Lit_digitOf rm_Lit_digitOf (zz_P zz_T (dC, dI) vwCl (zz_tys cI cC cB cJ) [.int x0, .int x1] [] sz) (zz_Qi (dC, dI) vwCl u [] (va_A [] sz)) 0 0 (va_A [] sz) := by
  refine Met.ofW (cc := prog_5_method_6_code) (maxL := 2) (ret := (some .int)) (by decide +kernel) rfl ?_
  intro p e s m args below meth c s₁ B hml hv
  obtain ⟨rfl, hsz, hP, hK, hD0, hX⟩ := hv
  have hx := B.exec
  have hb := B.bytes
  have hr := B.returns
  have hts := atoms_spec (ws := ws_Lit_digitOf) B.pre
  have hw : ∀ w ∈ zw, w.before [.int x0, .int x1].toArray s = true := fun w h => hts w (List.mem_cons_of_mem _ h)
  have hown : s.vm.findClass R_Lit = some m.cls := findClass_of_methodNamed B.named
  have hlocks := B.notSynchronized
  subst hsz
  have hD := hD0.self (sz := s.heap.size)
  generalize hAe : va_A [] s.heap.size = A at hD hX ⊢
  have hA : ∀ q : Nat, s.heap.size ≤ q → A q := fun q h => by rw [← hAe]; exact Or.inr h
  have hS : va_S A s.heap s.heap [] := va_S.rf
  have hl := lv_entry [.int x0, .int x1] (n := 2) (Nat.le_of_ble_eq_true rfl)
  rw [lg_entry_eq]
  generalize (lg_sl [.int x0, .int x1] ++ List.replicate (2 - (lg_sl [.int x0, .int x1]).length) Slot.unset).toArray = ls at hl ⊢
  have hl : lv_has ls 2 [(0, .int x0), (1, .int x1)] := hl
  refine zz_endi hx hb hr hlocks (fun Qq hend => ?_)
  have hL_43 : ∀  (ls : Array Slot) (H : Heap) (locs : List Loc), lv_has ls 2 [(0, .int x0), (1, .int x1)] → va_P (dC, dI) vwCl [] H → va_D A [] → va_S A s.heap H locs → f_Lit_digitOf_43 x0 x1 = some u → W p l e (headSpec ws_Lit_digitOf rm_Lit_digitOf).room s m [.int x0, .int x1].toArray below meth c H locs 0 0 Qq (F0 m 43 ls []) := by
    intro ls H locs hl hP hD hS hf
    unfold f_Lit_digitOf_43 at hf
    refine lv_iload_n hx hb d_Lit_digitOf_43 rfl (lv_at hl 1 rfl) ?_
    refine lv_bipush (v := 16) hx hb d_Lit_digitOf_44 (by decide) ?_
    refine lv_icmp_ne (tgt := 69) hx hb d_Lit_digitOf_46 (by decide) (fun hc => ?_) (fun hc => ?_)
    · have hf := zz_ifn hc hf
      refine lv_iconst (v := (-1)) hx hb d_Lit_digitOf_69 (by decide) ?_
      cases hf
      exact hend 70 ls _ _ d_Lit_digitOf_70 hP hD hS
    · have hf := zz_ifp hc hf
      refine lv_iload_n hx hb d_Lit_digitOf_49 rfl (lv_at hl 0 rfl) ?_
      refine lv_bipush (v := 65) hx hb d_Lit_digitOf_50 (by decide) ?_
      refine lv_icmp_lt (tgt := 69) hx hb d_Lit_digitOf_52 (by decide) (fun hc => ?_) (fun hc => ?_)
      · have hf := zz_ifp hc hf
        refine lv_iconst (v := (-1)) hx hb d_Lit_digitOf_69 (by decide) ?_
        cases hf
        exact hend 70 ls _ _ d_Lit_digitOf_70 hP hD hS
      · have hf := zz_ifn hc hf
        refine lv_iload_n hx hb d_Lit_digitOf_55 rfl (lv_at hl 0 rfl) ?_
        refine lv_bipush (v := 70) hx hb d_Lit_digitOf_56 (by decide) ?_
        refine lv_icmp_gt (tgt := 69) hx hb d_Lit_digitOf_58 (by decide) (fun hc => ?_) (fun hc => ?_)
        · have hf := zz_ifp hc hf
          refine lv_iconst (v := (-1)) hx hb d_Lit_digitOf_69 (by decide) ?_
          cases hf
          exact hend 70 ls _ _ d_Lit_digitOf_70 hP hD hS
        · have hf := zz_ifn hc hf
          refine lv_iload_n hx hb d_Lit_digitOf_61 rfl (lv_at hl 0 rfl) ?_
          refine lv_bipush (v := 65) hx hb d_Lit_digitOf_62 (by decide) ?_
          refine lv_isub hx hb d_Lit_digitOf_64 ?_
          refine lv_bipush (v := 10) hx hb d_Lit_digitOf_65 (by decide) ?_
          refine lv_iadd hx hb d_Lit_digitOf_67 ?_
          cases hf
          exact hend 68 ls _ _ d_Lit_digitOf_68 hP hD hS
  have hL_17 : ∀  (ls : Array Slot) (H : Heap) (locs : List Loc), lv_has ls 2 [(0, .int x0), (1, .int x1)] → va_P (dC, dI) vwCl [] H → va_D A [] → va_S A s.heap H locs → f_Lit_digitOf_17 x0 x1 = some u → W p l e (headSpec ws_Lit_digitOf rm_Lit_digitOf).room s m [.int x0, .int x1].toArray below meth c H locs 0 0 Qq (F0 m 17 ls []) := by
    intro ls H locs hl hP hD hS hf
    unfold f_Lit_digitOf_17 at hf
    refine lv_iload_n hx hb d_Lit_digitOf_17 rfl (lv_at hl 1 rfl) ?_
    refine lv_bipush (v := 16) hx hb d_Lit_digitOf_18 (by decide) ?_
    refine lv_icmp_ne (tgt := 43) hx hb d_Lit_digitOf_20 (by decide) (fun hc => ?_) (fun hc => ?_)
    · have hf := zz_ifn hc hf
      exact hL_43  ls _ _ (lv_sub hl [0, 1] rfl) hP hD hS hf
    · have hf := zz_ifp hc hf
      refine lv_iload_n hx hb d_Lit_digitOf_23 rfl (lv_at hl 0 rfl) ?_
      refine lv_bipush (v := 97) hx hb d_Lit_digitOf_24 (by decide) ?_
      refine lv_icmp_lt (tgt := 43) hx hb d_Lit_digitOf_26 (by decide) (fun hc => ?_) (fun hc => ?_)
      · have hf := zz_ifp hc hf
        exact hL_43  ls _ _ (lv_sub hl [0, 1] rfl) hP hD hS hf
      · have hf := zz_ifn hc hf
        refine lv_iload_n hx hb d_Lit_digitOf_29 rfl (lv_at hl 0 rfl) ?_
        refine lv_bipush (v := 102) hx hb d_Lit_digitOf_30 (by decide) ?_
        refine lv_icmp_gt (tgt := 43) hx hb d_Lit_digitOf_32 (by decide) (fun hc => ?_) (fun hc => ?_)
        · have hf := zz_ifp hc hf
          exact hL_43  ls _ _ (lv_sub hl [0, 1] rfl) hP hD hS hf
        · have hf := zz_ifn hc hf
          refine lv_iload_n hx hb d_Lit_digitOf_35 rfl (lv_at hl 0 rfl) ?_
          refine lv_bipush (v := 97) hx hb d_Lit_digitOf_36 (by decide) ?_
          refine lv_isub hx hb d_Lit_digitOf_38 ?_
          refine lv_bipush (v := 10) hx hb d_Lit_digitOf_39 (by decide) ?_
          refine lv_iadd hx hb d_Lit_digitOf_41 ?_
          cases hf
          exact hend 42 ls _ _ d_Lit_digitOf_42 hP hD hS
  unfold f_Lit_digitOf at hf
  refine lv_iload_n hx hb d_Lit_digitOf_0 rfl (lv_at hl 0 rfl) ?_
  refine lv_bipush (v := 48) hx hb d_Lit_digitOf_1 (by decide) ?_
  refine lv_icmp_lt (tgt := 17) hx hb d_Lit_digitOf_3 (by decide) (fun hc => ?_) (fun hc => ?_)
  · have hf := zz_ifp hc hf
    exact hL_17  ls _ _ (lv_sub hl [0, 1] rfl) hP hD hS hf
  · have hf := zz_ifn hc hf
    refine lv_iload_n hx hb d_Lit_digitOf_6 rfl (lv_at hl 0 rfl) ?_
    refine lv_bipush (v := 57) hx hb d_Lit_digitOf_7 (by decide) ?_
    refine lv_icmp_gt (tgt := 17) hx hb d_Lit_digitOf_9 (by decide) (fun hc => ?_) (fun hc => ?_)
    · have hf := zz_ifp hc hf
      exact hL_17  ls _ _ (lv_sub hl [0, 1] rfl) hP hD hS hf
    · have hf := zz_ifn hc hf
      refine lv_iload_n hx hb d_Lit_digitOf_12 rfl (lv_at hl 0 rfl) ?_
      refine lv_bipush (v := 48) hx hb d_Lit_digitOf_13 (by decide) ?_
      refine lv_isub hx hb d_Lit_digitOf_15 ?_
      cases hf
      exact hend 16 ls _ _ d_Lit_digitOf_16 hP hD hS
abbrev ws_Lit_endOfDigits : List Cond := .code y_Lit_endOfDigits prog_5_method_5_code 6 (some .int) :: zw
abbrev rm_Lit_endOfDigits : Room := { frames := 1, cells := 0, slots := 0, locals := 21 }
theorem hd_Lit_endOfDigits : y_Lit_endOfDigits.cls ≠ "java/lang/invoke/MethodHandle" ∧ y_Lit_endOfDigits.cls ≠ "java/lang/invoke/VarHandle" ∧ (parseMethodDescriptor y_Lit_endOfDigits.desc).map (fun d => d.parameters.length) = some 3 := by decide +kernel
theorem d_Lit_endOfDigits_0 : decode prog_5_method_5_code 0 = .ok (.iload_n 1, 1) := by decide +kernel
theorem d_Lit_endOfDigits_1 : decode prog_5_method_5_code 1 = .ok (.istore_n 3, 1) := by decide +kernel
theorem d_Lit_endOfDigits_2 : decode prog_5_method_5_code 2 = .ok (.iload_n 1, 1) := by decide +kernel
theorem d_Lit_endOfDigits_3 : decode prog_5_method_5_code 3 = .ok (.istore 4, 2) := by decide +kernel
theorem d_Lit_endOfDigits_5 : decode prog_5_method_5_code 5 = .ok (.iload 4, 2) := by decide +kernel
theorem d_Lit_endOfDigits_7 : decode prog_5_method_5_code 7 = .ok (.aload_n 0, 1) := by decide +kernel
theorem d_Lit_endOfDigits_8 : decode prog_5_method_5_code 8 = .ok (.invokevirtual 54, 3) := by decide +kernel
theorem d_Lit_endOfDigits_11 : decode prog_5_method_5_code 11 = .ok (.if_icmp .ge 49, 3) := by decide +kernel
theorem d_Lit_endOfDigits_14 : decode prog_5_method_5_code 14 = .ok (.aload_n 0, 1) := by decide +kernel
theorem d_Lit_endOfDigits_15 : decode prog_5_method_5_code 15 = .ok (.iload 4, 2) := by decide +kernel
theorem d_Lit_endOfDigits_17 : decode prog_5_method_5_code 17 = .ok (.invokevirtual 15, 3) := by decide +kernel
theorem d_Lit_endOfDigits_20 : decode prog_5_method_5_code 20 = .ok (.istore 5, 2) := by decide +kernel
theorem d_Lit_endOfDigits_22 : decode prog_5_method_5_code 22 = .ok (.iload 5, 2) := by decide +kernel
theorem d_Lit_endOfDigits_24 : decode prog_5_method_5_code 24 = .ok (.iload_n 2, 1) := by decide +kernel
theorem d_Lit_endOfDigits_25 : decode prog_5_method_5_code 25 = .ok (.invokestatic 61, 3) := by decide +kernel
theorem d_Lit_endOfDigits_28 : decode prog_5_method_5_code 28 = .ok (.ifCond .lt 11, 3) := by decide +kernel
theorem d_Lit_endOfDigits_31 : decode prog_5_method_5_code 31 = .ok (.iload 4, 2) := by decide +kernel
theorem d_Lit_endOfDigits_33 : decode prog_5_method_5_code 33 = .ok (.iconst 1, 1) := by decide +kernel
theorem d_Lit_endOfDigits_34 : decode prog_5_method_5_code 34 = .ok (.iadd, 1) := by decide +kernel
theorem d_Lit_endOfDigits_35 : decode prog_5_method_5_code 35 = .ok (.istore_n 3, 1) := by decide +kernel
theorem d_Lit_endOfDigits_36 : decode prog_5_method_5_code 36 = .ok (.goto 18, 3) := by decide +kernel
theorem d_Lit_endOfDigits_39 : decode prog_5_method_5_code 39 = .ok (.iload 5, 2) := by decide +kernel
theorem d_Lit_endOfDigits_41 : decode prog_5_method_5_code 41 = .ok (.bipush 95, 2) := by decide +kernel
theorem d_Lit_endOfDigits_43 : decode prog_5_method_5_code 43 = .ok (.if_icmp .ne 17, 3) := by decide +kernel
theorem d_Lit_endOfDigits_46 : decode prog_5_method_5_code 46 = .ok (.iload_n 3, 1) := by decide +kernel
theorem d_Lit_endOfDigits_47 : decode prog_5_method_5_code 47 = .ok (.iload_n 1, 1) := by decide +kernel
theorem d_Lit_endOfDigits_48 : decode prog_5_method_5_code 48 = .ok (.if_icmp .ne 6, 3) := by decide +kernel
theorem d_Lit_endOfDigits_51 : decode prog_5_method_5_code 51 = .ok (.goto 9, 3) := by decide +kernel
theorem d_Lit_endOfDigits_54 : decode prog_5_method_5_code 54 = .ok (.iinc 4 1, 3) := by decide +kernel
theorem d_Lit_endOfDigits_57 : decode prog_5_method_5_code 57 = .ok (.goto (-52), 3) := by decide +kernel
theorem d_Lit_endOfDigits_60 : decode prog_5_method_5_code 60 = .ok (.iload_n 3, 1) := by decide +kernel
theorem d_Lit_endOfDigits_61 : decode prog_5_method_5_code 61 = .ok (.ireturn, 1) := by decide +kernel
def f_Lit_endOfDigits_5 (fu : Nat) (n_w0_letters : Nat) (x1 : Int32) (x2 : Int32) (w0_start : Int32) (w0_end : Int32) (w0_letters_a : Nat → Int32)  : Nat → Int32 → Int32 → Option (Int32)
  | 0, _, _ => none
  | n + 1, y3, y4 =>
  (f_Row_length w0_start w0_end).bind fun u_1 =>
  (if u_1 ≤ y4 then
  some (y3)
  else
  (f_Row_at n_w0_letters y4 w0_start w0_end w0_letters_a).bind fun u_2 =>
  (f_Lit_digitOf u_2 x2).bind fun u_3 =>
  (if u_3 < 0 then
  (if u_2 = 95 then
  (if y3 = x1 then
  some (y3)
  else
  f_Lit_endOfDigits_5 fu n_w0_letters x1 x2 w0_start w0_end w0_letters_a n y3 (y4 + 1))
  else
  some (y3))
  else
  zz_lt (y4 + 1) fun x3_4 =>
  f_Lit_endOfDigits_5 fu n_w0_letters x1 x2 w0_start w0_end w0_letters_a n x3_4 (y4 + 1)))
theorem f_Lit_endOfDigits_5_s (fu : Nat) (n_w0_letters : Nat) (x1 : Int32) (x2 : Int32) (w0_start : Int32) (w0_end : Int32) (w0_letters_a : Nat → Int32)  (n : Nat) (y3 : Int32) (y4 : Int32) : f_Lit_endOfDigits_5 fu n_w0_letters x1 x2 w0_start w0_end w0_letters_a (n + 1) y3 y4 =
  (f_Row_length w0_start w0_end).bind fun u_1 =>
  (if u_1 ≤ y4 then
  some (y3)
  else
  (f_Row_at n_w0_letters y4 w0_start w0_end w0_letters_a).bind fun u_2 =>
  (f_Lit_digitOf u_2 x2).bind fun u_3 =>
  (if u_3 < 0 then
  (if u_2 = 95 then
  (if y3 = x1 then
  some (y3)
  else
  f_Lit_endOfDigits_5 fu n_w0_letters x1 x2 w0_start w0_end w0_letters_a n y3 (y4 + 1))
  else
  some (y3))
  else
  zz_lt (y4 + 1) fun x3_4 =>
  f_Lit_endOfDigits_5 fu n_w0_letters x1 x2 w0_start w0_end w0_letters_a n x3_4 (y4 + 1))) := rfl
def f_Lit_endOfDigits (fu : Nat) (n_w0_letters : Nat) (x1 : Int32) (x2 : Int32) (w0_start : Int32) (w0_end : Int32) (w0_letters_a : Nat → Int32) : Option (Int32) :=
  f_Lit_endOfDigits_5 fu n_w0_letters x1 x2 w0_start w0_end w0_letters_a fu x1 x1
set_option maxHeartbeats 4000000 in
set_option maxRecDepth 100000 in
theorem c_Lit_endOfDigits (l : Launch) (dC : Nat → ClassId) (dI : Nat → Nat → Nat) (cI cC cB cJ : ClassId) (fu : Nat) (sz : Nat) (h_w0 : Nat) (h_w0_letters : Nat) (n_w0_letters : Nat) (x1 : Int32) (x2 : Int32) (w0_start : Int32) (w0_end : Int32) (w0_letters_a : Nat → Int32) (u : Int32) (hf : f_Lit_endOfDigits fu n_w0_letters x1 x2 w0_start w0_end w0_letters_a = some u) : Met l y_Lit_endOfDigits ws_Lit_endOfDigits rm_Lit_endOfDigits (zz_P zz_T (dC, dI) vwCl (zz_tys cI cC cB cJ) [.ref h_w0, .int x1, .int x2] [(h_w0, .inr (4, [.ref h_w0_letters, .int w0_start, .int w0_end])), (h_w0_letters, .inl (cC, n_w0_letters, .inl w0_letters_a))] sz) (zz_Qi (dC, dI) vwCl u [(h_w0, .inr (4, [.ref h_w0_letters, .int w0_start, .int w0_end])), (h_w0_letters, .inl (cC, n_w0_letters, .inl w0_letters_a))] (va_A [(h_w0, .inr (4, [.ref h_w0_letters, .int w0_start, .int w0_end])), (h_w0_letters, .inl (cC, n_w0_letters, .inl w0_letters_a))] sz)) 0 0 (va_A [(h_w0, .inr (4, [.ref h_w0_letters, .int w0_start, .int w0_end])), (h_w0_letters, .inl (cC, n_w0_letters, .inl w0_letters_a))] sz) := by
  refine Met.ofW (cc := prog_5_method_5_code) (maxL := 6) (ret := (some .int)) (by decide +kernel) rfl ?_
  intro p e s m args below meth c s₁ B hml hv
  obtain ⟨rfl, hsz, hP, hK, hD0, hX⟩ := hv
  have hx := B.exec
  have hb := B.bytes
  have hr := B.returns
  have hts := atoms_spec (ws := ws_Lit_endOfDigits) B.pre
  have hw : ∀ w ∈ zw, w.before [.ref h_w0, .int x1, .int x2].toArray s = true := fun w h => hts w (List.mem_cons_of_mem _ h)
  have hown : s.vm.findClass R_Lit = some m.cls := findClass_of_methodNamed B.named
  have hlocks := B.notSynchronized
  subst hsz
  have hD := hD0.self (sz := s.heap.size)
  generalize hAe : va_A [(h_w0, .inr (4, [.ref h_w0_letters, .int w0_start, .int w0_end])), (h_w0_letters, .inl (cC, n_w0_letters, .inl w0_letters_a))] s.heap.size = A at hD hX ⊢
  have hA : ∀ q : Nat, s.heap.size ≤ q → A q := fun q h => by rw [← hAe]; exact Or.inr h
  have hS : va_S A s.heap s.heap [] := va_S.rf
  have hl := lv_entry [.ref h_w0, .int x1, .int x2] (n := 6) (Nat.le_of_ble_eq_true rfl)
  rw [lg_entry_eq]
  generalize (lg_sl [.ref h_w0, .int x1, .int x2] ++ List.replicate (6 - (lg_sl [.ref h_w0, .int x1, .int x2]).length) Slot.unset).toArray = ls at hl ⊢
  have hl : lv_has ls 6 [(0, .ref h_w0), (1, .int x1), (2, .int x2)] := hl
  refine zz_endi hx hb hr hlocks (fun Qq hend => ?_)
  have hL_5 : ∀ (n : Nat), ∀ (y3 : Int32) (y4 : Int32) (ls : Array Slot) (H : Heap) (locs : List Loc), lv_has ls 6 [(0, .ref h_w0), (1, .int x1), (2, .int x2), (3, .int y3), (4, .int y4)] → va_P (dC, dI) vwCl [(h_w0, .inr (4, [.ref h_w0_letters, .int w0_start, .int w0_end])), (h_w0_letters, .inl (cC, n_w0_letters, .inl w0_letters_a))] H → va_D A [(h_w0, .inr (4, [.ref h_w0_letters, .int w0_start, .int w0_end])), (h_w0_letters, .inl (cC, n_w0_letters, .inl w0_letters_a))] → va_S A s.heap H locs → f_Lit_endOfDigits_5 fu n_w0_letters x1 x2 w0_start w0_end w0_letters_a n y3 y4 = some u → W p l e (headSpec ws_Lit_endOfDigits rm_Lit_endOfDigits).room s m [.ref h_w0, .int x1, .int x2].toArray below meth c H locs 0 0 Qq (F0 m 5 ls []) := by
    intro n
    induction n with
    | zero =>
      intro y3 y4 ls H locs hl hP hD hS hf
      exact zz_no hf
    | succ n ih =>
      intro y3 y4 ls H locs hl hP hD hS hf
      rw [f_Lit_endOfDigits_5_s] at hf
      refine lv_iload hx hb d_Lit_endOfDigits_5 (lv_at hl 4 rfl) ?_
      refine lv_aload_n hx hb d_Lit_endOfDigits_7 rfl (lv_at hl 0 rfl) ?_
      obtain ⟨u_1, hu_1, hf⟩ := zz_bd hf
      refine zz_ci (ws' := [(h_w0, .inr (4, [.ref h_w0_letters, .int w0_start, .int w0_end])), (h_w0_letters, .inl (cC, n_w0_letters, .inl w0_letters_a))]) (wc := [(h_w0, .inr (4, [.ref h_w0_letters, .int w0_start, .int w0_end]))]) (w' := [(h_w0, .inr (4, [.ref h_w0_letters, .int w0_start, .int w0_end]))]) hP hD hS hA [0] [1] [1, 0] rfl rfl (by decide) (by decide) rfl (by decide) (va_runV (As := []) (rest := [.int y4]) ⟨hx, hb, hml, hown, hw⟩ (c_Row_length l dC dI cI cC cB cJ _ h_w0 h_w0_letters w0_start w0_end u_1 hu_1) (cwV 0 hw (zg_V wd_575 wd_284 wd_285 wd_2 wd_286) rfl rfl rfl hd_Row_length ⟨Nat.le_of_ble_eq_true rfl, Nat.le_of_ble_eq_true rfl⟩) (zz_preV zz_TE (va_recv (q0 := 0) (ci := 4) hK hP rfl rfl) hP hD hK hS hA trivial [0] rfl (by decide)) rfl rfl hl.1 rfl (lv_room (Nat.le_of_ble_eq_true rfl)) d_Lit_endOfDigits_8 ⟨Nat.zero_le _, Nat.zero_le _⟩) (fun H locs hP hD hS => ?_)
      refine lv_icmp_ge (tgt := 60) hx hb d_Lit_endOfDigits_11 (by decide) (fun hc => ?_) (fun hc => ?_)
      · have hf := zz_ifp hc hf
        refine lv_iload_n hx hb d_Lit_endOfDigits_60 rfl (lv_at hl 3 rfl) ?_
        cases hf
        exact hend 61 ls _ _ d_Lit_endOfDigits_61 hP hD hS
      · have hf := zz_ifn hc hf
        refine lv_aload_n hx hb d_Lit_endOfDigits_14 rfl (lv_at hl 0 rfl) ?_
        refine lv_iload hx hb d_Lit_endOfDigits_15 (lv_at hl 4 rfl) ?_
        obtain ⟨u_2, hu_2, hf⟩ := zz_bd hf
        refine zz_ci (ws' := [(h_w0, .inr (4, [.ref h_w0_letters, .int w0_start, .int w0_end])), (h_w0_letters, .inl (cC, n_w0_letters, .inl w0_letters_a))]) (wc := [(h_w0, .inr (4, [.ref h_w0_letters, .int w0_start, .int w0_end])), (h_w0_letters, .inl (cC, n_w0_letters, .inl w0_letters_a))]) (w' := [(h_w0, .inr (4, [.ref h_w0_letters, .int w0_start, .int w0_end])), (h_w0_letters, .inl (cC, n_w0_letters, .inl w0_letters_a))]) hP hD hS hA [0, 1] [] [0, 1] rfl rfl (by decide) (by decide) rfl (by decide) (va_runV (As := [.int y4]) (rest := []) ⟨hx, hb, hml, hown, hw⟩ (c_Row_at l dC dI cI cC cB cJ _ h_w0 h_w0_letters n_w0_letters y4 w0_start w0_end w0_letters_a u_2 hu_2) (cwV 1 hw (zg_V wd_568 wd_448 wd_449 wd_2 wd_450) rfl rfl rfl hd_Row_at ⟨Nat.le_of_ble_eq_true rfl, Nat.le_of_ble_eq_true rfl⟩) (zz_preV zz_TE (va_recv (q0 := 0) (ci := 4) hK hP rfl rfl) hP hD hK hS hA trivial [0, 1] rfl (by decide)) rfl rfl hl.1 rfl (lv_room (Nat.le_of_ble_eq_true rfl)) d_Lit_endOfDigits_17 ⟨Nat.zero_le _, Nat.zero_le _⟩) (fun H locs hP hD hS => ?_)
        refine lv_istore hx hb d_Lit_endOfDigits_20 hl (by decide) rfl (fun ls hl => ?_)
        have hl : lv_has ls 6 [(5, .int u_2), (0, .ref h_w0), (1, .int x1), (2, .int x2), (3, .int y3), (4, .int y4)] := hl
        refine lv_iload hx hb d_Lit_endOfDigits_22 (lv_at hl 0 rfl) ?_
        refine lv_iload_n hx hb d_Lit_endOfDigits_24 rfl (lv_at hl 3 rfl) ?_
        obtain ⟨u_3, hu_3, hf⟩ := zz_bd hf
        refine zz_ci (ws' := [(h_w0, .inr (4, [.ref h_w0_letters, .int w0_start, .int w0_end])), (h_w0_letters, .inl (cC, n_w0_letters, .inl w0_letters_a))]) (wc := []) (w' := []) hP hD hS hA [] [0, 1] [0, 1] rfl rfl (by decide) (by decide) rfl (by decide) (va_runS (As := [.int u_2, .int x2]) (rest := []) ⟨hx, hb, hml, hown, hw⟩ (c_Lit_digitOf l dC dI cI cC cB cJ _ u_2 x2 u_3 hu_3) (va_cwS 2 hw (zg_S wd_576 wd_577 wd_3 wd_578) rfl rfl rfl hd_Lit_digitOf ⟨Nat.le_of_ble_eq_true rfl, Nat.le_of_ble_eq_true rfl⟩) (zz_preS zz_TE hP hD hK hS hA trivial [] rfl (by decide)) rfl rfl hl.1 rfl (lv_room (Nat.le_of_ble_eq_true rfl)) d_Lit_endOfDigits_25 ⟨Nat.zero_le _, Nat.zero_le _⟩) (fun H locs hP hD hS => ?_)
        refine lv_if_lt (tgt := 39) hx hb d_Lit_endOfDigits_28 (by decide) (fun hc => ?_) (fun hc => ?_)
        · have hf := zz_ifp hc hf
          refine lv_iload hx hb d_Lit_endOfDigits_39 (lv_at hl 0 rfl) ?_
          refine lv_bipush (v := 95) hx hb d_Lit_endOfDigits_41 (by decide) ?_
          refine lv_icmp_ne (tgt := 60) hx hb d_Lit_endOfDigits_43 (by decide) (fun hc => ?_) (fun hc => ?_)
          · have hf := zz_ifn hc hf
            refine lv_iload_n hx hb d_Lit_endOfDigits_60 rfl (lv_at hl 4 rfl) ?_
            cases hf
            exact hend 61 ls _ _ d_Lit_endOfDigits_61 hP hD hS
          · have hf := zz_ifp hc hf
            refine lv_iload_n hx hb d_Lit_endOfDigits_46 rfl (lv_at hl 4 rfl) ?_
            refine lv_iload_n hx hb d_Lit_endOfDigits_47 rfl (lv_at hl 2 rfl) ?_
            refine lv_icmp_ne (tgt := 54) hx hb d_Lit_endOfDigits_48 (by decide) (fun hc => ?_) (fun hc => ?_)
            · have hf := zz_ifn hc hf
              refine lv_iinc (k := 5) (v := y4 + 1) hx hb d_Lit_endOfDigits_54 hl rfl rfl (by decide) rfl (fun ls hl => ?_)
              have hl : lv_has ls 6 [(4, .int (y4 + 1)), (5, .int u_2), (0, .ref h_w0), (1, .int x1), (2, .int x2), (3, .int y3)] := hl
              refine lv_goto (tgt := 5) hx hb d_Lit_endOfDigits_57 (by decide) ?_
              exact ih y3 (y4 + 1) ls _ _ (lv_sub hl [2, 3, 4, 5, 0] rfl) hP hD hS hf
            · have hf := zz_ifp hc hf
              refine lv_goto (tgt := 60) hx hb d_Lit_endOfDigits_51 (by decide) ?_
              refine lv_iload_n hx hb d_Lit_endOfDigits_60 rfl (lv_at hl 4 rfl) ?_
              cases hf
              exact hend 61 ls _ _ d_Lit_endOfDigits_61 hP hD hS
        · have hf := zz_ifn hc hf
          refine lv_iload hx hb d_Lit_endOfDigits_31 (lv_at hl 5 rfl) ?_
          refine lv_iconst (v := 1) hx hb d_Lit_endOfDigits_33 (by decide) ?_
          refine lv_iadd hx hb d_Lit_endOfDigits_34 ?_
          refine lv_topi (fun x3_4 e_x3_4 => ?_)
          have hf := zz_ltp hf x3_4 e_x3_4
          refine lv_istore_n hx hb d_Lit_endOfDigits_35 rfl hl (by decide) rfl (fun ls hl => ?_)
          have hl : lv_has ls 6 [(3, .int x3_4), (5, .int u_2), (0, .ref h_w0), (1, .int x1), (2, .int x2), (4, .int y4)] := hl
          refine lv_goto (tgt := 54) hx hb d_Lit_endOfDigits_36 (by decide) ?_
          refine lv_iinc (k := 5) (v := y4 + 1) hx hb d_Lit_endOfDigits_54 hl rfl rfl (by decide) rfl (fun ls hl => ?_)
          have hl : lv_has ls 6 [(4, .int (y4 + 1)), (3, .int x3_4), (5, .int u_2), (0, .ref h_w0), (1, .int x1), (2, .int x2)] := hl
          refine lv_goto (tgt := 5) hx hb d_Lit_endOfDigits_57 (by decide) ?_
          exact ih x3_4 (y4 + 1) ls _ _ (lv_sub hl [3, 4, 5, 1, 0] rfl) hP hD hS hf
  unfold f_Lit_endOfDigits at hf
  refine lv_iload_n hx hb d_Lit_endOfDigits_0 rfl (lv_at hl 1 rfl) ?_
  refine lv_istore_n hx hb d_Lit_endOfDigits_1 rfl hl (by decide) rfl (fun ls hl => ?_)
  have hl : lv_has ls 6 [(3, .int x1), (0, .ref h_w0), (1, .int x1), (2, .int x2)] := hl
  refine lv_iload_n hx hb d_Lit_endOfDigits_2 rfl (lv_at hl 2 rfl) ?_
  refine lv_istore hx hb d_Lit_endOfDigits_3 hl (by decide) rfl (fun ls hl => ?_)
  have hl : lv_has ls 6 [(4, .int x1), (3, .int x1), (0, .ref h_w0), (1, .int x1), (2, .int x2)] := hl
  exact hL_5 fu x1 x1 ls _ _ (lv_sub hl [2, 3, 4, 1, 0] rfl) hP hD hS hf
abbrev ws_Lit_addDigit : List Cond := .code y_Lit_addDigit prog_5_method_8_code 3 none :: zw
abbrev rm_Lit_addDigit : Room := { frames := 0, cells := 0, slots := 0, locals := 0 }
theorem hd_Lit_addDigit : y_Lit_addDigit.cls = "RealText$Literal" ∧ y_Lit_addDigit.cls ≠ "java/lang/invoke/MethodHandle" ∧ y_Lit_addDigit.cls ≠ "java/lang/invoke/VarHandle" ∧ (parseMethodDescriptor y_Lit_addDigit.desc).map (fun d => d.parameters.length) = some 1 := by decide +kernel
theorem d_Lit_addDigit_0 : decode prog_5_method_8_code 0 = .ok (.aload_n 0, 1) := by decide +kernel
theorem d_Lit_addDigit_1 : decode prog_5_method_8_code 1 = .ok (.getfield 33, 3) := by decide +kernel
theorem d_Lit_addDigit_4 : decode prog_5_method_8_code 4 = .ok (.ifCond .ne 11, 3) := by decide +kernel
theorem d_Lit_addDigit_7 : decode prog_5_method_8_code 7 = .ok (.iload_n 1, 1) := by decide +kernel
theorem d_Lit_addDigit_8 : decode prog_5_method_8_code 8 = .ok (.ifCond .ne 7, 3) := by decide +kernel
theorem d_Lit_addDigit_11 : decode prog_5_method_8_code 11 = .ok (.iconst 1, 1) := by decide +kernel
theorem d_Lit_addDigit_12 : decode prog_5_method_8_code 12 = .ok (.goto 4, 3) := by decide +kernel
theorem d_Lit_addDigit_15 : decode prog_5_method_8_code 15 = .ok (.iconst 0, 1) := by decide +kernel
theorem d_Lit_addDigit_16 : decode prog_5_method_8_code 16 = .ok (.istore_n 2, 1) := by decide +kernel
theorem d_Lit_addDigit_17 : decode prog_5_method_8_code 17 = .ok (.iload_n 2, 1) := by decide +kernel
theorem d_Lit_addDigit_18 : decode prog_5_method_8_code 18 = .ok (.ifCond .ne 36, 3) := by decide +kernel
theorem d_Lit_addDigit_21 : decode prog_5_method_8_code 21 = .ok (.aload_n 0, 1) := by decide +kernel
theorem d_Lit_addDigit_22 : decode prog_5_method_8_code 22 = .ok (.getfield 33, 3) := by decide +kernel
theorem d_Lit_addDigit_25 : decode prog_5_method_8_code 25 = .ok (.aload_n 0, 1) := by decide +kernel
theorem d_Lit_addDigit_26 : decode prog_5_method_8_code 26 = .ok (.getfield 9, 3) := by decide +kernel
theorem d_Lit_addDigit_29 : decode prog_5_method_8_code 29 = .ok (.arraylength, 1) := by decide +kernel
theorem d_Lit_addDigit_30 : decode prog_5_method_8_code 30 = .ok (.if_icmp .ge 24, 3) := by decide +kernel
theorem d_Lit_addDigit_33 : decode prog_5_method_8_code 33 = .ok (.aload_n 0, 1) := by decide +kernel
theorem d_Lit_addDigit_34 : decode prog_5_method_8_code 34 = .ok (.getfield 9, 3) := by decide +kernel
theorem d_Lit_addDigit_37 : decode prog_5_method_8_code 37 = .ok (.aload_n 0, 1) := by decide +kernel
theorem d_Lit_addDigit_38 : decode prog_5_method_8_code 38 = .ok (.getfield 33, 3) := by decide +kernel
theorem d_Lit_addDigit_41 : decode prog_5_method_8_code 41 = .ok (.iload_n 1, 1) := by decide +kernel
theorem d_Lit_addDigit_42 : decode prog_5_method_8_code 42 = .ok (.i2b, 1) := by decide +kernel
theorem d_Lit_addDigit_43 : decode prog_5_method_8_code 43 = .ok (.bastore, 1) := by decide +kernel
theorem d_Lit_addDigit_44 : decode prog_5_method_8_code 44 = .ok (.aload_n 0, 1) := by decide +kernel
theorem d_Lit_addDigit_45 : decode prog_5_method_8_code 45 = .ok (.dup, 1) := by decide +kernel
theorem d_Lit_addDigit_46 : decode prog_5_method_8_code 46 = .ok (.getfield 33, 3) := by decide +kernel
theorem d_Lit_addDigit_49 : decode prog_5_method_8_code 49 = .ok (.iconst 1, 1) := by decide +kernel
theorem d_Lit_addDigit_50 : decode prog_5_method_8_code 50 = .ok (.iadd, 1) := by decide +kernel
theorem d_Lit_addDigit_51 : decode prog_5_method_8_code 51 = .ok (.putfield 33, 3) := by decide +kernel
theorem d_Lit_addDigit_54 : decode prog_5_method_8_code 54 = .ok (.return_, 1) := by decide +kernel
def f_Lit_addDigit_16 (n_v_digits : Nat) (x1 : Int32)  (k0 : Int32) (v_digitCount : Int32) (v_digits_a : Nat → Int32) : Option (Int32 × (Nat → Int32)) :=
  (if k0 = 0 then
  (if (nI n_v_digits) ≤ v_digitCount then
  some (v_digitCount, v_digits_a)
  else
  if zz_in v_digitCount n_v_digits = true then
  some (v_digitCount + 1, upd v_digits_a v_digitCount.toNatClampNeg (vp_nar .byte x1.toInt8.toInt32))
  else none)
  else
  some (v_digitCount, v_digits_a))
def f_Lit_addDigit_15 (n_v_digits : Nat) (x1 : Int32)  (v_digitCount : Int32) (v_digits_a : Nat → Int32) : Option (Int32 × (Nat → Int32)) :=
  f_Lit_addDigit_16 n_v_digits x1 0 v_digitCount v_digits_a
def f_Lit_addDigit (n_v_digits : Nat) (x1 : Int32) (v_digitCount : Int32) (v_digits_a : Nat → Int32) : Option (Int32 × (Nat → Int32)) :=
  (if v_digitCount = 0 then
  (if x1 = 0 then
  f_Lit_addDigit_16 n_v_digits x1 1 v_digitCount v_digits_a
  else
  f_Lit_addDigit_15 n_v_digits x1 v_digitCount v_digits_a)
  else
  f_Lit_addDigit_15 n_v_digits x1 v_digitCount v_digits_a)
set_option maxHeartbeats 4000000 in
set_option maxRecDepth 100000 in
theorem c_Lit_addDigit (l : Launch) (dC : Nat → ClassId) (dI : Nat → Nat → Nat) (cI cC cB cJ : ClassId) (sz : Nat) (h_v : Nat) (h_v_digits : Nat) (n_v_digits : Nat) (x1 : Int32) (v_digitCount : Int32) (v_fraction : Int32) (v_exponent : Int32) (v_isHex : Int32) (v_digits_a : Nat → Int32) (u : Int32 × (Nat → Int32)) (hf : f_Lit_addDigit n_v_digits x1 v_digitCount v_digits_a = some u) : Met l y_Lit_addDigit ws_Lit_addDigit rm_Lit_addDigit (zz_P zz_T (dC, dI) vwCl (zz_tys cI cC cB cJ) [.ref h_v, .int x1] [(h_v, .inr (2, [.ref h_v_digits, .int v_digitCount, .int v_fraction, .int v_exponent, .int v_isHex])), (h_v_digits, .inl (cB, n_v_digits, .inl v_digits_a))] sz) (zz_Qv (dC, dI) vwCl [(h_v, .inr (2, [.ref h_v_digits, .int u.1, .int v_fraction, .int v_exponent, .int v_isHex])), (h_v_digits, .inl (cB, n_v_digits, .inl u.2))] (va_A [(h_v, .inr (2, [.ref h_v_digits, .int v_digitCount, .int v_fraction, .int v_exponent, .int v_isHex])), (h_v_digits, .inl (cB, n_v_digits, .inl v_digits_a))] sz)) 0 0 (va_A [(h_v, .inr (2, [.ref h_v_digits, .int v_digitCount, .int v_fraction, .int v_exponent, .int v_isHex])), (h_v_digits, .inl (cB, n_v_digits, .inl v_digits_a))] sz) := by
  refine Met.ofW (cc := prog_5_method_8_code) (maxL := 3) (ret := none) (by decide +kernel) rfl ?_
  intro p e s m args below meth c s₁ B hml hv
  obtain ⟨rfl, hsz, hP, hK, hD0, hX⟩ := hv
  have hx := B.exec
  have hb := B.bytes
  have hr := B.returns
  have hts := atoms_spec (ws := ws_Lit_addDigit) B.pre
  have hw : ∀ w ∈ zw, w.before [.ref h_v, .int x1].toArray s = true := fun w h => hts w (List.mem_cons_of_mem _ h)
  have hown : s.vm.findClass R_Lit = some m.cls := findClass_of_methodNamed B.named
  have hlocks := B.notSynchronized
  subst hsz
  have hD := hD0.self (sz := s.heap.size)
  generalize hAe : va_A [(h_v, .inr (2, [.ref h_v_digits, .int v_digitCount, .int v_fraction, .int v_exponent, .int v_isHex])), (h_v_digits, .inl (cB, n_v_digits, .inl v_digits_a))] s.heap.size = A at hD hX ⊢
  have hA : ∀ q : Nat, s.heap.size ≤ q → A q := fun q h => by rw [← hAe]; exact Or.inr h
  have hS : va_S A s.heap s.heap [] := va_S.rf
  have hl := lv_entry [.ref h_v, .int x1] (n := 3) (Nat.le_of_ble_eq_true rfl)
  rw [lg_entry_eq]
  generalize (lg_sl [.ref h_v, .int x1] ++ List.replicate (3 - (lg_sl [.ref h_v, .int x1]).length) Slot.unset).toArray = ls at hl ⊢
  have hl : lv_has ls 3 [(0, .ref h_v), (1, .int x1)] := hl
  refine zz_endv hx hb hr hlocks (fun Qq hend => ?_)
  have hL_16 : ∀ (k0 : Int32) (v_digitCount : Int32) (v_digits_a : Nat → Int32) (ls : Array Slot) (H : Heap) (locs : List Loc), lv_has ls 3 [(0, .ref h_v), (1, .int x1)] → va_P (dC, dI) vwCl [(h_v, .inr (2, [.ref h_v_digits, .int v_digitCount, .int v_fraction, .int v_exponent, .int v_isHex])), (h_v_digits, .inl (cB, n_v_digits, .inl v_digits_a))] H → va_D A [(h_v, .inr (2, [.ref h_v_digits, .int v_digitCount, .int v_fraction, .int v_exponent, .int v_isHex])), (h_v_digits, .inl (cB, n_v_digits, .inl v_digits_a))] → va_S A s.heap H locs → f_Lit_addDigit_16 n_v_digits x1 k0 v_digitCount v_digits_a = some u → W p l e (headSpec ws_Lit_addDigit rm_Lit_addDigit).room s m [.ref h_v, .int x1].toArray below meth c H locs 0 0 Qq (F0 m 16 ls [.int k0]) := by
    intro k0 v_digitCount v_digits_a ls H locs hl hP hD hS hf
    unfold f_Lit_addDigit_16 at hf
    refine lv_istore_n hx hb d_Lit_addDigit_16 rfl hl (by decide) rfl (fun ls hl => ?_)
    have hl : lv_has ls 3 [(2, .int k0), (0, .ref h_v), (1, .int x1)] := hl
    refine lv_iload_n hx hb d_Lit_addDigit_17 rfl (lv_at hl 0 rfl) ?_
    refine lv_if_ne (tgt := 54) hx hb d_Lit_addDigit_18 (by decide) (fun hc => ?_) (fun hc => ?_)
    · have hf := zz_ifn hc hf
      cases hf
      exact hend 54 ls _ _ d_Lit_addDigit_54 hP hD hS
    · have hf := zz_ifp hc hf
      refine lv_aload_n hx hb d_Lit_addDigit_21 rfl (lv_at hl 1 rfl) ?_
      refine va_get (D := (dC, dI)) (ci := 2) (v := .int v_digitCount) (C := R_Lit) (T := T_Lit) (N := 5) hx hb hw in_Lit hown hK hP 0 rfl rfl 1 (by decide) (hw _ wd_57) (fun _ h9 => h9) rfl d_Lit_addDigit_22 ?_
      refine lv_aload_n hx hb d_Lit_addDigit_25 rfl (lv_at hl 1 rfl) ?_
      refine va_get (D := (dC, dI)) (ci := 2) (v := .ref h_v_digits) (C := R_Lit) (T := T_Lit) (N := 5) hx hb hw in_Lit hown hK hP 0 rfl rfl 0 (by decide) (hw _ wd_54) (fun _ h9 => h9) rfl d_Lit_addDigit_26 ?_
      refine va_alen (v := nI n_v_digits) hx hb hK hP 1 2 rfl rfl rfl d_Lit_addDigit_29 ?_
      refine lv_icmp_ge (tgt := 54) hx hb d_Lit_addDigit_30 (by decide) (fun hc => ?_) (fun hc => ?_)
      · have hf := zz_ifp hc hf
        cases hf
        exact hend 54 ls _ _ d_Lit_addDigit_54 hP hD hS
      · have hf := zz_ifn hc hf
        refine lv_aload_n hx hb d_Lit_addDigit_33 rfl (lv_at hl 1 rfl) ?_
        refine va_get (D := (dC, dI)) (ci := 2) (v := .ref h_v_digits) (C := R_Lit) (T := T_Lit) (N := 5) hx hb hw in_Lit hown hK hP 0 rfl rfl 0 (by decide) (hw _ wd_54) (fun _ h9 => h9) rfl d_Lit_addDigit_34 ?_
        refine lv_aload_n hx hb d_Lit_addDigit_37 rfl (lv_at hl 1 rfl) ?_
        refine va_get (D := (dC, dI)) (ci := 2) (v := .int v_digitCount) (C := R_Lit) (T := T_Lit) (N := 5) hx hb hw in_Lit hown hK hP 0 rfl rfl 1 (by decide) (hw _ wd_57) (fun _ h9 => h9) rfl d_Lit_addDigit_38 ?_
        refine lv_iload_n hx hb d_Lit_addDigit_41 rfl (lv_at hl 2 rfl) ?_
        refine lv_i2b hx hb d_Lit_addDigit_42 rfl ?_
        obtain ⟨hb_1, hf⟩ := zz_gd hf
        refine va_bast hx hb hK hP hD hS 1 2 rfl rfl (zz_vp hb_1) d_Lit_addDigit_43 (fun H locs hP hD hS => ?_)
        have hP : va_P (dC, dI) vwCl [(h_v, .inr (2, [.ref h_v_digits, .int v_digitCount, .int v_fraction, .int v_exponent, .int v_isHex])), (h_v_digits, .inl (cB, n_v_digits, .inl (upd v_digits_a v_digitCount.toNatClampNeg (vp_nar .byte x1.toInt8.toInt32))))] H := hP
        have hD : va_D A [(h_v, .inr (2, [.ref h_v_digits, .int v_digitCount, .int v_fraction, .int v_exponent, .int v_isHex])), (h_v_digits, .inl (cB, n_v_digits, .inl (upd v_digits_a v_digitCount.toNatClampNeg (vp_nar .byte x1.toInt8.toInt32))))] := hD
        refine lv_aload_n hx hb d_Lit_addDigit_44 rfl (lv_at hl 1 rfl) ?_
        refine lv_dup hx hb d_Lit_addDigit_45 rfl ?_
        refine va_get (D := (dC, dI)) (ci := 2) (v := .int v_digitCount) (C := R_Lit) (T := T_Lit) (N := 5) hx hb hw in_Lit hown hK hP 0 rfl rfl 1 (by decide) (hw _ wd_57) (fun _ h9 => h9) rfl d_Lit_addDigit_46 ?_
        refine lv_iconst (v := 1) hx hb d_Lit_addDigit_49 (by decide) ?_
        refine lv_iadd hx hb d_Lit_addDigit_50 ?_
        refine va_put (D := (dC, dI)) (ci := 2) (v := .int (v_digitCount + 1)) (ty := .int) (C := R_Lit) (T := T_Lit) (N := 5) hx hb hw in_Lit ty_Lit tyok_Lit nm_Lit hown hK hP hD hS 0 rfl rfl 1 (by decide) (hw _ wd_57) (fun _ h9 => h9) rfl (tyok_Lit 1 (by decide)) rfl rfl (Nat.le_of_ble_eq_true rfl) d_Lit_addDigit_51 (fun H locs hP hD hS => ?_)
        have hP : va_P (dC, dI) vwCl [(h_v, .inr (2, [.ref h_v_digits, .int (v_digitCount + 1), .int v_fraction, .int v_exponent, .int v_isHex])), (h_v_digits, .inl (cB, n_v_digits, .inl (upd v_digits_a v_digitCount.toNatClampNeg (vp_nar .byte x1.toInt8.toInt32))))] H := hP
        have hD : va_D A [(h_v, .inr (2, [.ref h_v_digits, .int (v_digitCount + 1), .int v_fraction, .int v_exponent, .int v_isHex])), (h_v_digits, .inl (cB, n_v_digits, .inl (upd v_digits_a v_digitCount.toNatClampNeg (vp_nar .byte x1.toInt8.toInt32))))] := hD
        cases hf
        exact hend 54 ls _ _ d_Lit_addDigit_54 hP hD hS
  have hL_15 : ∀ (v_digitCount : Int32) (v_digits_a : Nat → Int32) (ls : Array Slot) (H : Heap) (locs : List Loc), lv_has ls 3 [(0, .ref h_v), (1, .int x1)] → va_P (dC, dI) vwCl [(h_v, .inr (2, [.ref h_v_digits, .int v_digitCount, .int v_fraction, .int v_exponent, .int v_isHex])), (h_v_digits, .inl (cB, n_v_digits, .inl v_digits_a))] H → va_D A [(h_v, .inr (2, [.ref h_v_digits, .int v_digitCount, .int v_fraction, .int v_exponent, .int v_isHex])), (h_v_digits, .inl (cB, n_v_digits, .inl v_digits_a))] → va_S A s.heap H locs → f_Lit_addDigit_15 n_v_digits x1 v_digitCount v_digits_a = some u → W p l e (headSpec ws_Lit_addDigit rm_Lit_addDigit).room s m [.ref h_v, .int x1].toArray below meth c H locs 0 0 Qq (F0 m 15 ls []) := by
    intro v_digitCount v_digits_a ls H locs hl hP hD hS hf
    unfold f_Lit_addDigit_15 at hf
    refine lv_iconst (v := 0) hx hb d_Lit_addDigit_15 (by decide) ?_
    exact hL_16 0 v_digitCount v_digits_a ls _ _ (lv_sub hl [0, 1] rfl) hP hD hS hf
  unfold f_Lit_addDigit at hf
  refine lv_aload_n hx hb d_Lit_addDigit_0 rfl (lv_at hl 0 rfl) ?_
  refine va_get (D := (dC, dI)) (ci := 2) (v := .int v_digitCount) (C := R_Lit) (T := T_Lit) (N := 5) hx hb hw in_Lit hown hK hP 0 rfl rfl 1 (by decide) (hw _ wd_57) (fun _ h9 => h9) rfl d_Lit_addDigit_1 ?_
  refine lv_if_ne (tgt := 15) hx hb d_Lit_addDigit_4 (by decide) (fun hc => ?_) (fun hc => ?_)
  · have hf := zz_ifn hc hf
    exact hL_15 v_digitCount v_digits_a ls _ _ (lv_sub hl [0, 1] rfl) hP hD hS hf
  · have hf := zz_ifp hc hf
    refine lv_iload_n hx hb d_Lit_addDigit_7 rfl (lv_at hl 1 rfl) ?_
    refine lv_if_ne (tgt := 15) hx hb d_Lit_addDigit_8 (by decide) (fun hc => ?_) (fun hc => ?_)
    · have hf := zz_ifn hc hf
      exact hL_15 v_digitCount v_digits_a ls _ _ (lv_sub hl [0, 1] rfl) hP hD hS hf
    · have hf := zz_ifp hc hf
      refine lv_iconst (v := 1) hx hb d_Lit_addDigit_11 (by decide) ?_
      refine lv_goto (tgt := 16) hx hb d_Lit_addDigit_12 (by decide) ?_
      exact hL_16 1 v_digitCount v_digits_a ls _ _ (lv_sub hl [0, 1] rfl) hP hD hS hf
abbrev ws_Lit_addDigits : List Cond := .code y_Lit_addDigits prog_5_method_7_code 8 (some .int) :: zw
abbrev rm_Lit_addDigits : Room := { frames := 1, cells := 0, slots := 0, locals := 22 }
theorem hd_Lit_addDigits : y_Lit_addDigits.cls = "RealText$Literal" ∧ y_Lit_addDigits.cls ≠ "java/lang/invoke/MethodHandle" ∧ y_Lit_addDigits.cls ≠ "java/lang/invoke/VarHandle" ∧ (parseMethodDescriptor y_Lit_addDigits.desc).map (fun d => d.parameters.length) = some 4 := by decide +kernel
theorem d_Lit_addDigits_0 : decode prog_5_method_7_code 0 = .ok (.iconst 0, 1) := by decide +kernel
theorem d_Lit_addDigits_1 : decode prog_5_method_7_code 1 = .ok (.istore 5, 2) := by decide +kernel
theorem d_Lit_addDigits_3 : decode prog_5_method_7_code 3 = .ok (.iload_n 2, 1) := by decide +kernel
theorem d_Lit_addDigits_4 : decode prog_5_method_7_code 4 = .ok (.istore 6, 2) := by decide +kernel
theorem d_Lit_addDigits_6 : decode prog_5_method_7_code 6 = .ok (.iload 6, 2) := by decide +kernel
theorem d_Lit_addDigits_8 : decode prog_5_method_7_code 8 = .ok (.iload_n 3, 1) := by decide +kernel
theorem d_Lit_addDigits_9 : decode prog_5_method_7_code 9 = .ok (.if_icmp .ge 36, 3) := by decide +kernel
theorem d_Lit_addDigits_12 : decode prog_5_method_7_code 12 = .ok (.aload_n 1, 1) := by decide +kernel
theorem d_Lit_addDigits_13 : decode prog_5_method_7_code 13 = .ok (.iload 6, 2) := by decide +kernel
theorem d_Lit_addDigits_15 : decode prog_5_method_7_code 15 = .ok (.invokevirtual 15, 3) := by decide +kernel
theorem d_Lit_addDigits_18 : decode prog_5_method_7_code 18 = .ok (.iload 4, 2) := by decide +kernel
theorem d_Lit_addDigits_20 : decode prog_5_method_7_code 20 = .ok (.invokestatic 61, 3) := by decide +kernel
theorem d_Lit_addDigits_23 : decode prog_5_method_7_code 23 = .ok (.istore 7, 2) := by decide +kernel
theorem d_Lit_addDigits_25 : decode prog_5_method_7_code 25 = .ok (.iload 7, 2) := by decide +kernel
theorem d_Lit_addDigits_27 : decode prog_5_method_7_code 27 = .ok (.ifCond .lt 12, 3) := by decide +kernel
theorem d_Lit_addDigits_30 : decode prog_5_method_7_code 30 = .ok (.iinc 5 1, 3) := by decide +kernel
theorem d_Lit_addDigits_33 : decode prog_5_method_7_code 33 = .ok (.aload_n 0, 1) := by decide +kernel
theorem d_Lit_addDigits_34 : decode prog_5_method_7_code 34 = .ok (.iload 7, 2) := by decide +kernel
theorem d_Lit_addDigits_36 : decode prog_5_method_7_code 36 = .ok (.invokevirtual 65, 3) := by decide +kernel
theorem d_Lit_addDigits_39 : decode prog_5_method_7_code 39 = .ok (.iinc 6 1, 3) := by decide +kernel
theorem d_Lit_addDigits_42 : decode prog_5_method_7_code 42 = .ok (.goto (-36), 3) := by decide +kernel
theorem d_Lit_addDigits_45 : decode prog_5_method_7_code 45 = .ok (.iload 5, 2) := by decide +kernel
theorem d_Lit_addDigits_47 : decode prog_5_method_7_code 47 = .ok (.ireturn, 1) := by decide +kernel
def f_Lit_addDigits_6 (fu : Nat) (n_v_digits : Nat) (n_w1_letters : Nat) (x2 : Int32) (x3 : Int32) (x4 : Int32) (w1_start : Int32) (w1_end : Int32) (w1_letters_a : Nat → Int32)  : Nat → Int32 → Int32 → Int32 → (Nat → Int32) → Option (Int32 × Int32 × (Nat → Int32))
  | 0, _, _, _, _ => none
  | n + 1, y5, y6, v_digitCount, v_digits_a =>
  (if x3 ≤ y6 then
  some (y5, v_digitCount, v_digits_a)
  else
  (f_Row_at n_w1_letters y6 w1_start w1_end w1_letters_a).bind fun u_1 =>
  (f_Lit_digitOf u_1 x4).bind fun u_2 =>
  (if u_2 < 0 then
  f_Lit_addDigits_6 fu n_v_digits n_w1_letters x2 x3 x4 w1_start w1_end w1_letters_a n y5 (y6 + 1) v_digitCount v_digits_a
  else
  (f_Lit_addDigit n_v_digits u_2 v_digitCount v_digits_a).bind fun u_3 =>
  f_Lit_addDigits_6 fu n_v_digits n_w1_letters x2 x3 x4 w1_start w1_end w1_letters_a n (y5 + 1) (y6 + 1) u_3.1 u_3.2))
theorem f_Lit_addDigits_6_s (fu : Nat) (n_v_digits : Nat) (n_w1_letters : Nat) (x2 : Int32) (x3 : Int32) (x4 : Int32) (w1_start : Int32) (w1_end : Int32) (w1_letters_a : Nat → Int32)  (n : Nat) (y5 : Int32) (y6 : Int32) (v_digitCount : Int32) (v_digits_a : Nat → Int32) : f_Lit_addDigits_6 fu n_v_digits n_w1_letters x2 x3 x4 w1_start w1_end w1_letters_a (n + 1) y5 y6 v_digitCount v_digits_a =
  (if x3 ≤ y6 then
  some (y5, v_digitCount, v_digits_a)
  else
  (f_Row_at n_w1_letters y6 w1_start w1_end w1_letters_a).bind fun u_1 =>
  (f_Lit_digitOf u_1 x4).bind fun u_2 =>
  (if u_2 < 0 then
  f_Lit_addDigits_6 fu n_v_digits n_w1_letters x2 x3 x4 w1_start w1_end w1_letters_a n y5 (y6 + 1) v_digitCount v_digits_a
  else
  (f_Lit_addDigit n_v_digits u_2 v_digitCount v_digits_a).bind fun u_3 =>
  f_Lit_addDigits_6 fu n_v_digits n_w1_letters x2 x3 x4 w1_start w1_end w1_letters_a n (y5 + 1) (y6 + 1) u_3.1 u_3.2)) := rfl
def f_Lit_addDigits (fu : Nat) (n_v_digits : Nat) (n_w1_letters : Nat) (x2 : Int32) (x3 : Int32) (x4 : Int32) (v_digitCount : Int32) (v_digits_a : Nat → Int32) (w1_start : Int32) (w1_end : Int32) (w1_letters_a : Nat → Int32) : Option (Int32 × Int32 × (Nat → Int32)) :=
  f_Lit_addDigits_6 fu n_v_digits n_w1_letters x2 x3 x4 w1_start w1_end w1_letters_a fu 0 x2 v_digitCount v_digits_a
set_option maxHeartbeats 4000000 in
set_option maxRecDepth 100000 in
theorem c_Lit_addDigits (l : Launch) (dC : Nat → ClassId) (dI : Nat → Nat → Nat) (cI cC cB cJ : ClassId) (fu : Nat) (sz : Nat) (h_v : Nat) (h_v_digits : Nat) (h_w1 : Nat) (h_w1_letters : Nat) (n_v_digits : Nat) (n_w1_letters : Nat) (x2 : Int32) (x3 : Int32) (x4 : Int32) (v_digitCount : Int32) (v_fraction : Int32) (v_exponent : Int32) (v_isHex : Int32) (v_digits_a : Nat → Int32) (w1_start : Int32) (w1_end : Int32) (w1_letters_a : Nat → Int32) (u : Int32 × Int32 × (Nat → Int32)) (hf : f_Lit_addDigits fu n_v_digits n_w1_letters x2 x3 x4 v_digitCount v_digits_a w1_start w1_end w1_letters_a = some u) : Met l y_Lit_addDigits ws_Lit_addDigits rm_Lit_addDigits (zz_P zz_T (dC, dI) vwCl (zz_tys cI cC cB cJ) [.ref h_v, .ref h_w1, .int x2, .int x3, .int x4] [(h_v, .inr (2, [.ref h_v_digits, .int v_digitCount, .int v_fraction, .int v_exponent, .int v_isHex])), (h_v_digits, .inl (cB, n_v_digits, .inl v_digits_a)), (h_w1, .inr (4, [.ref h_w1_letters, .int w1_start, .int w1_end])), (h_w1_letters, .inl (cC, n_w1_letters, .inl w1_letters_a))] sz) (zz_Qi (dC, dI) vwCl u.1 [(h_v, .inr (2, [.ref h_v_digits, .int u.2.1, .int v_fraction, .int v_exponent, .int v_isHex])), (h_v_digits, .inl (cB, n_v_digits, .inl u.2.2)), (h_w1, .inr (4, [.ref h_w1_letters, .int w1_start, .int w1_end])), (h_w1_letters, .inl (cC, n_w1_letters, .inl w1_letters_a))] (va_A [(h_v, .inr (2, [.ref h_v_digits, .int v_digitCount, .int v_fraction, .int v_exponent, .int v_isHex])), (h_v_digits, .inl (cB, n_v_digits, .inl v_digits_a)), (h_w1, .inr (4, [.ref h_w1_letters, .int w1_start, .int w1_end])), (h_w1_letters, .inl (cC, n_w1_letters, .inl w1_letters_a))] sz)) 0 0 (va_A [(h_v, .inr (2, [.ref h_v_digits, .int v_digitCount, .int v_fraction, .int v_exponent, .int v_isHex])), (h_v_digits, .inl (cB, n_v_digits, .inl v_digits_a)), (h_w1, .inr (4, [.ref h_w1_letters, .int w1_start, .int w1_end])), (h_w1_letters, .inl (cC, n_w1_letters, .inl w1_letters_a))] sz) := by
  refine Met.ofW (cc := prog_5_method_7_code) (maxL := 8) (ret := (some .int)) (by decide +kernel) rfl ?_
  intro p e s m args below meth c s₁ B hml hv
  obtain ⟨rfl, hsz, hP, hK, hD0, hX⟩ := hv
  have hx := B.exec
  have hb := B.bytes
  have hr := B.returns
  have hts := atoms_spec (ws := ws_Lit_addDigits) B.pre
  have hw : ∀ w ∈ zw, w.before [.ref h_v, .ref h_w1, .int x2, .int x3, .int x4].toArray s = true := fun w h => hts w (List.mem_cons_of_mem _ h)
  have hown : s.vm.findClass R_Lit = some m.cls := findClass_of_methodNamed B.named
  have hlocks := B.notSynchronized
  subst hsz
  have hD := hD0.self (sz := s.heap.size)
  generalize hAe : va_A [(h_v, .inr (2, [.ref h_v_digits, .int v_digitCount, .int v_fraction, .int v_exponent, .int v_isHex])), (h_v_digits, .inl (cB, n_v_digits, .inl v_digits_a)), (h_w1, .inr (4, [.ref h_w1_letters, .int w1_start, .int w1_end])), (h_w1_letters, .inl (cC, n_w1_letters, .inl w1_letters_a))] s.heap.size = A at hD hX ⊢
  have hA : ∀ q : Nat, s.heap.size ≤ q → A q := fun q h => by rw [← hAe]; exact Or.inr h
  have hS : va_S A s.heap s.heap [] := va_S.rf
  have hl := lv_entry [.ref h_v, .ref h_w1, .int x2, .int x3, .int x4] (n := 8) (Nat.le_of_ble_eq_true rfl)
  rw [lg_entry_eq]
  generalize (lg_sl [.ref h_v, .ref h_w1, .int x2, .int x3, .int x4] ++ List.replicate (8 - (lg_sl [.ref h_v, .ref h_w1, .int x2, .int x3, .int x4]).length) Slot.unset).toArray = ls at hl ⊢
  have hl : lv_has ls 8 [(0, .ref h_v), (1, .ref h_w1), (2, .int x2), (3, .int x3), (4, .int x4)] := hl
  refine zz_endi hx hb hr hlocks (fun Qq hend => ?_)
  have hL_6 : ∀ (n : Nat), ∀ (y5 : Int32) (y6 : Int32) (v_digitCount : Int32) (v_digits_a : Nat → Int32) (ls : Array Slot) (H : Heap) (locs : List Loc), lv_has ls 8 [(0, .ref h_v), (1, .ref h_w1), (3, .int x3), (4, .int x4), (5, .int y5), (6, .int y6)] → va_P (dC, dI) vwCl [(h_v, .inr (2, [.ref h_v_digits, .int v_digitCount, .int v_fraction, .int v_exponent, .int v_isHex])), (h_v_digits, .inl (cB, n_v_digits, .inl v_digits_a)), (h_w1, .inr (4, [.ref h_w1_letters, .int w1_start, .int w1_end])), (h_w1_letters, .inl (cC, n_w1_letters, .inl w1_letters_a))] H → va_D A [(h_v, .inr (2, [.ref h_v_digits, .int v_digitCount, .int v_fraction, .int v_exponent, .int v_isHex])), (h_v_digits, .inl (cB, n_v_digits, .inl v_digits_a)), (h_w1, .inr (4, [.ref h_w1_letters, .int w1_start, .int w1_end])), (h_w1_letters, .inl (cC, n_w1_letters, .inl w1_letters_a))] → va_S A s.heap H locs → f_Lit_addDigits_6 fu n_v_digits n_w1_letters x2 x3 x4 w1_start w1_end w1_letters_a n y5 y6 v_digitCount v_digits_a = some u → W p l e (headSpec ws_Lit_addDigits rm_Lit_addDigits).room s m [.ref h_v, .ref h_w1, .int x2, .int x3, .int x4].toArray below meth c H locs 0 0 Qq (F0 m 6 ls []) := by
    intro n
    induction n with
    | zero =>
      intro y5 y6 v_digitCount v_digits_a ls H locs hl hP hD hS hf
      exact zz_no hf
    | succ n ih =>
      intro y5 y6 v_digitCount v_digits_a ls H locs hl hP hD hS hf
      rw [f_Lit_addDigits_6_s] at hf
      refine lv_iload hx hb d_Lit_addDigits_6 (lv_at hl 5 rfl) ?_
      refine lv_iload_n hx hb d_Lit_addDigits_8 rfl (lv_at hl 2 rfl) ?_
      refine lv_icmp_ge (tgt := 45) hx hb d_Lit_addDigits_9 (by decide) (fun hc => ?_) (fun hc => ?_)
      · have hf := zz_ifp hc hf
        refine lv_iload hx hb d_Lit_addDigits_45 (lv_at hl 4 rfl) ?_
        cases hf
        exact hend 47 ls _ _ d_Lit_addDigits_47 hP hD hS
      · have hf := zz_ifn hc hf
        refine lv_aload_n hx hb d_Lit_addDigits_12 rfl (lv_at hl 1 rfl) ?_
        refine lv_iload hx hb d_Lit_addDigits_13 (lv_at hl 5 rfl) ?_
        obtain ⟨u_1, hu_1, hf⟩ := zz_bd hf
        refine zz_ci (ws' := [(h_v, .inr (2, [.ref h_v_digits, .int v_digitCount, .int v_fraction, .int v_exponent, .int v_isHex])), (h_v_digits, .inl (cB, n_v_digits, .inl v_digits_a)), (h_w1, .inr (4, [.ref h_w1_letters, .int w1_start, .int w1_end])), (h_w1_letters, .inl (cC, n_w1_letters, .inl w1_letters_a))]) (wc := [(h_w1, .inr (4, [.ref h_w1_letters, .int w1_start, .int w1_end])), (h_w1_letters, .inl (cC, n_w1_letters, .inl w1_letters_a))]) (w' := [(h_w1, .inr (4, [.ref h_w1_letters, .int w1_start, .int w1_end])), (h_w1_letters, .inl (cC, n_w1_letters, .inl w1_letters_a))]) hP hD hS hA [2, 3] [0, 1] [0, 1, 2, 3] rfl rfl (by decide) (by decide) rfl (by decide) (va_runV (As := [.int y6]) (rest := []) ⟨hx, hb, hml, hown, hw⟩ (c_Row_at l dC dI cI cC cB cJ _ h_w1 h_w1_letters n_w1_letters y6 w1_start w1_end w1_letters_a u_1 hu_1) (cwV 1 hw (zg_V wd_568 wd_448 wd_449 wd_2 wd_450) rfl rfl rfl hd_Row_at ⟨Nat.le_of_ble_eq_true rfl, Nat.le_of_ble_eq_true rfl⟩) (zz_preV zz_TE (va_recv (q0 := 2) (ci := 4) hK hP rfl rfl) hP hD hK hS hA trivial [2, 3] rfl (by decide)) rfl rfl hl.1 rfl (lv_room (Nat.le_of_ble_eq_true rfl)) d_Lit_addDigits_15 ⟨Nat.zero_le _, Nat.zero_le _⟩) (fun H locs hP hD hS => ?_)
        refine lv_iload hx hb d_Lit_addDigits_18 (lv_at hl 3 rfl) ?_
        obtain ⟨u_2, hu_2, hf⟩ := zz_bd hf
        refine zz_ci (ws' := [(h_v, .inr (2, [.ref h_v_digits, .int v_digitCount, .int v_fraction, .int v_exponent, .int v_isHex])), (h_v_digits, .inl (cB, n_v_digits, .inl v_digits_a)), (h_w1, .inr (4, [.ref h_w1_letters, .int w1_start, .int w1_end])), (h_w1_letters, .inl (cC, n_w1_letters, .inl w1_letters_a))]) (wc := []) (w' := []) hP hD hS hA [] [0, 1, 2, 3] [0, 1, 2, 3] rfl rfl (by decide) (by decide) rfl (by decide) (va_runS (As := [.int u_1, .int x4]) (rest := []) ⟨hx, hb, hml, hown, hw⟩ (c_Lit_digitOf l dC dI cI cC cB cJ _ u_1 x4 u_2 hu_2) (va_cwS 2 hw (zg_S wd_576 wd_577 wd_3 wd_578) rfl rfl rfl hd_Lit_digitOf ⟨Nat.le_of_ble_eq_true rfl, Nat.le_of_ble_eq_true rfl⟩) (zz_preS zz_TE hP hD hK hS hA trivial [] rfl (by decide)) rfl rfl hl.1 rfl (lv_room (Nat.le_of_ble_eq_true rfl)) d_Lit_addDigits_20 ⟨Nat.zero_le _, Nat.zero_le _⟩) (fun H locs hP hD hS => ?_)
        refine lv_istore hx hb d_Lit_addDigits_23 hl (by decide) rfl (fun ls hl => ?_)
        have hl : lv_has ls 8 [(7, .int u_2), (0, .ref h_v), (1, .ref h_w1), (3, .int x3), (4, .int x4), (5, .int y5), (6, .int y6)] := hl
        refine lv_iload hx hb d_Lit_addDigits_25 (lv_at hl 0 rfl) ?_
        refine lv_if_lt (tgt := 39) hx hb d_Lit_addDigits_27 (by decide) (fun hc => ?_) (fun hc => ?_)
        · have hf := zz_ifp hc hf
          refine lv_iinc (k := 6) (v := y6 + 1) hx hb d_Lit_addDigits_39 hl rfl rfl (by decide) rfl (fun ls hl => ?_)
          have hl : lv_has ls 8 [(6, .int (y6 + 1)), (7, .int u_2), (0, .ref h_v), (1, .ref h_w1), (3, .int x3), (4, .int x4), (5, .int y5)] := hl
          refine lv_goto (tgt := 6) hx hb d_Lit_addDigits_42 (by decide) ?_
          exact ih y5 (y6 + 1) v_digitCount v_digits_a ls _ _ (lv_sub hl [2, 3, 4, 5, 6, 0] rfl) hP hD hS hf
        · have hf := zz_ifn hc hf
          refine lv_iinc (k := 5) (v := y5 + 1) hx hb d_Lit_addDigits_30 hl rfl rfl (by decide) rfl (fun ls hl => ?_)
          have hl : lv_has ls 8 [(5, .int (y5 + 1)), (7, .int u_2), (0, .ref h_v), (1, .ref h_w1), (3, .int x3), (4, .int x4), (6, .int y6)] := hl
          refine lv_aload_n hx hb d_Lit_addDigits_33 rfl (lv_at hl 2 rfl) ?_
          refine lv_iload hx hb d_Lit_addDigits_34 (lv_at hl 1 rfl) ?_
          obtain ⟨u_3, hu_3, hf⟩ := zz_bd hf
          refine zz_cv (ws' := [(h_v, .inr (2, [.ref h_v_digits, .int u_3.1, .int v_fraction, .int v_exponent, .int v_isHex])), (h_v_digits, .inl (cB, n_v_digits, .inl u_3.2)), (h_w1, .inr (4, [.ref h_w1_letters, .int w1_start, .int w1_end])), (h_w1_letters, .inl (cC, n_w1_letters, .inl w1_letters_a))]) (wc := [(h_v, .inr (2, [.ref h_v_digits, .int v_digitCount, .int v_fraction, .int v_exponent, .int v_isHex])), (h_v_digits, .inl (cB, n_v_digits, .inl v_digits_a))]) (w' := [(h_v, .inr (2, [.ref h_v_digits, .int u_3.1, .int v_fraction, .int v_exponent, .int v_isHex])), (h_v_digits, .inl (cB, n_v_digits, .inl u_3.2))]) hP hD hS hA [0, 1] [2, 3] [2, 3, 0, 1] rfl rfl (by decide) (by decide) rfl (by decide) (va_runV (As := [.int u_2]) (rest := []) ⟨hx, hb, hml, hown, hw⟩ (c_Lit_addDigit l dC dI cI cC cB cJ _ h_v h_v_digits n_v_digits u_2 v_digitCount v_fraction v_exponent v_isHex v_digits_a u_3 hu_3) (cwV 1 hw (zg_V wd_583 wd_585 we_1_1 wd_3 wd_586) rfl rfl rfl hd_Lit_addDigit ⟨Nat.le_of_ble_eq_true rfl, Nat.le_of_ble_eq_true rfl⟩) (zz_preV zz_TE (va_recv (q0 := 0) (ci := 2) hK hP rfl rfl) hP hD hK hS hA trivial [0, 1] rfl (by decide)) rfl rfl hl.1 rfl (lv_room (Nat.le_of_ble_eq_true rfl)) d_Lit_addDigits_36 ⟨Nat.zero_le _, Nat.zero_le _⟩) (fun H locs hP hD hS => ?_)
          refine lv_iinc (k := 6) (v := y6 + 1) hx hb d_Lit_addDigits_39 hl rfl rfl (by decide) rfl (fun ls hl => ?_)
          have hl : lv_has ls 8 [(6, .int (y6 + 1)), (5, .int (y5 + 1)), (7, .int u_2), (0, .ref h_v), (1, .ref h_w1), (3, .int x3), (4, .int x4)] := hl
          refine lv_goto (tgt := 6) hx hb d_Lit_addDigits_42 (by decide) ?_
          exact ih (y5 + 1) (y6 + 1) u_3.1 u_3.2 ls _ _ (lv_sub hl [3, 4, 5, 6, 1, 0] rfl) hP hD hS hf
  unfold f_Lit_addDigits at hf
  refine lv_iconst (v := 0) hx hb d_Lit_addDigits_0 (by decide) ?_
  refine lv_istore hx hb d_Lit_addDigits_1 hl (by decide) rfl (fun ls hl => ?_)
  have hl : lv_has ls 8 [(5, .int 0), (0, .ref h_v), (1, .ref h_w1), (2, .int x2), (3, .int x3), (4, .int x4)] := hl
  refine lv_iload_n hx hb d_Lit_addDigits_3 rfl (lv_at hl 3 rfl) ?_
  refine lv_istore hx hb d_Lit_addDigits_4 hl (by decide) rfl (fun ls hl => ?_)
  have hl : lv_has ls 8 [(6, .int x2), (5, .int 0), (0, .ref h_v), (1, .ref h_w1), (2, .int x2), (3, .int x3), (4, .int x4)] := hl
  exact hL_6 fu 0 x2 v_digitCount v_digits_a ls _ _ (lv_sub hl [2, 3, 5, 6, 1, 0] rfl) hP hD hS hf
abbrev ws_Lit_dropZerosBehind : List Cond := .code y_Lit_dropZerosBehind prog_5_method_9_code 1 none :: zw
abbrev rm_Lit_dropZerosBehind : Room := { frames := 0, cells := 0, slots := 0, locals := 0 }
theorem hd_Lit_dropZerosBehind : y_Lit_dropZerosBehind.cls = "RealText$Literal" ∧ y_Lit_dropZerosBehind.cls ≠ "java/lang/invoke/MethodHandle" ∧ y_Lit_dropZerosBehind.cls ≠ "java/lang/invoke/VarHandle" ∧ (parseMethodDescriptor y_Lit_dropZerosBehind.desc).map (fun d => d.parameters.length) = some 0 := by decide +kernel
theorem d_Lit_dropZerosBehind_0 : decode prog_5_method_9_code 0 = .ok (.aload_n 0, 1) := by decide +kernel
theorem d_Lit_dropZerosBehind_1 : decode prog_5_method_9_code 1 = .ok (.getfield 33, 3) := by decide +kernel
theorem d_Lit_dropZerosBehind_4 : decode prog_5_method_9_code 4 = .ok (.ifCond .le 40, 3) := by decide +kernel
theorem d_Lit_dropZerosBehind_7 : decode prog_5_method_9_code 7 = .ok (.aload_n 0, 1) := by decide +kernel
theorem d_Lit_dropZerosBehind_8 : decode prog_5_method_9_code 8 = .ok (.getfield 9, 3) := by decide +kernel
theorem d_Lit_dropZerosBehind_11 : decode prog_5_method_9_code 11 = .ok (.aload_n 0, 1) := by decide +kernel
theorem d_Lit_dropZerosBehind_12 : decode prog_5_method_9_code 12 = .ok (.getfield 33, 3) := by decide +kernel
theorem d_Lit_dropZerosBehind_15 : decode prog_5_method_9_code 15 = .ok (.iconst 1, 1) := by decide +kernel
theorem d_Lit_dropZerosBehind_16 : decode prog_5_method_9_code 16 = .ok (.isub, 1) := by decide +kernel
theorem d_Lit_dropZerosBehind_17 : decode prog_5_method_9_code 17 = .ok (.baload, 1) := by decide +kernel
theorem d_Lit_dropZerosBehind_18 : decode prog_5_method_9_code 18 = .ok (.ifCond .ne 26, 3) := by decide +kernel
theorem d_Lit_dropZerosBehind_21 : decode prog_5_method_9_code 21 = .ok (.aload_n 0, 1) := by decide +kernel
theorem d_Lit_dropZerosBehind_22 : decode prog_5_method_9_code 22 = .ok (.dup, 1) := by decide +kernel
theorem d_Lit_dropZerosBehind_23 : decode prog_5_method_9_code 23 = .ok (.getfield 33, 3) := by decide +kernel
theorem d_Lit_dropZerosBehind_26 : decode prog_5_method_9_code 26 = .ok (.iconst 1, 1) := by decide +kernel
theorem d_Lit_dropZerosBehind_27 : decode prog_5_method_9_code 27 = .ok (.isub, 1) := by decide +kernel
theorem d_Lit_dropZerosBehind_28 : decode prog_5_method_9_code 28 = .ok (.putfield 33, 3) := by decide +kernel
theorem d_Lit_dropZerosBehind_31 : decode prog_5_method_9_code 31 = .ok (.aload_n 0, 1) := by decide +kernel
theorem d_Lit_dropZerosBehind_32 : decode prog_5_method_9_code 32 = .ok (.dup, 1) := by decide +kernel
theorem d_Lit_dropZerosBehind_33 : decode prog_5_method_9_code 33 = .ok (.getfield 41, 3) := by decide +kernel
theorem d_Lit_dropZerosBehind_36 : decode prog_5_method_9_code 36 = .ok (.iconst 1, 1) := by decide +kernel
theorem d_Lit_dropZerosBehind_37 : decode prog_5_method_9_code 37 = .ok (.isub, 1) := by decide +kernel
theorem d_Lit_dropZerosBehind_38 : decode prog_5_method_9_code 38 = .ok (.putfield 41, 3) := by decide +kernel
theorem d_Lit_dropZerosBehind_41 : decode prog_5_method_9_code 41 = .ok (.goto (-41), 3) := by decide +kernel
theorem d_Lit_dropZerosBehind_44 : decode prog_5_method_9_code 44 = .ok (.return_, 1) := by decide +kernel
def f_Lit_dropZerosBehind_0 (fu : Nat) (n_v_digits : Nat) (v_digits_a : Nat → Int32)  : Nat → Int32 → Int32 → Option (Int32 × Int32)
  | 0, _, _ => none
  | n + 1, v_digitCount, v_fraction =>
  (if v_digitCount ≤ 0 then
  some (v_digitCount, v_fraction)
  else
  if zz_in (v_digitCount - 1) n_v_digits = true then
  (if (v_digits_a (v_digitCount - 1).toNatClampNeg) = 0 then
  f_Lit_dropZerosBehind_0 fu n_v_digits v_digits_a n (v_digitCount - 1) (v_fraction - 1)
  else
  some (v_digitCount, v_fraction))
  else none)
theorem f_Lit_dropZerosBehind_0_s (fu : Nat) (n_v_digits : Nat) (v_digits_a : Nat → Int32)  (n : Nat) (v_digitCount : Int32) (v_fraction : Int32) : f_Lit_dropZerosBehind_0 fu n_v_digits v_digits_a (n + 1) v_digitCount v_fraction =
  (if v_digitCount ≤ 0 then
  some (v_digitCount, v_fraction)
  else
  if zz_in (v_digitCount - 1) n_v_digits = true then
  (if (v_digits_a (v_digitCount - 1).toNatClampNeg) = 0 then
  f_Lit_dropZerosBehind_0 fu n_v_digits v_digits_a n (v_digitCount - 1) (v_fraction - 1)
  else
  some (v_digitCount, v_fraction))
  else none) := rfl
def f_Lit_dropZerosBehind (fu : Nat) (n_v_digits : Nat) (v_digitCount : Int32) (v_fraction : Int32) (v_digits_a : Nat → Int32) : Option (Int32 × Int32) :=
  f_Lit_dropZerosBehind_0 fu n_v_digits v_digits_a fu v_digitCount v_fraction
set_option maxHeartbeats 4000000 in
set_option maxRecDepth 100000 in
theorem c_Lit_dropZerosBehind (l : Launch) (dC : Nat → ClassId) (dI : Nat → Nat → Nat) (cI cC cB cJ : ClassId) (fu : Nat) (sz : Nat) (h_v : Nat) (h_v_digits : Nat) (n_v_digits : Nat) (v_digitCount : Int32) (v_fraction : Int32) (v_exponent : Int32) (v_isHex : Int32) (v_digits_a : Nat → Int32) (u : Int32 × Int32) (hf : f_Lit_dropZerosBehind fu n_v_digits v_digitCount v_fraction v_digits_a = some u) : Met l y_Lit_dropZerosBehind ws_Lit_dropZerosBehind rm_Lit_dropZerosBehind (zz_P zz_T (dC, dI) vwCl (zz_tys cI cC cB cJ) [.ref h_v] [(h_v, .inr (2, [.ref h_v_digits, .int v_digitCount, .int v_fraction, .int v_exponent, .int v_isHex])), (h_v_digits, .inl (cB, n_v_digits, .inl v_digits_a))] sz) (zz_Qv (dC, dI) vwCl [(h_v, .inr (2, [.ref h_v_digits, .int u.1, .int u.2, .int v_exponent, .int v_isHex])), (h_v_digits, .inl (cB, n_v_digits, .inl v_digits_a))] (va_A [(h_v, .inr (2, [.ref h_v_digits, .int v_digitCount, .int v_fraction, .int v_exponent, .int v_isHex])), (h_v_digits, .inl (cB, n_v_digits, .inl v_digits_a))] sz)) 0 0 (va_A [(h_v, .inr (2, [.ref h_v_digits, .int v_digitCount, .int v_fraction, .int v_exponent, .int v_isHex])), (h_v_digits, .inl (cB, n_v_digits, .inl v_digits_a))] sz) := by
  refine Met.ofW (cc := prog_5_method_9_code) (maxL := 1) (ret := none) (by decide +kernel) rfl ?_
  intro p e s m args below meth c s₁ B hml hv
  obtain ⟨rfl, hsz, hP, hK, hD0, hX⟩ := hv
  have hx := B.exec
  have hb := B.bytes
  have hr := B.returns
  have hts := atoms_spec (ws := ws_Lit_dropZerosBehind) B.pre
  have hw : ∀ w ∈ zw, w.before [.ref h_v].toArray s = true := fun w h => hts w (List.mem_cons_of_mem _ h)
  have hown : s.vm.findClass R_Lit = some m.cls := findClass_of_methodNamed B.named
  have hlocks := B.notSynchronized
  subst hsz
  have hD := hD0.self (sz := s.heap.size)
  generalize hAe : va_A [(h_v, .inr (2, [.ref h_v_digits, .int v_digitCount, .int v_fraction, .int v_exponent, .int v_isHex])), (h_v_digits, .inl (cB, n_v_digits, .inl v_digits_a))] s.heap.size = A at hD hX ⊢
  have hA : ∀ q : Nat, s.heap.size ≤ q → A q := fun q h => by rw [← hAe]; exact Or.inr h
  have hS : va_S A s.heap s.heap [] := va_S.rf
  have hl := lv_entry [.ref h_v] (n := 1) (Nat.le_of_ble_eq_true rfl)
  rw [lg_entry_eq]
  generalize (lg_sl [.ref h_v] ++ List.replicate (1 - (lg_sl [.ref h_v]).length) Slot.unset).toArray = ls at hl ⊢
  have hl : lv_has ls 1 [(0, .ref h_v)] := hl
  refine zz_endv hx hb hr hlocks (fun Qq hend => ?_)
  have hL_0 : ∀ (n : Nat), ∀ (v_digitCount : Int32) (v_fraction : Int32) (ls : Array Slot) (H : Heap) (locs : List Loc), lv_has ls 1 [(0, .ref h_v)] → va_P (dC, dI) vwCl [(h_v, .inr (2, [.ref h_v_digits, .int v_digitCount, .int v_fraction, .int v_exponent, .int v_isHex])), (h_v_digits, .inl (cB, n_v_digits, .inl v_digits_a))] H → va_D A [(h_v, .inr (2, [.ref h_v_digits, .int v_digitCount, .int v_fraction, .int v_exponent, .int v_isHex])), (h_v_digits, .inl (cB, n_v_digits, .inl v_digits_a))] → va_S A s.heap H locs → f_Lit_dropZerosBehind_0 fu n_v_digits v_digits_a n v_digitCount v_fraction = some u → W p l e (headSpec ws_Lit_dropZerosBehind rm_Lit_dropZerosBehind).room s m [.ref h_v].toArray below meth c H locs 0 0 Qq (F0 m 0 ls []) := by
    intro n
    induction n with
    | zero =>
      intro v_digitCount v_fraction ls H locs hl hP hD hS hf
      exact zz_no hf
    | succ n ih =>
      intro v_digitCount v_fraction ls H locs hl hP hD hS hf
      rw [f_Lit_dropZerosBehind_0_s] at hf
      refine lv_aload_n hx hb d_Lit_dropZerosBehind_0 rfl (lv_at hl 0 rfl) ?_
      refine va_get (D := (dC, dI)) (ci := 2) (v := .int v_digitCount) (C := R_Lit) (T := T_Lit) (N := 5) hx hb hw in_Lit hown hK hP 0 rfl rfl 1 (by decide) (hw _ wd_57) (fun _ h9 => h9) rfl d_Lit_dropZerosBehind_1 ?_
      refine lv_if_le (tgt := 44) hx hb d_Lit_dropZerosBehind_4 (by decide) (fun hc => ?_) (fun hc => ?_)
      · have hf := zz_ifp hc hf
        cases hf
        exact hend 44 ls _ _ d_Lit_dropZerosBehind_44 hP hD hS
      · have hf := zz_ifn hc hf
        refine lv_aload_n hx hb d_Lit_dropZerosBehind_7 rfl (lv_at hl 0 rfl) ?_
        refine va_get (D := (dC, dI)) (ci := 2) (v := .ref h_v_digits) (C := R_Lit) (T := T_Lit) (N := 5) hx hb hw in_Lit hown hK hP 0 rfl rfl 0 (by decide) (hw _ wd_54) (fun _ h9 => h9) rfl d_Lit_dropZerosBehind_8 ?_
        refine lv_aload_n hx hb d_Lit_dropZerosBehind_11 rfl (lv_at hl 0 rfl) ?_
        refine va_get (D := (dC, dI)) (ci := 2) (v := .int v_digitCount) (C := R_Lit) (T := T_Lit) (N := 5) hx hb hw in_Lit hown hK hP 0 rfl rfl 1 (by decide) (hw _ wd_57) (fun _ h9 => h9) rfl d_Lit_dropZerosBehind_12 ?_
        refine lv_iconst (v := 1) hx hb d_Lit_dropZerosBehind_15 (by decide) ?_
        refine lv_isub hx hb d_Lit_dropZerosBehind_16 ?_
        obtain ⟨hb_1, hf⟩ := zz_gd hf
        refine va_bald hx hb hK hP 1 2 rfl rfl (zz_vp hb_1) d_Lit_dropZerosBehind_17 ?_
        refine lv_if_ne (tgt := 44) hx hb d_Lit_dropZerosBehind_18 (by decide) (fun hc => ?_) (fun hc => ?_)
        · have hf := zz_ifn hc hf
          cases hf
          exact hend 44 ls _ _ d_Lit_dropZerosBehind_44 hP hD hS
        · have hf := zz_ifp hc hf
          refine lv_aload_n hx hb d_Lit_dropZerosBehind_21 rfl (lv_at hl 0 rfl) ?_
          refine lv_dup hx hb d_Lit_dropZerosBehind_22 rfl ?_
          refine va_get (D := (dC, dI)) (ci := 2) (v := .int v_digitCount) (C := R_Lit) (T := T_Lit) (N := 5) hx hb hw in_Lit hown hK hP 0 rfl rfl 1 (by decide) (hw _ wd_57) (fun _ h9 => h9) rfl d_Lit_dropZerosBehind_23 ?_
          refine lv_iconst (v := 1) hx hb d_Lit_dropZerosBehind_26 (by decide) ?_
          refine lv_isub hx hb d_Lit_dropZerosBehind_27 ?_
          refine va_put (D := (dC, dI)) (ci := 2) (v := .int (v_digitCount - 1)) (ty := .int) (C := R_Lit) (T := T_Lit) (N := 5) hx hb hw in_Lit ty_Lit tyok_Lit nm_Lit hown hK hP hD hS 0 rfl rfl 1 (by decide) (hw _ wd_57) (fun _ h9 => h9) rfl (tyok_Lit 1 (by decide)) rfl rfl (Nat.le_of_ble_eq_true rfl) d_Lit_dropZerosBehind_28 (fun H locs hP hD hS => ?_)
          have hP : va_P (dC, dI) vwCl [(h_v, .inr (2, [.ref h_v_digits, .int (v_digitCount - 1), .int v_fraction, .int v_exponent, .int v_isHex])), (h_v_digits, .inl (cB, n_v_digits, .inl v_digits_a))] H := hP
          have hD : va_D A [(h_v, .inr (2, [.ref h_v_digits, .int (v_digitCount - 1), .int v_fraction, .int v_exponent, .int v_isHex])), (h_v_digits, .inl (cB, n_v_digits, .inl v_digits_a))] := hD
          refine lv_aload_n hx hb d_Lit_dropZerosBehind_31 rfl (lv_at hl 0 rfl) ?_
          refine lv_dup hx hb d_Lit_dropZerosBehind_32 rfl ?_
          refine va_get (D := (dC, dI)) (ci := 2) (v := .int v_fraction) (C := R_Lit) (T := T_Lit) (N := 5) hx hb hw in_Lit hown hK hP 0 rfl rfl 2 (by decide) (hw _ wd_60) (fun _ h9 => h9) rfl d_Lit_dropZerosBehind_33 ?_
          refine lv_iconst (v := 1) hx hb d_Lit_dropZerosBehind_36 (by decide) ?_
          refine lv_isub hx hb d_Lit_dropZerosBehind_37 ?_
          refine va_put (D := (dC, dI)) (ci := 2) (v := .int (v_fraction - 1)) (ty := .int) (C := R_Lit) (T := T_Lit) (N := 5) hx hb hw in_Lit ty_Lit tyok_Lit nm_Lit hown hK hP hD hS 0 rfl rfl 2 (by decide) (hw _ wd_60) (fun _ h9 => h9) rfl (tyok_Lit 2 (by decide)) rfl rfl (Nat.le_of_ble_eq_true rfl) d_Lit_dropZerosBehind_38 (fun H locs hP hD hS => ?_)
          have hP : va_P (dC, dI) vwCl [(h_v, .inr (2, [.ref h_v_digits, .int (v_digitCount - 1), .int (v_fraction - 1), .int v_exponent, .int v_isHex])), (h_v_digits, .inl (cB, n_v_digits, .inl v_digits_a))] H := hP
          have hD : va_D A [(h_v, .inr (2, [.ref h_v_digits, .int (v_digitCount - 1), .int (v_fraction - 1), .int v_exponent, .int v_isHex])), (h_v_digits, .inl (cB, n_v_digits, .inl v_digits_a))] := hD
          refine lv_goto (tgt := 0) hx hb d_Lit_dropZerosBehind_41 (by decide) ?_
          exact ih (v_digitCount - 1) (v_fraction - 1) ls _ _ (lv_sub hl [0] rfl) hP hD hS hf
  unfold f_Lit_dropZerosBehind at hf
  exact hL_0 fu v_digitCount v_fraction ls _ _ (lv_sub hl [0] rfl) hP hD hS hf
abbrev ws_Lit_exponentIn : List Cond := .code y_Lit_exponentIn prog_5_method_10_code 6 (some .int) :: zw
abbrev rm_Lit_exponentIn : Room := { frames := 1, cells := 0, slots := 0, locals := 21 }
theorem hd_Lit_exponentIn : y_Lit_exponentIn.cls ≠ "java/lang/invoke/MethodHandle" ∧ y_Lit_exponentIn.cls ≠ "java/lang/invoke/VarHandle" ∧ (parseMethodDescriptor y_Lit_exponentIn.desc).map (fun d => d.parameters.length) = some 3 := by decide +kernel
theorem d_Lit_exponentIn_0 : decode prog_5_method_10_code 0 = .ok (.iconst 0, 1) := by decide +kernel
theorem d_Lit_exponentIn_1 : decode prog_5_method_10_code 1 = .ok (.istore_n 3, 1) := by decide +kernel
theorem d_Lit_exponentIn_2 : decode prog_5_method_10_code 2 = .ok (.iload_n 1, 1) := by decide +kernel
theorem d_Lit_exponentIn_3 : decode prog_5_method_10_code 3 = .ok (.istore 4, 2) := by decide +kernel
theorem d_Lit_exponentIn_5 : decode prog_5_method_10_code 5 = .ok (.iload 4, 2) := by decide +kernel
theorem d_Lit_exponentIn_7 : decode prog_5_method_10_code 7 = .ok (.iload_n 2, 1) := by decide +kernel
theorem d_Lit_exponentIn_8 : decode prog_5_method_10_code 8 = .ok (.if_icmp .ge 40, 3) := by decide +kernel
theorem d_Lit_exponentIn_11 : decode prog_5_method_10_code 11 = .ok (.aload_n 0, 1) := by decide +kernel
theorem d_Lit_exponentIn_12 : decode prog_5_method_10_code 12 = .ok (.iload 4, 2) := by decide +kernel
theorem d_Lit_exponentIn_14 : decode prog_5_method_10_code 14 = .ok (.invokevirtual 15, 3) := by decide +kernel
theorem d_Lit_exponentIn_17 : decode prog_5_method_10_code 17 = .ok (.bipush 10, 2) := by decide +kernel
theorem d_Lit_exponentIn_19 : decode prog_5_method_10_code 19 = .ok (.invokestatic 61, 3) := by decide +kernel
theorem d_Lit_exponentIn_22 : decode prog_5_method_10_code 22 = .ok (.istore 5, 2) := by decide +kernel
theorem d_Lit_exponentIn_24 : decode prog_5_method_10_code 24 = .ok (.iload 5, 2) := by decide +kernel
theorem d_Lit_exponentIn_26 : decode prog_5_method_10_code 26 = .ok (.ifCond .lt 16, 3) := by decide +kernel
theorem d_Lit_exponentIn_29 : decode prog_5_method_10_code 29 = .ok (.iload_n 3, 1) := by decide +kernel
theorem d_Lit_exponentIn_30 : decode prog_5_method_10_code 30 = .ok (.bipush 10, 2) := by decide +kernel
theorem d_Lit_exponentIn_32 : decode prog_5_method_10_code 32 = .ok (.imul, 1) := by decide +kernel
theorem d_Lit_exponentIn_33 : decode prog_5_method_10_code 33 = .ok (.iload 5, 2) := by decide +kernel
theorem d_Lit_exponentIn_35 : decode prog_5_method_10_code 35 = .ok (.iadd, 1) := by decide +kernel
theorem d_Lit_exponentIn_36 : decode prog_5_method_10_code 36 = .ok (.ldc 69, 2) := by decide +kernel
theorem d_Lit_exponentIn_38 : decode prog_5_method_10_code 38 = .ok (.invokestatic 70, 3) := by decide +kernel
theorem d_Lit_exponentIn_41 : decode prog_5_method_10_code 41 = .ok (.istore_n 3, 1) := by decide +kernel
theorem d_Lit_exponentIn_42 : decode prog_5_method_10_code 42 = .ok (.iinc 4 1, 3) := by decide +kernel
theorem d_Lit_exponentIn_45 : decode prog_5_method_10_code 45 = .ok (.goto (-40), 3) := by decide +kernel
theorem d_Lit_exponentIn_48 : decode prog_5_method_10_code 48 = .ok (.iload_n 3, 1) := by decide +kernel
theorem d_Lit_exponentIn_49 : decode prog_5_method_10_code 49 = .ok (.ireturn, 1) := by decide +kernel
def f_Lit_exponentIn_5 (fu : Nat) (n_w0_letters : Nat) (x1 : Int32) (x2 : Int32) (w0_start : Int32) (w0_end : Int32) (w0_letters_a : Nat → Int32)  : Nat → Int32 → Int32 → Option (Int32)
  | 0, _, _ => none
  | n + 1, y3, y4 =>
  (if x2 ≤ y4 then
  some (y3)
  else
  (f_Row_at n_w0_letters y4 w0_start w0_end w0_letters_a).bind fun u_1 =>
  (f_Lit_digitOf u_1 10).bind fun u_2 =>
  (if u_2 < 0 then
  f_Lit_exponentIn_5 fu n_w0_letters x1 x2 w0_start w0_end w0_letters_a n y3 (y4 + 1)
  else
  (f_Mat_min ((y3 * 10) + u_2) 1000000).bind fun u_3 =>
  f_Lit_exponentIn_5 fu n_w0_letters x1 x2 w0_start w0_end w0_letters_a n u_3 (y4 + 1)))
theorem f_Lit_exponentIn_5_s (fu : Nat) (n_w0_letters : Nat) (x1 : Int32) (x2 : Int32) (w0_start : Int32) (w0_end : Int32) (w0_letters_a : Nat → Int32)  (n : Nat) (y3 : Int32) (y4 : Int32) : f_Lit_exponentIn_5 fu n_w0_letters x1 x2 w0_start w0_end w0_letters_a (n + 1) y3 y4 =
  (if x2 ≤ y4 then
  some (y3)
  else
  (f_Row_at n_w0_letters y4 w0_start w0_end w0_letters_a).bind fun u_1 =>
  (f_Lit_digitOf u_1 10).bind fun u_2 =>
  (if u_2 < 0 then
  f_Lit_exponentIn_5 fu n_w0_letters x1 x2 w0_start w0_end w0_letters_a n y3 (y4 + 1)
  else
  (f_Mat_min ((y3 * 10) + u_2) 1000000).bind fun u_3 =>
  f_Lit_exponentIn_5 fu n_w0_letters x1 x2 w0_start w0_end w0_letters_a n u_3 (y4 + 1))) := rfl
def f_Lit_exponentIn (fu : Nat) (n_w0_letters : Nat) (x1 : Int32) (x2 : Int32) (w0_start : Int32) (w0_end : Int32) (w0_letters_a : Nat → Int32) : Option (Int32) :=
  f_Lit_exponentIn_5 fu n_w0_letters x1 x2 w0_start w0_end w0_letters_a fu 0 x1
set_option maxHeartbeats 4000000 in
set_option maxRecDepth 100000 in
theorem c_Lit_exponentIn (l : Launch) (dC : Nat → ClassId) (dI : Nat → Nat → Nat) (cI cC cB cJ : ClassId) (fu : Nat) (sz : Nat) (h_w0 : Nat) (h_w0_letters : Nat) (n_w0_letters : Nat) (x1 : Int32) (x2 : Int32) (w0_start : Int32) (w0_end : Int32) (w0_letters_a : Nat → Int32) (u : Int32) (hf : f_Lit_exponentIn fu n_w0_letters x1 x2 w0_start w0_end w0_letters_a = some u) : Met l y_Lit_exponentIn ws_Lit_exponentIn rm_Lit_exponentIn (zz_P zz_T (dC, dI) vwCl (zz_tys cI cC cB cJ) [.ref h_w0, .int x1, .int x2] [(h_w0, .inr (4, [.ref h_w0_letters, .int w0_start, .int w0_end])), (h_w0_letters, .inl (cC, n_w0_letters, .inl w0_letters_a))] sz) (zz_Qi (dC, dI) vwCl u [(h_w0, .inr (4, [.ref h_w0_letters, .int w0_start, .int w0_end])), (h_w0_letters, .inl (cC, n_w0_letters, .inl w0_letters_a))] (va_A [(h_w0, .inr (4, [.ref h_w0_letters, .int w0_start, .int w0_end])), (h_w0_letters, .inl (cC, n_w0_letters, .inl w0_letters_a))] sz)) 0 0 (va_A [(h_w0, .inr (4, [.ref h_w0_letters, .int w0_start, .int w0_end])), (h_w0_letters, .inl (cC, n_w0_letters, .inl w0_letters_a))] sz) := by
  refine Met.ofW (cc := prog_5_method_10_code) (maxL := 6) (ret := (some .int)) (by decide +kernel) rfl ?_
  intro p e s m args below meth c s₁ B hml hv
  obtain ⟨rfl, hsz, hP, hK, hD0, hX⟩ := hv
  have hx := B.exec
  have hb := B.bytes
  have hr := B.returns
  have hts := atoms_spec (ws := ws_Lit_exponentIn) B.pre
  have hw : ∀ w ∈ zw, w.before [.ref h_w0, .int x1, .int x2].toArray s = true := fun w h => hts w (List.mem_cons_of_mem _ h)
  have hown : s.vm.findClass R_Lit = some m.cls := findClass_of_methodNamed B.named
  have hlocks := B.notSynchronized
  subst hsz
  have hD := hD0.self (sz := s.heap.size)
  generalize hAe : va_A [(h_w0, .inr (4, [.ref h_w0_letters, .int w0_start, .int w0_end])), (h_w0_letters, .inl (cC, n_w0_letters, .inl w0_letters_a))] s.heap.size = A at hD hX ⊢
  have hA : ∀ q : Nat, s.heap.size ≤ q → A q := fun q h => by rw [← hAe]; exact Or.inr h
  have hS : va_S A s.heap s.heap [] := va_S.rf
  have hl := lv_entry [.ref h_w0, .int x1, .int x2] (n := 6) (Nat.le_of_ble_eq_true rfl)
  rw [lg_entry_eq]
  generalize (lg_sl [.ref h_w0, .int x1, .int x2] ++ List.replicate (6 - (lg_sl [.ref h_w0, .int x1, .int x2]).length) Slot.unset).toArray = ls at hl ⊢
  have hl : lv_has ls 6 [(0, .ref h_w0), (1, .int x1), (2, .int x2)] := hl
  refine zz_endi hx hb hr hlocks (fun Qq hend => ?_)
  have hL_5 : ∀ (n : Nat), ∀ (y3 : Int32) (y4 : Int32) (ls : Array Slot) (H : Heap) (locs : List Loc), lv_has ls 6 [(0, .ref h_w0), (2, .int x2), (3, .int y3), (4, .int y4)] → va_P (dC, dI) vwCl [(h_w0, .inr (4, [.ref h_w0_letters, .int w0_start, .int w0_end])), (h_w0_letters, .inl (cC, n_w0_letters, .inl w0_letters_a))] H → va_D A [(h_w0, .inr (4, [.ref h_w0_letters, .int w0_start, .int w0_end])), (h_w0_letters, .inl (cC, n_w0_letters, .inl w0_letters_a))] → va_S A s.heap H locs → f_Lit_exponentIn_5 fu n_w0_letters x1 x2 w0_start w0_end w0_letters_a n y3 y4 = some u → W p l e (headSpec ws_Lit_exponentIn rm_Lit_exponentIn).room s m [.ref h_w0, .int x1, .int x2].toArray below meth c H locs 0 0 Qq (F0 m 5 ls []) := by
    intro n
    induction n with
    | zero =>
      intro y3 y4 ls H locs hl hP hD hS hf
      exact zz_no hf
    | succ n ih =>
      intro y3 y4 ls H locs hl hP hD hS hf
      rw [f_Lit_exponentIn_5_s] at hf
      refine lv_iload hx hb d_Lit_exponentIn_5 (lv_at hl 3 rfl) ?_
      refine lv_iload_n hx hb d_Lit_exponentIn_7 rfl (lv_at hl 1 rfl) ?_
      refine lv_icmp_ge (tgt := 48) hx hb d_Lit_exponentIn_8 (by decide) (fun hc => ?_) (fun hc => ?_)
      · have hf := zz_ifp hc hf
        refine lv_iload_n hx hb d_Lit_exponentIn_48 rfl (lv_at hl 2 rfl) ?_
        cases hf
        exact hend 49 ls _ _ d_Lit_exponentIn_49 hP hD hS
      · have hf := zz_ifn hc hf
        refine lv_aload_n hx hb d_Lit_exponentIn_11 rfl (lv_at hl 0 rfl) ?_
        refine lv_iload hx hb d_Lit_exponentIn_12 (lv_at hl 3 rfl) ?_
        obtain ⟨u_1, hu_1, hf⟩ := zz_bd hf
        refine zz_ci (ws' := [(h_w0, .inr (4, [.ref h_w0_letters, .int w0_start, .int w0_end])), (h_w0_letters, .inl (cC, n_w0_letters, .inl w0_letters_a))]) (wc := [(h_w0, .inr (4, [.ref h_w0_letters, .int w0_start, .int w0_end])), (h_w0_letters, .inl (cC, n_w0_letters, .inl w0_letters_a))]) (w' := [(h_w0, .inr (4, [.ref h_w0_letters, .int w0_start, .int w0_end])), (h_w0_letters, .inl (cC, n_w0_letters, .inl w0_letters_a))]) hP hD hS hA [0, 1] [] [0, 1] rfl rfl (by decide) (by decide) rfl (by decide) (va_runV (As := [.int y4]) (rest := []) ⟨hx, hb, hml, hown, hw⟩ (c_Row_at l dC dI cI cC cB cJ _ h_w0 h_w0_letters n_w0_letters y4 w0_start w0_end w0_letters_a u_1 hu_1) (cwV 1 hw (zg_V wd_568 wd_448 wd_449 wd_2 wd_450) rfl rfl rfl hd_Row_at ⟨Nat.le_of_ble_eq_true rfl, Nat.le_of_ble_eq_true rfl⟩) (zz_preV zz_TE (va_recv (q0 := 0) (ci := 4) hK hP rfl rfl) hP hD hK hS hA trivial [0, 1] rfl (by decide)) rfl rfl hl.1 rfl (lv_room (Nat.le_of_ble_eq_true rfl)) d_Lit_exponentIn_14 ⟨Nat.zero_le _, Nat.zero_le _⟩) (fun H locs hP hD hS => ?_)
        refine lv_bipush (v := 10) hx hb d_Lit_exponentIn_17 (by decide) ?_
        obtain ⟨u_2, hu_2, hf⟩ := zz_bd hf
        refine zz_ci (ws' := [(h_w0, .inr (4, [.ref h_w0_letters, .int w0_start, .int w0_end])), (h_w0_letters, .inl (cC, n_w0_letters, .inl w0_letters_a))]) (wc := []) (w' := []) hP hD hS hA [] [0, 1] [0, 1] rfl rfl (by decide) (by decide) rfl (by decide) (va_runS (As := [.int u_1, .int 10]) (rest := []) ⟨hx, hb, hml, hown, hw⟩ (c_Lit_digitOf l dC dI cI cC cB cJ _ u_1 10 u_2 hu_2) (va_cwS 2 hw (zg_S wd_576 wd_577 wd_3 wd_578) rfl rfl rfl hd_Lit_digitOf ⟨Nat.le_of_ble_eq_true rfl, Nat.le_of_ble_eq_true rfl⟩) (zz_preS zz_TE hP hD hK hS hA trivial [] rfl (by decide)) rfl rfl hl.1 rfl (lv_room (Nat.le_of_ble_eq_true rfl)) d_Lit_exponentIn_19 ⟨Nat.zero_le _, Nat.zero_le _⟩) (fun H locs hP hD hS => ?_)
        refine lv_istore hx hb d_Lit_exponentIn_22 hl (by decide) rfl (fun ls hl => ?_)
        have hl : lv_has ls 6 [(5, .int u_2), (0, .ref h_w0), (2, .int x2), (3, .int y3), (4, .int y4)] := hl
        refine lv_iload hx hb d_Lit_exponentIn_24 (lv_at hl 0 rfl) ?_
        refine lv_if_lt (tgt := 42) hx hb d_Lit_exponentIn_26 (by decide) (fun hc => ?_) (fun hc => ?_)
        · have hf := zz_ifp hc hf
          refine lv_iinc (k := 4) (v := y4 + 1) hx hb d_Lit_exponentIn_42 hl rfl rfl (by decide) rfl (fun ls hl => ?_)
          have hl : lv_has ls 6 [(4, .int (y4 + 1)), (5, .int u_2), (0, .ref h_w0), (2, .int x2), (3, .int y3)] := hl
          refine lv_goto (tgt := 5) hx hb d_Lit_exponentIn_45 (by decide) ?_
          exact ih y3 (y4 + 1) ls _ _ (lv_sub hl [2, 3, 4, 0] rfl) hP hD hS hf
        · have hf := zz_ifn hc hf
          refine lv_iload_n hx hb d_Lit_exponentIn_29 rfl (lv_at hl 3 rfl) ?_
          refine lv_bipush (v := 10) hx hb d_Lit_exponentIn_30 (by decide) ?_
          refine lv_imul hx hb d_Lit_exponentIn_32 ?_
          refine lv_iload hx hb d_Lit_exponentIn_33 (lv_at hl 0 rfl) ?_
          refine lv_iadd hx hb d_Lit_exponentIn_35 ?_
          refine lv_ldc (v := 1000000) hx hb hown (hw _ wd_598) d_Lit_exponentIn_36 ?_
          obtain ⟨u_3, hu_3, hf⟩ := zz_bd hf
          refine zz_ci (ws' := [(h_w0, .inr (4, [.ref h_w0_letters, .int w0_start, .int w0_end])), (h_w0_letters, .inl (cC, n_w0_letters, .inl w0_letters_a))]) (wc := []) (w' := []) hP hD hS hA [] [0, 1] [0, 1] rfl rfl (by decide) (by decide) rfl (by decide) (va_runS (As := [.int ((y3 * 10) + u_2), .int 1000000]) (rest := []) ⟨hx, hb, hml, hown, hw⟩ (c_Mat_min l dC dI cI cC cB cJ _ ((y3 * 10) + u_2) 1000000 u_3 hu_3) (va_cwS 2 hw (zg_S wd_599 wd_364 wd_16 wd_365) rfl rfl rfl hd_Mat_min ⟨Nat.le_of_ble_eq_true rfl, Nat.le_of_ble_eq_true rfl⟩) (zz_preS zz_TE hP hD hK hS hA trivial [] rfl (by decide)) rfl rfl hl.1 rfl (lv_room (Nat.le_of_ble_eq_true rfl)) d_Lit_exponentIn_38 ⟨Nat.zero_le _, Nat.zero_le _⟩) (fun H locs hP hD hS => ?_)
          refine lv_istore_n hx hb d_Lit_exponentIn_41 rfl hl (by decide) rfl (fun ls hl => ?_)
          have hl : lv_has ls 6 [(3, .int u_3), (5, .int u_2), (0, .ref h_w0), (2, .int x2), (4, .int y4)] := hl
          refine lv_iinc (k := 4) (v := y4 + 1) hx hb d_Lit_exponentIn_42 hl rfl rfl (by decide) rfl (fun ls hl => ?_)
          have hl : lv_has ls 6 [(4, .int (y4 + 1)), (3, .int u_3), (5, .int u_2), (0, .ref h_w0), (2, .int x2)] := hl
          refine lv_goto (tgt := 5) hx hb d_Lit_exponentIn_45 (by decide) ?_
          exact ih u_3 (y4 + 1) ls _ _ (lv_sub hl [3, 4, 1, 0] rfl) hP hD hS hf
  unfold f_Lit_exponentIn at hf
  refine lv_iconst (v := 0) hx hb d_Lit_exponentIn_0 (by decide) ?_
  refine lv_istore_n hx hb d_Lit_exponentIn_1 rfl hl (by decide) rfl (fun ls hl => ?_)
  have hl : lv_has ls 6 [(3, .int 0), (0, .ref h_w0), (1, .int x1), (2, .int x2)] := hl
  refine lv_iload_n hx hb d_Lit_exponentIn_2 rfl (lv_at hl 2 rfl) ?_
  refine lv_istore hx hb d_Lit_exponentIn_3 hl (by decide) rfl (fun ls hl => ?_)
  have hl : lv_has ls 6 [(4, .int x1), (3, .int 0), (0, .ref h_w0), (1, .int x1), (2, .int x2)] := hl
  exact hL_5 fu 0 x1 ls _ _ (lv_sub hl [2, 4, 1, 0] rfl) hP hD hS hf
abbrev ws_Lit_scanExponent : List Cond := .code y_Lit_scanExponent prog_5_method_3_code 8 (some .boolean) :: zw
abbrev rm_Lit_scanExponent : Room := { frames := 2, cells := 0, slots := 0, locals := 46 }
theorem hd_Lit_scanExponent : y_Lit_scanExponent.cls = "RealText$Literal" ∧ y_Lit_scanExponent.cls ≠ "java/lang/invoke/MethodHandle" ∧ y_Lit_scanExponent.cls ≠ "java/lang/invoke/VarHandle" ∧ (parseMethodDescriptor y_Lit_scanExponent.desc).map (fun d => d.parameters.length) = some 2 := by decide +kernel
theorem d_Lit_scanExponent_0 : decode prog_5_method_3_code 0 = .ok (.aload_n 0, 1) := by decide +kernel
theorem d_Lit_scanExponent_1 : decode prog_5_method_3_code 1 = .ok (.iconst 0, 1) := by decide +kernel
theorem d_Lit_scanExponent_2 : decode prog_5_method_3_code 2 = .ok (.putfield 51, 3) := by decide +kernel
theorem d_Lit_scanExponent_5 : decode prog_5_method_3_code 5 = .ok (.aload_n 0, 1) := by decide +kernel
theorem d_Lit_scanExponent_6 : decode prog_5_method_3_code 6 = .ok (.getfield 25, 3) := by decide +kernel
theorem d_Lit_scanExponent_9 : decode prog_5_method_3_code 9 = .ok (.ifCond .eq 18, 3) := by decide +kernel
theorem d_Lit_scanExponent_12 : decode prog_5_method_3_code 12 = .ok (.aload_n 1, 1) := by decide +kernel
theorem d_Lit_scanExponent_13 : decode prog_5_method_3_code 13 = .ok (.iload_n 2, 1) := by decide +kernel
theorem d_Lit_scanExponent_14 : decode prog_5_method_3_code 14 = .ok (.invokevirtual 15, 3) := by decide +kernel
theorem d_Lit_scanExponent_17 : decode prog_5_method_3_code 17 = .ok (.bipush 112, 2) := by decide +kernel
theorem d_Lit_scanExponent_19 : decode prog_5_method_3_code 19 = .ok (.bipush 80, 2) := by decide +kernel
theorem d_Lit_scanExponent_21 : decode prog_5_method_3_code 21 = .ok (.invokestatic 21, 3) := by decide +kernel
theorem d_Lit_scanExponent_24 : decode prog_5_method_3_code 24 = .ok (.goto 15, 3) := by decide +kernel
theorem d_Lit_scanExponent_27 : decode prog_5_method_3_code 27 = .ok (.aload_n 1, 1) := by decide +kernel
theorem d_Lit_scanExponent_28 : decode prog_5_method_3_code 28 = .ok (.iload_n 2, 1) := by decide +kernel
theorem d_Lit_scanExponent_29 : decode prog_5_method_3_code 29 = .ok (.invokevirtual 15, 3) := by decide +kernel
theorem d_Lit_scanExponent_32 : decode prog_5_method_3_code 32 = .ok (.bipush 101, 2) := by decide +kernel
theorem d_Lit_scanExponent_34 : decode prog_5_method_3_code 34 = .ok (.bipush 69, 2) := by decide +kernel
theorem d_Lit_scanExponent_36 : decode prog_5_method_3_code 36 = .ok (.invokestatic 21, 3) := by decide +kernel
theorem d_Lit_scanExponent_39 : decode prog_5_method_3_code 39 = .ok (.istore_n 3, 1) := by decide +kernel
theorem d_Lit_scanExponent_40 : decode prog_5_method_3_code 40 = .ok (.iload_n 3, 1) := by decide +kernel
theorem d_Lit_scanExponent_41 : decode prog_5_method_3_code 41 = .ok (.ifCond .ne 24, 3) := by decide +kernel
theorem d_Lit_scanExponent_44 : decode prog_5_method_3_code 44 = .ok (.aload_n 0, 1) := by decide +kernel
theorem d_Lit_scanExponent_45 : decode prog_5_method_3_code 45 = .ok (.getfield 25, 3) := by decide +kernel
theorem d_Lit_scanExponent_48 : decode prog_5_method_3_code 48 = .ok (.ifCond .ne 15, 3) := by decide +kernel
theorem d_Lit_scanExponent_51 : decode prog_5_method_3_code 51 = .ok (.iload_n 2, 1) := by decide +kernel
theorem d_Lit_scanExponent_52 : decode prog_5_method_3_code 52 = .ok (.aload_n 1, 1) := by decide +kernel
theorem d_Lit_scanExponent_53 : decode prog_5_method_3_code 53 = .ok (.invokevirtual 54, 3) := by decide +kernel
theorem d_Lit_scanExponent_56 : decode prog_5_method_3_code 56 = .ok (.if_icmp .ne 7, 3) := by decide +kernel
theorem d_Lit_scanExponent_59 : decode prog_5_method_3_code 59 = .ok (.iconst 1, 1) := by decide +kernel
theorem d_Lit_scanExponent_60 : decode prog_5_method_3_code 60 = .ok (.goto 4, 3) := by decide +kernel
theorem d_Lit_scanExponent_63 : decode prog_5_method_3_code 63 = .ok (.iconst 0, 1) := by decide +kernel
theorem d_Lit_scanExponent_64 : decode prog_5_method_3_code 64 = .ok (.ireturn, 1) := by decide +kernel
theorem d_Lit_scanExponent_65 : decode prog_5_method_3_code 65 = .ok (.aload_n 1, 1) := by decide +kernel
theorem d_Lit_scanExponent_66 : decode prog_5_method_3_code 66 = .ok (.iload_n 2, 1) := by decide +kernel
theorem d_Lit_scanExponent_67 : decode prog_5_method_3_code 67 = .ok (.iconst 1, 1) := by decide +kernel
theorem d_Lit_scanExponent_68 : decode prog_5_method_3_code 68 = .ok (.iadd, 1) := by decide +kernel
theorem d_Lit_scanExponent_69 : decode prog_5_method_3_code 69 = .ok (.invokevirtual 15, 3) := by decide +kernel
theorem d_Lit_scanExponent_72 : decode prog_5_method_3_code 72 = .ok (.istore 4, 2) := by decide +kernel
theorem d_Lit_scanExponent_74 : decode prog_5_method_3_code 74 = .ok (.iload 4, 2) := by decide +kernel
theorem d_Lit_scanExponent_76 : decode prog_5_method_3_code 76 = .ok (.bipush 43, 2) := by decide +kernel
theorem d_Lit_scanExponent_78 : decode prog_5_method_3_code 78 = .ok (.bipush 45, 2) := by decide +kernel
theorem d_Lit_scanExponent_80 : decode prog_5_method_3_code 80 = .ok (.invokestatic 21, 3) := by decide +kernel
theorem d_Lit_scanExponent_83 : decode prog_5_method_3_code 83 = .ok (.ifCond .eq 9, 3) := by decide +kernel
theorem d_Lit_scanExponent_86 : decode prog_5_method_3_code 86 = .ok (.iload_n 2, 1) := by decide +kernel
theorem d_Lit_scanExponent_87 : decode prog_5_method_3_code 87 = .ok (.iconst 2, 1) := by decide +kernel
theorem d_Lit_scanExponent_88 : decode prog_5_method_3_code 88 = .ok (.iadd, 1) := by decide +kernel
theorem d_Lit_scanExponent_89 : decode prog_5_method_3_code 89 = .ok (.goto 6, 3) := by decide +kernel
theorem d_Lit_scanExponent_92 : decode prog_5_method_3_code 92 = .ok (.iload_n 2, 1) := by decide +kernel
theorem d_Lit_scanExponent_93 : decode prog_5_method_3_code 93 = .ok (.iconst 1, 1) := by decide +kernel
theorem d_Lit_scanExponent_94 : decode prog_5_method_3_code 94 = .ok (.iadd, 1) := by decide +kernel
theorem d_Lit_scanExponent_95 : decode prog_5_method_3_code 95 = .ok (.istore 5, 2) := by decide +kernel
theorem d_Lit_scanExponent_97 : decode prog_5_method_3_code 97 = .ok (.aload_n 1, 1) := by decide +kernel
theorem d_Lit_scanExponent_98 : decode prog_5_method_3_code 98 = .ok (.iload 5, 2) := by decide +kernel
theorem d_Lit_scanExponent_100 : decode prog_5_method_3_code 100 = .ok (.bipush 10, 2) := by decide +kernel
theorem d_Lit_scanExponent_102 : decode prog_5_method_3_code 102 = .ok (.invokestatic 29, 3) := by decide +kernel
theorem d_Lit_scanExponent_105 : decode prog_5_method_3_code 105 = .ok (.istore 6, 2) := by decide +kernel
theorem d_Lit_scanExponent_107 : decode prog_5_method_3_code 107 = .ok (.aload_n 1, 1) := by decide +kernel
theorem d_Lit_scanExponent_108 : decode prog_5_method_3_code 108 = .ok (.iload 5, 2) := by decide +kernel
theorem d_Lit_scanExponent_110 : decode prog_5_method_3_code 110 = .ok (.iload 6, 2) := by decide +kernel
theorem d_Lit_scanExponent_112 : decode prog_5_method_3_code 112 = .ok (.invokestatic 58, 3) := by decide +kernel
theorem d_Lit_scanExponent_115 : decode prog_5_method_3_code 115 = .ok (.istore 7, 2) := by decide +kernel
theorem d_Lit_scanExponent_117 : decode prog_5_method_3_code 117 = .ok (.aload_n 0, 1) := by decide +kernel
theorem d_Lit_scanExponent_118 : decode prog_5_method_3_code 118 = .ok (.iload 4, 2) := by decide +kernel
theorem d_Lit_scanExponent_120 : decode prog_5_method_3_code 120 = .ok (.bipush 45, 2) := by decide +kernel
theorem d_Lit_scanExponent_122 : decode prog_5_method_3_code 122 = .ok (.if_icmp .ne 9, 3) := by decide +kernel
theorem d_Lit_scanExponent_125 : decode prog_5_method_3_code 125 = .ok (.iload 7, 2) := by decide +kernel
theorem d_Lit_scanExponent_127 : decode prog_5_method_3_code 127 = .ok (.ineg, 1) := by decide +kernel
theorem d_Lit_scanExponent_128 : decode prog_5_method_3_code 128 = .ok (.goto 5, 3) := by decide +kernel
theorem d_Lit_scanExponent_131 : decode prog_5_method_3_code 131 = .ok (.iload 7, 2) := by decide +kernel
theorem d_Lit_scanExponent_133 : decode prog_5_method_3_code 133 = .ok (.putfield 51, 3) := by decide +kernel
theorem d_Lit_scanExponent_136 : decode prog_5_method_3_code 136 = .ok (.iload 6, 2) := by decide +kernel
theorem d_Lit_scanExponent_138 : decode prog_5_method_3_code 138 = .ok (.iload 5, 2) := by decide +kernel
theorem d_Lit_scanExponent_140 : decode prog_5_method_3_code 140 = .ok (.if_icmp .le 16, 3) := by decide +kernel
theorem d_Lit_scanExponent_143 : decode prog_5_method_3_code 143 = .ok (.iload 6, 2) := by decide +kernel
theorem d_Lit_scanExponent_145 : decode prog_5_method_3_code 145 = .ok (.aload_n 1, 1) := by decide +kernel
theorem d_Lit_scanExponent_146 : decode prog_5_method_3_code 146 = .ok (.invokevirtual 54, 3) := by decide +kernel
theorem d_Lit_scanExponent_149 : decode prog_5_method_3_code 149 = .ok (.if_icmp .ne 7, 3) := by decide +kernel
theorem d_Lit_scanExponent_152 : decode prog_5_method_3_code 152 = .ok (.iconst 1, 1) := by decide +kernel
theorem d_Lit_scanExponent_153 : decode prog_5_method_3_code 153 = .ok (.goto 4, 3) := by decide +kernel
theorem d_Lit_scanExponent_156 : decode prog_5_method_3_code 156 = .ok (.iconst 0, 1) := by decide +kernel
theorem d_Lit_scanExponent_157 : decode prog_5_method_3_code 157 = .ok (.ireturn, 1) := by decide +kernel
def f_Lit_scanExponent_133 (fu : Nat) (n_w1_letters : Nat) (x2 : Int32) (v_isHex : Int32) (w1_start : Int32) (w1_end : Int32) (w1_letters_a : Nat → Int32)  (y5 : Int32) (y6 : Int32) (k1 : Int32) (v_exponent : Int32) : Option (Int32 × Int32) :=
  (if y6 ≤ y5 then
  some (0, k1)
  else
  (f_Row_length w1_start w1_end).bind fun u_7 =>
  (if y6 = u_7 then
  some (1, k1)
  else
  some (0, k1)))
def f_Lit_scanExponent_95 (fu : Nat) (n_w1_letters : Nat) (x2 : Int32) (v_isHex : Int32) (w1_start : Int32) (w1_end : Int32) (w1_letters_a : Nat → Int32)  (y4 : Int32) (k0 : Int32) (v_exponent : Int32) : Option (Int32 × Int32) :=
  (f_Lit_endOfDigits fu n_w1_letters k0 10 w1_start w1_end w1_letters_a).bind fun u_5 =>
  (f_Lit_exponentIn fu n_w1_letters k0 u_5 w1_start w1_end w1_letters_a).bind fun u_6 =>
  (if y4 = 45 then
  f_Lit_scanExponent_133 fu n_w1_letters x2 v_isHex w1_start w1_end w1_letters_a k0 u_5 (-u_6) v_exponent
  else
  f_Lit_scanExponent_133 fu n_w1_letters x2 v_isHex w1_start w1_end w1_letters_a k0 u_5 u_6 v_exponent)
def f_Lit_scanExponent_39 (fu : Nat) (n_w1_letters : Nat) (x2 : Int32) (v_isHex : Int32) (w1_start : Int32) (w1_end : Int32) (w1_letters_a : Nat → Int32)  (k0 : Int32) (v_exponent : Int32) : Option (Int32 × Int32) :=
  (if k0 = 0 then
  (if v_isHex = 0 then
  (f_Row_length w1_start w1_end).bind fun u_8 =>
  (if x2 = u_8 then
  some (1, v_exponent)
  else
  some (0, v_exponent))
  else
  some (0, v_exponent))
  else
  (f_Row_at n_w1_letters (x2 + 1) w1_start w1_end w1_letters_a).bind fun u_3 =>
  (f_Lit_isEither u_3 43 45).bind fun u_4 =>
  (if u_4 = 0 then
  f_Lit_scanExponent_95 fu n_w1_letters x2 v_isHex w1_start w1_end w1_letters_a u_3 (x2 + 1) v_exponent
  else
  f_Lit_scanExponent_95 fu n_w1_letters x2 v_isHex w1_start w1_end w1_letters_a u_3 (x2 + 2) v_exponent))
def f_Lit_scanExponent (fu : Nat) (n_w1_letters : Nat) (x2 : Int32) (v_exponent : Int32) (v_isHex : Int32) (w1_start : Int32) (w1_end : Int32) (w1_letters_a : Nat → Int32) : Option (Int32 × Int32) :=
  (if v_isHex = 0 then
  (f_Row_at n_w1_letters x2 w1_start w1_end w1_letters_a).bind fun u_1 =>
  (f_Lit_isEither u_1 101 69).bind fun u_2 =>
  f_Lit_scanExponent_39 fu n_w1_letters x2 v_isHex w1_start w1_end w1_letters_a u_2 0
  else
  (f_Row_at n_w1_letters x2 w1_start w1_end w1_letters_a).bind fun u_9 =>
  (f_Lit_isEither u_9 112 80).bind fun u_10 =>
  f_Lit_scanExponent_39 fu n_w1_letters x2 v_isHex w1_start w1_end w1_letters_a u_10 0)
set_option maxHeartbeats 4000000 in
set_option maxRecDepth 100000 in
theorem c_Lit_scanExponent (l : Launch) (dC : Nat → ClassId) (dI : Nat → Nat → Nat) (cI cC cB cJ : ClassId) (fu : Nat) (sz : Nat) (h_v : Nat) (h_w1 : Nat) (h_w1_letters : Nat) (h_v_digits : Nat) (n_w1_letters : Nat) (x2 : Int32) (v_digitCount : Int32) (v_fraction : Int32) (v_exponent : Int32) (v_isHex : Int32) (w1_start : Int32) (w1_end : Int32) (w1_letters_a : Nat → Int32) (u : Int32 × Int32) (hf : f_Lit_scanExponent fu n_w1_letters x2 v_exponent v_isHex w1_start w1_end w1_letters_a = some u) : Met l y_Lit_scanExponent ws_Lit_scanExponent rm_Lit_scanExponent (zz_P zz_T (dC, dI) vwCl (zz_tys cI cC cB cJ) [.ref h_v, .ref h_w1, .int x2] [(h_v, .inr (2, [.ref h_v_digits, .int v_digitCount, .int v_fraction, .int v_exponent, .int v_isHex])), (h_w1, .inr (4, [.ref h_w1_letters, .int w1_start, .int w1_end])), (h_w1_letters, .inl (cC, n_w1_letters, .inl w1_letters_a))] sz) (zz_Qi (dC, dI) vwCl u.1 [(h_v, .inr (2, [.ref h_v_digits, .int v_digitCount, .int v_fraction, .int u.2, .int v_isHex])), (h_w1, .inr (4, [.ref h_w1_letters, .int w1_start, .int w1_end])), (h_w1_letters, .inl (cC, n_w1_letters, .inl w1_letters_a))] (va_A [(h_v, .inr (2, [.ref h_v_digits, .int v_digitCount, .int v_fraction, .int v_exponent, .int v_isHex])), (h_w1, .inr (4, [.ref h_w1_letters, .int w1_start, .int w1_end])), (h_w1_letters, .inl (cC, n_w1_letters, .inl w1_letters_a))] sz)) 0 0 (va_A [(h_v, .inr (2, [.ref h_v_digits, .int v_digitCount, .int v_fraction, .int v_exponent, .int v_isHex])), (h_w1, .inr (4, [.ref h_w1_letters, .int w1_start, .int w1_end])), (h_w1_letters, .inl (cC, n_w1_letters, .inl w1_letters_a))] sz) := by
  refine Met.ofW (cc := prog_5_method_3_code) (maxL := 8) (ret := (some .boolean)) (by decide +kernel) rfl ?_
  intro p e s m args below meth c s₁ B hml hv
  obtain ⟨rfl, hsz, hP, hK, hD0, hX⟩ := hv
  have hx := B.exec
  have hb := B.bytes
  have hr := B.returns
  have hts := atoms_spec (ws := ws_Lit_scanExponent) B.pre
  have hw : ∀ w ∈ zw, w.before [.ref h_v, .ref h_w1, .int x2].toArray s = true := fun w h => hts w (List.mem_cons_of_mem _ h)
  have hown : s.vm.findClass R_Lit = some m.cls := findClass_of_methodNamed B.named
  have hlocks := B.notSynchronized
  subst hsz
  have hD := hD0.self (sz := s.heap.size)
  generalize hAe : va_A [(h_v, .inr (2, [.ref h_v_digits, .int v_digitCount, .int v_fraction, .int v_exponent, .int v_isHex])), (h_w1, .inr (4, [.ref h_w1_letters, .int w1_start, .int w1_end])), (h_w1_letters, .inl (cC, n_w1_letters, .inl w1_letters_a))] s.heap.size = A at hD hX ⊢
  have hA : ∀ q : Nat, s.heap.size ≤ q → A q := fun q h => by rw [← hAe]; exact Or.inr h
  have hS : va_S A s.heap s.heap [] := va_S.rf
  have hl := lv_entry [.ref h_v, .ref h_w1, .int x2] (n := 8) (Nat.le_of_ble_eq_true rfl)
  rw [lg_entry_eq]
  generalize (lg_sl [.ref h_v, .ref h_w1, .int x2] ++ List.replicate (8 - (lg_sl [.ref h_v, .ref h_w1, .int x2]).length) Slot.unset).toArray = ls at hl ⊢
  have hl : lv_has ls 8 [(0, .ref h_v), (1, .ref h_w1), (2, .int x2)] := hl
  refine zz_endz hx hb hr hlocks (fun Qq hend => ?_)
  have hL_133 : ∀ (y5 : Int32) (y6 : Int32) (k1 : Int32) (v_exponent : Int32) (ls : Array Slot) (H : Heap) (locs : List Loc), lv_has ls 8 [(1, .ref h_w1), (5, .int y5), (6, .int y6)] → va_P (dC, dI) vwCl [(h_v, .inr (2, [.ref h_v_digits, .int v_digitCount, .int v_fraction, .int v_exponent, .int v_isHex])), (h_w1, .inr (4, [.ref h_w1_letters, .int w1_start, .int w1_end])), (h_w1_letters, .inl (cC, n_w1_letters, .inl w1_letters_a))] H → va_D A [(h_v, .inr (2, [.ref h_v_digits, .int v_digitCount, .int v_fraction, .int v_exponent, .int v_isHex])), (h_w1, .inr (4, [.ref h_w1_letters, .int w1_start, .int w1_end])), (h_w1_letters, .inl (cC, n_w1_letters, .inl w1_letters_a))] → va_S A s.heap H locs → f_Lit_scanExponent_133 fu n_w1_letters x2 v_isHex w1_start w1_end w1_letters_a y5 y6 k1 v_exponent = some u → W p l e (headSpec ws_Lit_scanExponent rm_Lit_scanExponent).room s m [.ref h_v, .ref h_w1, .int x2].toArray below meth c H locs 0 0 Qq (F0 m 133 ls [.int k1, .ref h_v]) := by
    intro y5 y6 k1 v_exponent ls H locs hl hP hD hS hf
    unfold f_Lit_scanExponent_133 at hf
    refine va_put (D := (dC, dI)) (ci := 2) (v := .int k1) (ty := .int) (C := R_Lit) (T := T_Lit) (N := 5) hx hb hw in_Lit ty_Lit tyok_Lit nm_Lit hown hK hP hD hS 0 rfl rfl 3 (by decide) (hw _ wd_62) (fun _ h9 => h9) rfl (tyok_Lit 3 (by decide)) rfl rfl (Nat.le_of_ble_eq_true rfl) d_Lit_scanExponent_133 (fun H locs hP hD hS => ?_)
    have hP : va_P (dC, dI) vwCl [(h_v, .inr (2, [.ref h_v_digits, .int v_digitCount, .int v_fraction, .int k1, .int v_isHex])), (h_w1, .inr (4, [.ref h_w1_letters, .int w1_start, .int w1_end])), (h_w1_letters, .inl (cC, n_w1_letters, .inl w1_letters_a))] H := hP
    have hD : va_D A [(h_v, .inr (2, [.ref h_v_digits, .int v_digitCount, .int v_fraction, .int k1, .int v_isHex])), (h_w1, .inr (4, [.ref h_w1_letters, .int w1_start, .int w1_end])), (h_w1_letters, .inl (cC, n_w1_letters, .inl w1_letters_a))] := hD
    refine lv_iload hx hb d_Lit_scanExponent_136 (lv_at hl 2 rfl) ?_
    refine lv_iload hx hb d_Lit_scanExponent_138 (lv_at hl 1 rfl) ?_
    refine lv_icmp_le (tgt := 156) hx hb d_Lit_scanExponent_140 (by decide) (fun hc => ?_) (fun hc => ?_)
    · have hf := zz_ifp hc hf
      refine lv_iconst (v := 0) hx hb d_Lit_scanExponent_156 (by decide) ?_
      cases hf
      exact hend 157 ls _ _ narrow_b0 d_Lit_scanExponent_157 hP hD hS
    · have hf := zz_ifn hc hf
      refine lv_iload hx hb d_Lit_scanExponent_143 (lv_at hl 2 rfl) ?_
      refine lv_aload_n hx hb d_Lit_scanExponent_145 rfl (lv_at hl 0 rfl) ?_
      obtain ⟨u_7, hu_7, hf⟩ := zz_bd hf
      refine zz_ci (ws' := [(h_v, .inr (2, [.ref h_v_digits, .int v_digitCount, .int v_fraction, .int k1, .int v_isHex])), (h_w1, .inr (4, [.ref h_w1_letters, .int w1_start, .int w1_end])), (h_w1_letters, .inl (cC, n_w1_letters, .inl w1_letters_a))]) (wc := [(h_w1, .inr (4, [.ref h_w1_letters, .int w1_start, .int w1_end]))]) (w' := [(h_w1, .inr (4, [.ref h_w1_letters, .int w1_start, .int w1_end]))]) hP hD hS hA [1] [0, 2] [0, 2, 1] rfl rfl (by decide) (by decide) rfl (by decide) (va_runV (As := []) (rest := [.int y6]) ⟨hx, hb, hml, hown, hw⟩ (c_Row_length l dC dI cI cC cB cJ _ h_w1 h_w1_letters w1_start w1_end u_7 hu_7) (cwV 0 hw (zg_V wd_575 wd_284 wd_285 wd_2 wd_286) rfl rfl rfl hd_Row_length ⟨Nat.le_of_ble_eq_true rfl, Nat.le_of_ble_eq_true rfl⟩) (zz_preV zz_TE (va_recv (q0 := 1) (ci := 4) hK hP rfl rfl) hP hD hK hS hA trivial [1] rfl (by decide)) rfl rfl hl.1 rfl (lv_room (Nat.le_of_ble_eq_true rfl)) d_Lit_scanExponent_146 ⟨Nat.zero_le _, Nat.zero_le _⟩) (fun H locs hP hD hS => ?_)
      refine lv_icmp_ne (tgt := 156) hx hb d_Lit_scanExponent_149 (by decide) (fun hc => ?_) (fun hc => ?_)
      · have hf := zz_ifn hc hf
        refine lv_iconst (v := 0) hx hb d_Lit_scanExponent_156 (by decide) ?_
        cases hf
        exact hend 157 ls _ _ narrow_b0 d_Lit_scanExponent_157 hP hD hS
      · have hf := zz_ifp hc hf
        refine lv_iconst (v := 1) hx hb d_Lit_scanExponent_152 (by decide) ?_
        refine lv_goto (tgt := 157) hx hb d_Lit_scanExponent_153 (by decide) ?_
        cases hf
        exact hend 157 ls _ _ narrow_b1 d_Lit_scanExponent_157 hP hD hS
  have hL_95 : ∀ (y4 : Int32) (k0 : Int32) (v_exponent : Int32) (ls : Array Slot) (H : Heap) (locs : List Loc), lv_has ls 8 [(0, .ref h_v), (1, .ref h_w1), (4, .int y4)] → va_P (dC, dI) vwCl [(h_v, .inr (2, [.ref h_v_digits, .int v_digitCount, .int v_fraction, .int v_exponent, .int v_isHex])), (h_w1, .inr (4, [.ref h_w1_letters, .int w1_start, .int w1_end])), (h_w1_letters, .inl (cC, n_w1_letters, .inl w1_letters_a))] H → va_D A [(h_v, .inr (2, [.ref h_v_digits, .int v_digitCount, .int v_fraction, .int v_exponent, .int v_isHex])), (h_w1, .inr (4, [.ref h_w1_letters, .int w1_start, .int w1_end])), (h_w1_letters, .inl (cC, n_w1_letters, .inl w1_letters_a))] → va_S A s.heap H locs → f_Lit_scanExponent_95 fu n_w1_letters x2 v_isHex w1_start w1_end w1_letters_a y4 k0 v_exponent = some u → W p l e (headSpec ws_Lit_scanExponent rm_Lit_scanExponent).room s m [.ref h_v, .ref h_w1, .int x2].toArray below meth c H locs 0 0 Qq (F0 m 95 ls [.int k0]) := by
    intro y4 k0 v_exponent ls H locs hl hP hD hS hf
    unfold f_Lit_scanExponent_95 at hf
    refine lv_istore hx hb d_Lit_scanExponent_95 hl (by decide) rfl (fun ls hl => ?_)
    have hl : lv_has ls 8 [(5, .int k0), (0, .ref h_v), (1, .ref h_w1), (4, .int y4)] := hl
    refine lv_aload_n hx hb d_Lit_scanExponent_97 rfl (lv_at hl 2 rfl) ?_
    refine lv_iload hx hb d_Lit_scanExponent_98 (lv_at hl 0 rfl) ?_
    refine lv_bipush (v := 10) hx hb d_Lit_scanExponent_100 (by decide) ?_
    obtain ⟨u_5, hu_5, hf⟩ := zz_bd hf
    refine zz_ci (ws' := [(h_v, .inr (2, [.ref h_v_digits, .int v_digitCount, .int v_fraction, .int v_exponent, .int v_isHex])), (h_w1, .inr (4, [.ref h_w1_letters, .int w1_start, .int w1_end])), (h_w1_letters, .inl (cC, n_w1_letters, .inl w1_letters_a))]) (wc := [(h_w1, .inr (4, [.ref h_w1_letters, .int w1_start, .int w1_end])), (h_w1_letters, .inl (cC, n_w1_letters, .inl w1_letters_a))]) (w' := [(h_w1, .inr (4, [.ref h_w1_letters, .int w1_start, .int w1_end])), (h_w1_letters, .inl (cC, n_w1_letters, .inl w1_letters_a))]) hP hD hS hA [1, 2] [0] [0, 1, 2] rfl rfl (by decide) (by decide) rfl (by decide) (va_runS (As := [.ref h_w1, .int k0, .int 10]) (rest := []) ⟨hx, hb, hml, hown, hw⟩ (c_Lit_endOfDigits l dC dI cI cC cB cJ fu _ h_w1 h_w1_letters n_w1_letters k0 10 w1_start w1_end w1_letters_a u_5 hu_5) (va_cwS 3 hw (zg_S wd_572 wd_573 wd_3 wd_574) rfl rfl rfl hd_Lit_endOfDigits ⟨Nat.le_of_ble_eq_true rfl, Nat.le_of_ble_eq_true rfl⟩) (zz_preS zz_TE hP hD hK hS hA trivial [1, 2] rfl (by decide)) rfl rfl hl.1 rfl (lv_room (Nat.le_of_ble_eq_true rfl)) d_Lit_scanExponent_102 ⟨Nat.zero_le _, Nat.zero_le _⟩) (fun H locs hP hD hS => ?_)
    refine lv_istore hx hb d_Lit_scanExponent_105 hl (by decide) rfl (fun ls hl => ?_)
    have hl : lv_has ls 8 [(6, .int u_5), (5, .int k0), (0, .ref h_v), (1, .ref h_w1), (4, .int y4)] := hl
    refine lv_aload_n hx hb d_Lit_scanExponent_107 rfl (lv_at hl 3 rfl) ?_
    refine lv_iload hx hb d_Lit_scanExponent_108 (lv_at hl 1 rfl) ?_
    refine lv_iload hx hb d_Lit_scanExponent_110 (lv_at hl 0 rfl) ?_
    obtain ⟨u_6, hu_6, hf⟩ := zz_bd hf
    refine zz_ci (ws' := [(h_v, .inr (2, [.ref h_v_digits, .int v_digitCount, .int v_fraction, .int v_exponent, .int v_isHex])), (h_w1, .inr (4, [.ref h_w1_letters, .int w1_start, .int w1_end])), (h_w1_letters, .inl (cC, n_w1_letters, .inl w1_letters_a))]) (wc := [(h_w1, .inr (4, [.ref h_w1_letters, .int w1_start, .int w1_end])), (h_w1_letters, .inl (cC, n_w1_letters, .inl w1_letters_a))]) (w' := [(h_w1, .inr (4, [.ref h_w1_letters, .int w1_start, .int w1_end])), (h_w1_letters, .inl (cC, n_w1_letters, .inl w1_letters_a))]) hP hD hS hA [1, 2] [0] [0, 1, 2] rfl rfl (by decide) (by decide) rfl (by decide) (va_runS (As := [.ref h_w1, .int k0, .int u_5]) (rest := []) ⟨hx, hb, hml, hown, hw⟩ (c_Lit_exponentIn l dC dI cI cC cB cJ fu _ h_w1 h_w1_letters n_w1_letters k0 u_5 w1_start w1_end w1_letters_a u_6 hu_6) (va_cwS 3 hw (zg_S wd_595 wd_596 wd_3 wd_597) rfl rfl rfl hd_Lit_exponentIn ⟨Nat.le_of_ble_eq_true rfl, Nat.le_of_ble_eq_true rfl⟩) (zz_preS zz_TE hP hD hK hS hA trivial [1, 2] rfl (by decide)) rfl rfl hl.1 rfl (lv_room (Nat.le_of_ble_eq_true rfl)) d_Lit_scanExponent_112 ⟨Nat.zero_le _, Nat.zero_le _⟩) (fun H locs hP hD hS => ?_)
    refine lv_istore hx hb d_Lit_scanExponent_115 hl (by decide) rfl (fun ls hl => ?_)
    have hl : lv_has ls 8 [(7, .int u_6), (6, .int u_5), (5, .int k0), (0, .ref h_v), (1, .ref h_w1), (4, .int y4)] := hl
    refine lv_aload_n hx hb d_Lit_scanExponent_117 rfl (lv_at hl 3 rfl) ?_
    refine lv_iload hx hb d_Lit_scanExponent_118 (lv_at hl 5 rfl) ?_
    refine lv_bipush (v := 45) hx hb d_Lit_scanExponent_120 (by decide) ?_
    refine lv_icmp_ne (tgt := 131) hx hb d_Lit_scanExponent_122 (by decide) (fun hc => ?_) (fun hc => ?_)
    · have hf := zz_ifn hc hf
      refine lv_iload hx hb d_Lit_scanExponent_131 (lv_at hl 0 rfl) ?_
      exact hL_133 k0 u_5 u_6 v_exponent ls _ _ (lv_sub hl [4, 2, 1] rfl) hP hD hS hf
    · have hf := zz_ifp hc hf
      refine lv_iload hx hb d_Lit_scanExponent_125 (lv_at hl 0 rfl) ?_
      refine lv_ineg hx hb d_Lit_scanExponent_127 ?_
      refine lv_goto (tgt := 133) hx hb d_Lit_scanExponent_128 (by decide) ?_
      exact hL_133 k0 u_5 (-u_6) v_exponent ls _ _ (lv_sub hl [4, 2, 1] rfl) hP hD hS hf
  have hL_39 : ∀ (k0 : Int32) (v_exponent : Int32) (ls : Array Slot) (H : Heap) (locs : List Loc), lv_has ls 8 [(0, .ref h_v), (1, .ref h_w1), (2, .int x2)] → va_P (dC, dI) vwCl [(h_v, .inr (2, [.ref h_v_digits, .int v_digitCount, .int v_fraction, .int v_exponent, .int v_isHex])), (h_w1, .inr (4, [.ref h_w1_letters, .int w1_start, .int w1_end])), (h_w1_letters, .inl (cC, n_w1_letters, .inl w1_letters_a))] H → va_D A [(h_v, .inr (2, [.ref h_v_digits, .int v_digitCount, .int v_fraction, .int v_exponent, .int v_isHex])), (h_w1, .inr (4, [.ref h_w1_letters, .int w1_start, .int w1_end])), (h_w1_letters, .inl (cC, n_w1_letters, .inl w1_letters_a))] → va_S A s.heap H locs → f_Lit_scanExponent_39 fu n_w1_letters x2 v_isHex w1_start w1_end w1_letters_a k0 v_exponent = some u → W p l e (headSpec ws_Lit_scanExponent rm_Lit_scanExponent).room s m [.ref h_v, .ref h_w1, .int x2].toArray below meth c H locs 0 0 Qq (F0 m 39 ls [.int k0]) := by
    intro k0 v_exponent ls H locs hl hP hD hS hf
    unfold f_Lit_scanExponent_39 at hf
    refine lv_istore_n hx hb d_Lit_scanExponent_39 rfl hl (by decide) rfl (fun ls hl => ?_)
    have hl : lv_has ls 8 [(3, .int k0), (0, .ref h_v), (1, .ref h_w1), (2, .int x2)] := hl
    refine lv_iload_n hx hb d_Lit_scanExponent_40 rfl (lv_at hl 0 rfl) ?_
    refine lv_if_ne (tgt := 65) hx hb d_Lit_scanExponent_41 (by decide) (fun hc => ?_) (fun hc => ?_)
    · have hf := zz_ifn hc hf
      refine lv_aload_n hx hb d_Lit_scanExponent_65 rfl (lv_at hl 2 rfl) ?_
      refine lv_iload_n hx hb d_Lit_scanExponent_66 rfl (lv_at hl 3 rfl) ?_
      refine lv_iconst (v := 1) hx hb d_Lit_scanExponent_67 (by decide) ?_
      refine lv_iadd hx hb d_Lit_scanExponent_68 ?_
      obtain ⟨u_3, hu_3, hf⟩ := zz_bd hf
      refine zz_ci (ws' := [(h_v, .inr (2, [.ref h_v_digits, .int v_digitCount, .int v_fraction, .int v_exponent, .int v_isHex])), (h_w1, .inr (4, [.ref h_w1_letters, .int w1_start, .int w1_end])), (h_w1_letters, .inl (cC, n_w1_letters, .inl w1_letters_a))]) (wc := [(h_w1, .inr (4, [.ref h_w1_letters, .int w1_start, .int w1_end])), (h_w1_letters, .inl (cC, n_w1_letters, .inl w1_letters_a))]) (w' := [(h_w1, .inr (4, [.ref h_w1_letters, .int w1_start, .int w1_end])), (h_w1_letters, .inl (cC, n_w1_letters, .inl w1_letters_a))]) hP hD hS hA [1, 2] [0] [0, 1, 2] rfl rfl (by decide) (by decide) rfl (by decide) (va_runV (As := [.int (x2 + 1)]) (rest := []) ⟨hx, hb, hml, hown, hw⟩ (c_Row_at l dC dI cI cC cB cJ _ h_w1 h_w1_letters n_w1_letters (x2 + 1) w1_start w1_end w1_letters_a u_3 hu_3) (cwV 1 hw (zg_V wd_568 wd_448 wd_449 wd_2 wd_450) rfl rfl rfl hd_Row_at ⟨Nat.le_of_ble_eq_true rfl, Nat.le_of_ble_eq_true rfl⟩) (zz_preV zz_TE (va_recv (q0 := 1) (ci := 4) hK hP rfl rfl) hP hD hK hS hA trivial [1, 2] rfl (by decide)) rfl rfl hl.1 rfl (lv_room (Nat.le_of_ble_eq_true rfl)) d_Lit_scanExponent_69 ⟨Nat.zero_le _, Nat.zero_le _⟩) (fun H locs hP hD hS => ?_)
      refine lv_istore hx hb d_Lit_scanExponent_72 hl (by decide) rfl (fun ls hl => ?_)
      have hl : lv_has ls 8 [(4, .int u_3), (3, .int k0), (0, .ref h_v), (1, .ref h_w1), (2, .int x2)] := hl
      refine lv_iload hx hb d_Lit_scanExponent_74 (lv_at hl 0 rfl) ?_
      refine lv_bipush (v := 43) hx hb d_Lit_scanExponent_76 (by decide) ?_
      refine lv_bipush (v := 45) hx hb d_Lit_scanExponent_78 (by decide) ?_
      obtain ⟨u_4, hu_4, hf⟩ := zz_bd hf
      refine zz_ci (ws' := [(h_v, .inr (2, [.ref h_v_digits, .int v_digitCount, .int v_fraction, .int v_exponent, .int v_isHex])), (h_w1, .inr (4, [.ref h_w1_letters, .int w1_start, .int w1_end])), (h_w1_letters, .inl (cC, n_w1_letters, .inl w1_letters_a))]) (wc := []) (w' := []) hP hD hS hA [] [0, 1, 2] [0, 1, 2] rfl rfl (by decide) (by decide) rfl (by decide) (va_runS (As := [.int u_3, .int 43, .int 45]) (rest := []) ⟨hx, hb, hml, hown, hw⟩ (c_Lit_isEither l dC dI cI cC cB cJ _ u_3 43 45 u_4 hu_4) (va_cwS 3 hw (zg_S wd_569 wd_570 wd_3 wd_571) rfl rfl rfl hd_Lit_isEither ⟨Nat.le_of_ble_eq_true rfl, Nat.le_of_ble_eq_true rfl⟩) (zz_preS zz_TE hP hD hK hS hA trivial [] rfl (by decide)) rfl rfl hl.1 rfl (lv_room (Nat.le_of_ble_eq_true rfl)) d_Lit_scanExponent_80 ⟨Nat.zero_le _, Nat.zero_le _⟩) (fun H locs hP hD hS => ?_)
      refine lv_if_eq (tgt := 92) hx hb d_Lit_scanExponent_83 (by decide) (fun hc => ?_) (fun hc => ?_)
      · have hf := zz_ifp hc hf
        refine lv_iload_n hx hb d_Lit_scanExponent_92 rfl (lv_at hl 4 rfl) ?_
        refine lv_iconst (v := 1) hx hb d_Lit_scanExponent_93 (by decide) ?_
        refine lv_iadd hx hb d_Lit_scanExponent_94 ?_
        exact hL_95 u_3 (x2 + 1) v_exponent ls _ _ (lv_sub hl [2, 3, 0] rfl) hP hD hS hf
      · have hf := zz_ifn hc hf
        refine lv_iload_n hx hb d_Lit_scanExponent_86 rfl (lv_at hl 4 rfl) ?_
        refine lv_iconst (v := 2) hx hb d_Lit_scanExponent_87 (by decide) ?_
        refine lv_iadd hx hb d_Lit_scanExponent_88 ?_
        refine lv_goto (tgt := 95) hx hb d_Lit_scanExponent_89 (by decide) ?_
        exact hL_95 u_3 (x2 + 2) v_exponent ls _ _ (lv_sub hl [2, 3, 0] rfl) hP hD hS hf
    · have hf := zz_ifp hc hf
      refine lv_aload_n hx hb d_Lit_scanExponent_44 rfl (lv_at hl 1 rfl) ?_
      refine va_get (D := (dC, dI)) (ci := 2) (v := .int v_isHex) (C := R_Lit) (T := T_Lit) (N := 5) hx hb hw in_Lit hown hK hP 0 rfl rfl 4 (by decide) (hw _ wd_64) (fun _ h9 => h9) rfl d_Lit_scanExponent_45 ?_
      refine lv_if_ne (tgt := 63) hx hb d_Lit_scanExponent_48 (by decide) (fun hc => ?_) (fun hc => ?_)
      · have hf := zz_ifn hc hf
        refine lv_iconst (v := 0) hx hb d_Lit_scanExponent_63 (by decide) ?_
        cases hf
        exact hend 64 ls _ _ narrow_b0 d_Lit_scanExponent_64 hP hD hS
      · have hf := zz_ifp hc hf
        refine lv_iload_n hx hb d_Lit_scanExponent_51 rfl (lv_at hl 3 rfl) ?_
        refine lv_aload_n hx hb d_Lit_scanExponent_52 rfl (lv_at hl 2 rfl) ?_
        obtain ⟨u_8, hu_8, hf⟩ := zz_bd hf
        refine zz_ci (ws' := [(h_v, .inr (2, [.ref h_v_digits, .int v_digitCount, .int v_fraction, .int v_exponent, .int v_isHex])), (h_w1, .inr (4, [.ref h_w1_letters, .int w1_start, .int w1_end])), (h_w1_letters, .inl (cC, n_w1_letters, .inl w1_letters_a))]) (wc := [(h_w1, .inr (4, [.ref h_w1_letters, .int w1_start, .int w1_end]))]) (w' := [(h_w1, .inr (4, [.ref h_w1_letters, .int w1_start, .int w1_end]))]) hP hD hS hA [1] [0, 2] [0, 2, 1] rfl rfl (by decide) (by decide) rfl (by decide) (va_runV (As := []) (rest := [.int x2]) ⟨hx, hb, hml, hown, hw⟩ (c_Row_length l dC dI cI cC cB cJ _ h_w1 h_w1_letters w1_start w1_end u_8 hu_8) (cwV 0 hw (zg_V wd_575 wd_284 wd_285 wd_2 wd_286) rfl rfl rfl hd_Row_length ⟨Nat.le_of_ble_eq_true rfl, Nat.le_of_ble_eq_true rfl⟩) (zz_preV zz_TE (va_recv (q0 := 1) (ci := 4) hK hP rfl rfl) hP hD hK hS hA trivial [1] rfl (by decide)) rfl rfl hl.1 rfl (lv_room (Nat.le_of_ble_eq_true rfl)) d_Lit_scanExponent_53 ⟨Nat.zero_le _, Nat.zero_le _⟩) (fun H locs hP hD hS => ?_)
        refine lv_icmp_ne (tgt := 63) hx hb d_Lit_scanExponent_56 (by decide) (fun hc => ?_) (fun hc => ?_)
        · have hf := zz_ifn hc hf
          refine lv_iconst (v := 0) hx hb d_Lit_scanExponent_63 (by decide) ?_
          cases hf
          exact hend 64 ls _ _ narrow_b0 d_Lit_scanExponent_64 hP hD hS
        · have hf := zz_ifp hc hf
          refine lv_iconst (v := 1) hx hb d_Lit_scanExponent_59 (by decide) ?_
          refine lv_goto (tgt := 64) hx hb d_Lit_scanExponent_60 (by decide) ?_
          cases hf
          exact hend 64 ls _ _ narrow_b1 d_Lit_scanExponent_64 hP hD hS
  unfold f_Lit_scanExponent at hf
  refine lv_aload_n hx hb d_Lit_scanExponent_0 rfl (lv_at hl 0 rfl) ?_
  refine lv_iconst (v := 0) hx hb d_Lit_scanExponent_1 (by decide) ?_
  refine va_put (D := (dC, dI)) (ci := 2) (v := .int 0) (ty := .int) (C := R_Lit) (T := T_Lit) (N := 5) hx hb hw in_Lit ty_Lit tyok_Lit nm_Lit hown hK hP hD hS 0 rfl rfl 3 (by decide) (hw _ wd_62) (fun _ h9 => h9) rfl (tyok_Lit 3 (by decide)) rfl rfl (Nat.le_of_ble_eq_true rfl) d_Lit_scanExponent_2 (fun H locs hP hD hS => ?_)
  have hP : va_P (dC, dI) vwCl [(h_v, .inr (2, [.ref h_v_digits, .int v_digitCount, .int v_fraction, .int 0, .int v_isHex])), (h_w1, .inr (4, [.ref h_w1_letters, .int w1_start, .int w1_end])), (h_w1_letters, .inl (cC, n_w1_letters, .inl w1_letters_a))] H := hP
  have hD : va_D A [(h_v, .inr (2, [.ref h_v_digits, .int v_digitCount, .int v_fraction, .int 0, .int v_isHex])), (h_w1, .inr (4, [.ref h_w1_letters, .int w1_start, .int w1_end])), (h_w1_letters, .inl (cC, n_w1_letters, .inl w1_letters_a))] := hD
  refine lv_aload_n hx hb d_Lit_scanExponent_5 rfl (lv_at hl 0 rfl) ?_
  refine va_get (D := (dC, dI)) (ci := 2) (v := .int v_isHex) (C := R_Lit) (T := T_Lit) (N := 5) hx hb hw in_Lit hown hK hP 0 rfl rfl 4 (by decide) (hw _ wd_64) (fun _ h9 => h9) rfl d_Lit_scanExponent_6 ?_
  refine lv_if_eq (tgt := 27) hx hb d_Lit_scanExponent_9 (by decide) (fun hc => ?_) (fun hc => ?_)
  · have hf := zz_ifp hc hf
    refine lv_aload_n hx hb d_Lit_scanExponent_27 rfl (lv_at hl 1 rfl) ?_
    refine lv_iload_n hx hb d_Lit_scanExponent_28 rfl (lv_at hl 2 rfl) ?_
    obtain ⟨u_1, hu_1, hf⟩ := zz_bd hf
    refine zz_ci (ws' := [(h_v, .inr (2, [.ref h_v_digits, .int v_digitCount, .int v_fraction, .int 0, .int v_isHex])), (h_w1, .inr (4, [.ref h_w1_letters, .int w1_start, .int w1_end])), (h_w1_letters, .inl (cC, n_w1_letters, .inl w1_letters_a))]) (wc := [(h_w1, .inr (4, [.ref h_w1_letters, .int w1_start, .int w1_end])), (h_w1_letters, .inl (cC, n_w1_letters, .inl w1_letters_a))]) (w' := [(h_w1, .inr (4, [.ref h_w1_letters, .int w1_start, .int w1_end])), (h_w1_letters, .inl (cC, n_w1_letters, .inl w1_letters_a))]) hP hD hS hA [1, 2] [0] [0, 1, 2] rfl rfl (by decide) (by decide) rfl (by decide) (va_runV (As := [.int x2]) (rest := []) ⟨hx, hb, hml, hown, hw⟩ (c_Row_at l dC dI cI cC cB cJ _ h_w1 h_w1_letters n_w1_letters x2 w1_start w1_end w1_letters_a u_1 hu_1) (cwV 1 hw (zg_V wd_568 wd_448 wd_449 wd_2 wd_450) rfl rfl rfl hd_Row_at ⟨Nat.le_of_ble_eq_true rfl, Nat.le_of_ble_eq_true rfl⟩) (zz_preV zz_TE (va_recv (q0 := 1) (ci := 4) hK hP rfl rfl) hP hD hK hS hA trivial [1, 2] rfl (by decide)) rfl rfl hl.1 rfl (lv_room (Nat.le_of_ble_eq_true rfl)) d_Lit_scanExponent_29 ⟨Nat.zero_le _, Nat.zero_le _⟩) (fun H locs hP hD hS => ?_)
    refine lv_bipush (v := 101) hx hb d_Lit_scanExponent_32 (by decide) ?_
    refine lv_bipush (v := 69) hx hb d_Lit_scanExponent_34 (by decide) ?_
    obtain ⟨u_2, hu_2, hf⟩ := zz_bd hf
    refine zz_ci (ws' := [(h_v, .inr (2, [.ref h_v_digits, .int v_digitCount, .int v_fraction, .int 0, .int v_isHex])), (h_w1, .inr (4, [.ref h_w1_letters, .int w1_start, .int w1_end])), (h_w1_letters, .inl (cC, n_w1_letters, .inl w1_letters_a))]) (wc := []) (w' := []) hP hD hS hA [] [0, 1, 2] [0, 1, 2] rfl rfl (by decide) (by decide) rfl (by decide) (va_runS (As := [.int u_1, .int 101, .int 69]) (rest := []) ⟨hx, hb, hml, hown, hw⟩ (c_Lit_isEither l dC dI cI cC cB cJ _ u_1 101 69 u_2 hu_2) (va_cwS 3 hw (zg_S wd_569 wd_570 wd_3 wd_571) rfl rfl rfl hd_Lit_isEither ⟨Nat.le_of_ble_eq_true rfl, Nat.le_of_ble_eq_true rfl⟩) (zz_preS zz_TE hP hD hK hS hA trivial [] rfl (by decide)) rfl rfl hl.1 rfl (lv_room (Nat.le_of_ble_eq_true rfl)) d_Lit_scanExponent_36 ⟨Nat.zero_le _, Nat.zero_le _⟩) (fun H locs hP hD hS => ?_)
    exact hL_39 u_2 0 ls _ _ (lv_sub hl [0, 1, 2] rfl) hP hD hS hf
  · have hf := zz_ifn hc hf
    refine lv_aload_n hx hb d_Lit_scanExponent_12 rfl (lv_at hl 1 rfl) ?_
    refine lv_iload_n hx hb d_Lit_scanExponent_13 rfl (lv_at hl 2 rfl) ?_
    obtain ⟨u_9, hu_9, hf⟩ := zz_bd hf
    refine zz_ci (ws' := [(h_v, .inr (2, [.ref h_v_digits, .int v_digitCount, .int v_fraction, .int 0, .int v_isHex])), (h_w1, .inr (4, [.ref h_w1_letters, .int w1_start, .int w1_end])), (h_w1_letters, .inl (cC, n_w1_letters, .inl w1_letters_a))]) (wc := [(h_w1, .inr (4, [.ref h_w1_letters, .int w1_start, .int w1_end])), (h_w1_letters, .inl (cC, n_w1_letters, .inl w1_letters_a))]) (w' := [(h_w1, .inr (4, [.ref h_w1_letters, .int w1_start, .int w1_end])), (h_w1_letters, .inl (cC, n_w1_letters, .inl w1_letters_a))]) hP hD hS hA [1, 2] [0] [0, 1, 2] rfl rfl (by decide) (by decide) rfl (by decide) (va_runV (As := [.int x2]) (rest := []) ⟨hx, hb, hml, hown, hw⟩ (c_Row_at l dC dI cI cC cB cJ _ h_w1 h_w1_letters n_w1_letters x2 w1_start w1_end w1_letters_a u_9 hu_9) (cwV 1 hw (zg_V wd_568 wd_448 wd_449 wd_2 wd_450) rfl rfl rfl hd_Row_at ⟨Nat.le_of_ble_eq_true rfl, Nat.le_of_ble_eq_true rfl⟩) (zz_preV zz_TE (va_recv (q0 := 1) (ci := 4) hK hP rfl rfl) hP hD hK hS hA trivial [1, 2] rfl (by decide)) rfl rfl hl.1 rfl (lv_room (Nat.le_of_ble_eq_true rfl)) d_Lit_scanExponent_14 ⟨Nat.zero_le _, Nat.zero_le _⟩) (fun H locs hP hD hS => ?_)
    refine lv_bipush (v := 112) hx hb d_Lit_scanExponent_17 (by decide) ?_
    refine lv_bipush (v := 80) hx hb d_Lit_scanExponent_19 (by decide) ?_
    obtain ⟨u_10, hu_10, hf⟩ := zz_bd hf
    refine zz_ci (ws' := [(h_v, .inr (2, [.ref h_v_digits, .int v_digitCount, .int v_fraction, .int 0, .int v_isHex])), (h_w1, .inr (4, [.ref h_w1_letters, .int w1_start, .int w1_end])), (h_w1_letters, .inl (cC, n_w1_letters, .inl w1_letters_a))]) (wc := []) (w' := []) hP hD hS hA [] [0, 1, 2] [0, 1, 2] rfl rfl (by decide) (by decide) rfl (by decide) (va_runS (As := [.int u_9, .int 112, .int 80]) (rest := []) ⟨hx, hb, hml, hown, hw⟩ (c_Lit_isEither l dC dI cI cC cB cJ _ u_9 112 80 u_10 hu_10) (va_cwS 3 hw (zg_S wd_569 wd_570 wd_3 wd_571) rfl rfl rfl hd_Lit_isEither ⟨Nat.le_of_ble_eq_true rfl, Nat.le_of_ble_eq_true rfl⟩) (zz_preS zz_TE hP hD hK hS hA trivial [] rfl (by decide)) rfl rfl hl.1 rfl (lv_room (Nat.le_of_ble_eq_true rfl)) d_Lit_scanExponent_21 ⟨Nat.zero_le _, Nat.zero_le _⟩) (fun H locs hP hD hS => ?_)
    refine lv_goto (tgt := 39) hx hb d_Lit_scanExponent_24 (by decide) ?_
    exact hL_39 u_10 0 ls _ _ (lv_sub hl [0, 1, 2] rfl) hP hD hS hf
abbrev ws_Lit_scan : List Cond := .code y_Lit_scan prog_5_method_2_code 7 (some .boolean) :: zw
abbrev rm_Lit_scan : Room := { frames := 3, cells := 0, slots := 0, locals := 73 }
theorem hd_Lit_scan : y_Lit_scan.cls = "RealText$Literal" ∧ y_Lit_scan.cls ≠ "java/lang/invoke/MethodHandle" ∧ y_Lit_scan.cls ≠ "java/lang/invoke/VarHandle" ∧ (parseMethodDescriptor y_Lit_scan.desc).map (fun d => d.parameters.length) = some 1 := by decide +kernel
theorem d_Lit_scan_0 : decode prog_5_method_2_code 0 = .ok (.aload_n 0, 1) := by decide +kernel
theorem d_Lit_scan_1 : decode prog_5_method_2_code 1 = .ok (.aload_n 1, 1) := by decide +kernel
theorem d_Lit_scan_2 : decode prog_5_method_2_code 2 = .ok (.iconst 0, 1) := by decide +kernel
theorem d_Lit_scan_3 : decode prog_5_method_2_code 3 = .ok (.invokevirtual 15, 3) := by decide +kernel
theorem d_Lit_scan_6 : decode prog_5_method_2_code 6 = .ok (.bipush 48, 2) := by decide +kernel
theorem d_Lit_scan_8 : decode prog_5_method_2_code 8 = .ok (.if_icmp .ne 22, 3) := by decide +kernel
theorem d_Lit_scan_11 : decode prog_5_method_2_code 11 = .ok (.aload_n 1, 1) := by decide +kernel
theorem d_Lit_scan_12 : decode prog_5_method_2_code 12 = .ok (.iconst 1, 1) := by decide +kernel
theorem d_Lit_scan_13 : decode prog_5_method_2_code 13 = .ok (.invokevirtual 15, 3) := by decide +kernel
theorem d_Lit_scan_16 : decode prog_5_method_2_code 16 = .ok (.bipush 120, 2) := by decide +kernel
theorem d_Lit_scan_18 : decode prog_5_method_2_code 18 = .ok (.bipush 88, 2) := by decide +kernel
theorem d_Lit_scan_20 : decode prog_5_method_2_code 20 = .ok (.invokestatic 21, 3) := by decide +kernel
theorem d_Lit_scan_23 : decode prog_5_method_2_code 23 = .ok (.ifCond .eq 7, 3) := by decide +kernel
theorem d_Lit_scan_26 : decode prog_5_method_2_code 26 = .ok (.iconst 1, 1) := by decide +kernel
theorem d_Lit_scan_27 : decode prog_5_method_2_code 27 = .ok (.goto 4, 3) := by decide +kernel
theorem d_Lit_scan_30 : decode prog_5_method_2_code 30 = .ok (.iconst 0, 1) := by decide +kernel
theorem d_Lit_scan_31 : decode prog_5_method_2_code 31 = .ok (.putfield 25, 3) := by decide +kernel
theorem d_Lit_scan_34 : decode prog_5_method_2_code 34 = .ok (.aload_n 0, 1) := by decide +kernel
theorem d_Lit_scan_35 : decode prog_5_method_2_code 35 = .ok (.getfield 25, 3) := by decide +kernel
theorem d_Lit_scan_38 : decode prog_5_method_2_code 38 = .ok (.ifCond .eq 8, 3) := by decide +kernel
theorem d_Lit_scan_41 : decode prog_5_method_2_code 41 = .ok (.bipush 16, 2) := by decide +kernel
theorem d_Lit_scan_43 : decode prog_5_method_2_code 43 = .ok (.goto 5, 3) := by decide +kernel
theorem d_Lit_scan_46 : decode prog_5_method_2_code 46 = .ok (.bipush 10, 2) := by decide +kernel
theorem d_Lit_scan_48 : decode prog_5_method_2_code 48 = .ok (.istore_n 2, 1) := by decide +kernel
theorem d_Lit_scan_49 : decode prog_5_method_2_code 49 = .ok (.aload_n 0, 1) := by decide +kernel
theorem d_Lit_scan_50 : decode prog_5_method_2_code 50 = .ok (.getfield 25, 3) := by decide +kernel
theorem d_Lit_scan_53 : decode prog_5_method_2_code 53 = .ok (.ifCond .eq 7, 3) := by decide +kernel
theorem d_Lit_scan_56 : decode prog_5_method_2_code 56 = .ok (.iconst 2, 1) := by decide +kernel
theorem d_Lit_scan_57 : decode prog_5_method_2_code 57 = .ok (.goto 4, 3) := by decide +kernel
theorem d_Lit_scan_60 : decode prog_5_method_2_code 60 = .ok (.iconst 0, 1) := by decide +kernel
theorem d_Lit_scan_61 : decode prog_5_method_2_code 61 = .ok (.istore_n 3, 1) := by decide +kernel
theorem d_Lit_scan_62 : decode prog_5_method_2_code 62 = .ok (.aload_n 1, 1) := by decide +kernel
theorem d_Lit_scan_63 : decode prog_5_method_2_code 63 = .ok (.iload_n 3, 1) := by decide +kernel
theorem d_Lit_scan_64 : decode prog_5_method_2_code 64 = .ok (.iload_n 2, 1) := by decide +kernel
theorem d_Lit_scan_65 : decode prog_5_method_2_code 65 = .ok (.invokestatic 29, 3) := by decide +kernel
theorem d_Lit_scan_68 : decode prog_5_method_2_code 68 = .ok (.istore 4, 2) := by decide +kernel
theorem d_Lit_scan_70 : decode prog_5_method_2_code 70 = .ok (.aload_n 1, 1) := by decide +kernel
theorem d_Lit_scan_71 : decode prog_5_method_2_code 71 = .ok (.iload 4, 2) := by decide +kernel
theorem d_Lit_scan_73 : decode prog_5_method_2_code 73 = .ok (.invokevirtual 15, 3) := by decide +kernel
theorem d_Lit_scan_76 : decode prog_5_method_2_code 76 = .ok (.bipush 46, 2) := by decide +kernel
theorem d_Lit_scan_78 : decode prog_5_method_2_code 78 = .ok (.if_icmp .ne 10, 3) := by decide +kernel
theorem d_Lit_scan_81 : decode prog_5_method_2_code 81 = .ok (.iload 4, 2) := by decide +kernel
theorem d_Lit_scan_83 : decode prog_5_method_2_code 83 = .ok (.iconst 1, 1) := by decide +kernel
theorem d_Lit_scan_84 : decode prog_5_method_2_code 84 = .ok (.iadd, 1) := by decide +kernel
theorem d_Lit_scan_85 : decode prog_5_method_2_code 85 = .ok (.goto 5, 3) := by decide +kernel
theorem d_Lit_scan_88 : decode prog_5_method_2_code 88 = .ok (.iload 4, 2) := by decide +kernel
theorem d_Lit_scan_90 : decode prog_5_method_2_code 90 = .ok (.istore 5, 2) := by decide +kernel
theorem d_Lit_scan_92 : decode prog_5_method_2_code 92 = .ok (.iload 5, 2) := by decide +kernel
theorem d_Lit_scan_94 : decode prog_5_method_2_code 94 = .ok (.iload 4, 2) := by decide +kernel
theorem d_Lit_scan_96 : decode prog_5_method_2_code 96 = .ok (.if_icmp .le 13, 3) := by decide +kernel
theorem d_Lit_scan_99 : decode prog_5_method_2_code 99 = .ok (.aload_n 1, 1) := by decide +kernel
theorem d_Lit_scan_100 : decode prog_5_method_2_code 100 = .ok (.iload 5, 2) := by decide +kernel
theorem d_Lit_scan_102 : decode prog_5_method_2_code 102 = .ok (.iload_n 2, 1) := by decide +kernel
theorem d_Lit_scan_103 : decode prog_5_method_2_code 103 = .ok (.invokestatic 29, 3) := by decide +kernel
theorem d_Lit_scan_106 : decode prog_5_method_2_code 106 = .ok (.goto 5, 3) := by decide +kernel
theorem d_Lit_scan_109 : decode prog_5_method_2_code 109 = .ok (.iload 5, 2) := by decide +kernel
theorem d_Lit_scan_111 : decode prog_5_method_2_code 111 = .ok (.istore 6, 2) := by decide +kernel
theorem d_Lit_scan_113 : decode prog_5_method_2_code 113 = .ok (.iload 4, 2) := by decide +kernel
theorem d_Lit_scan_115 : decode prog_5_method_2_code 115 = .ok (.iload_n 3, 1) := by decide +kernel
theorem d_Lit_scan_116 : decode prog_5_method_2_code 116 = .ok (.if_icmp .ne 12, 3) := by decide +kernel
theorem d_Lit_scan_119 : decode prog_5_method_2_code 119 = .ok (.iload 6, 2) := by decide +kernel
theorem d_Lit_scan_121 : decode prog_5_method_2_code 121 = .ok (.iload 5, 2) := by decide +kernel
theorem d_Lit_scan_123 : decode prog_5_method_2_code 123 = .ok (.if_icmp .ne 5, 3) := by decide +kernel
theorem d_Lit_scan_126 : decode prog_5_method_2_code 126 = .ok (.iconst 0, 1) := by decide +kernel
theorem d_Lit_scan_127 : decode prog_5_method_2_code 127 = .ok (.ireturn, 1) := by decide +kernel
theorem d_Lit_scan_128 : decode prog_5_method_2_code 128 = .ok (.aload_n 0, 1) := by decide +kernel
theorem d_Lit_scan_129 : decode prog_5_method_2_code 129 = .ok (.iconst 0, 1) := by decide +kernel
theorem d_Lit_scan_130 : decode prog_5_method_2_code 130 = .ok (.putfield 33, 3) := by decide +kernel
theorem d_Lit_scan_133 : decode prog_5_method_2_code 133 = .ok (.aload_n 0, 1) := by decide +kernel
theorem d_Lit_scan_134 : decode prog_5_method_2_code 134 = .ok (.aload_n 1, 1) := by decide +kernel
theorem d_Lit_scan_135 : decode prog_5_method_2_code 135 = .ok (.iload_n 3, 1) := by decide +kernel
theorem d_Lit_scan_136 : decode prog_5_method_2_code 136 = .ok (.iload 4, 2) := by decide +kernel
theorem d_Lit_scan_138 : decode prog_5_method_2_code 138 = .ok (.iload_n 2, 1) := by decide +kernel
theorem d_Lit_scan_139 : decode prog_5_method_2_code 139 = .ok (.invokevirtual 37, 3) := by decide +kernel
theorem d_Lit_scan_142 : decode prog_5_method_2_code 142 = .ok (.pop, 1) := by decide +kernel
theorem d_Lit_scan_143 : decode prog_5_method_2_code 143 = .ok (.aload_n 0, 1) := by decide +kernel
theorem d_Lit_scan_144 : decode prog_5_method_2_code 144 = .ok (.aload_n 0, 1) := by decide +kernel
theorem d_Lit_scan_145 : decode prog_5_method_2_code 145 = .ok (.aload_n 1, 1) := by decide +kernel
theorem d_Lit_scan_146 : decode prog_5_method_2_code 146 = .ok (.iload 5, 2) := by decide +kernel
theorem d_Lit_scan_148 : decode prog_5_method_2_code 148 = .ok (.iload 6, 2) := by decide +kernel
theorem d_Lit_scan_150 : decode prog_5_method_2_code 150 = .ok (.iload_n 2, 1) := by decide +kernel
theorem d_Lit_scan_151 : decode prog_5_method_2_code 151 = .ok (.invokevirtual 37, 3) := by decide +kernel
theorem d_Lit_scan_154 : decode prog_5_method_2_code 154 = .ok (.putfield 41, 3) := by decide +kernel
theorem d_Lit_scan_157 : decode prog_5_method_2_code 157 = .ok (.aload_n 0, 1) := by decide +kernel
theorem d_Lit_scan_158 : decode prog_5_method_2_code 158 = .ok (.invokevirtual 44, 3) := by decide +kernel
theorem d_Lit_scan_161 : decode prog_5_method_2_code 161 = .ok (.aload_n 0, 1) := by decide +kernel
theorem d_Lit_scan_162 : decode prog_5_method_2_code 162 = .ok (.aload_n 1, 1) := by decide +kernel
theorem d_Lit_scan_163 : decode prog_5_method_2_code 163 = .ok (.iload 6, 2) := by decide +kernel
theorem d_Lit_scan_165 : decode prog_5_method_2_code 165 = .ok (.invokevirtual 47, 3) := by decide +kernel
theorem d_Lit_scan_168 : decode prog_5_method_2_code 168 = .ok (.ireturn, 1) := by decide +kernel
def f_Lit_scan_128 (fu : Nat) (n_v_digits : Nat) (n_w1_letters : Nat) (w1_start : Int32) (w1_end : Int32) (w1_letters_a : Nat → Int32)  (y2 : Int32) (y3 : Int32) (y4 : Int32) (y5 : Int32) (y6 : Int32) (v_digitCount : Int32) (v_fraction : Int32) (v_exponent : Int32) (v_isHex : Int32) (v_digits_a : Nat → Int32) : Option (Int32 × Int32 × Int32 × Int32 × Int32 × (Nat → Int32)) :=
  (f_Lit_addDigits fu n_v_digits n_w1_letters y3 y4 y2 0 v_digits_a w1_start w1_end w1_letters_a).bind fun u_4 =>
  (f_Lit_addDigits fu n_v_digits n_w1_letters y5 y6 y2 u_4.2.1 u_4.2.2 w1_start w1_end w1_letters_a).bind fun u_5 =>
  (f_Lit_dropZerosBehind fu n_v_digits u_5.2.1 u_5.1 u_5.2.2).bind fun u_6 =>
  (f_Lit_scanExponent fu n_w1_letters y6 v_exponent v_isHex w1_start w1_end w1_letters_a).bind fun u_7 =>
  if zz_bo u_7.1 = true then
  some (u_7.1, u_6.1, u_6.2, u_7.2, v_isHex, u_5.2.2)
  else none
def f_Lit_scan_111 (fu : Nat) (n_v_digits : Nat) (n_w1_letters : Nat) (w1_start : Int32) (w1_end : Int32) (w1_letters_a : Nat → Int32)  (y2 : Int32) (y3 : Int32) (y4 : Int32) (y5 : Int32) (k0 : Int32) (v_digitCount : Int32) (v_fraction : Int32) (v_exponent : Int32) (v_isHex : Int32) (v_digits_a : Nat → Int32) : Option (Int32 × Int32 × Int32 × Int32 × Int32 × (Nat → Int32)) :=
  (if y4 = y3 then
  (if k0 = y5 then
  some (0, v_digitCount, v_fraction, v_exponent, v_isHex, v_digits_a)
  else
  f_Lit_scan_128 fu n_v_digits n_w1_letters w1_start w1_end w1_letters_a y2 y3 y4 y5 k0 v_digitCount v_fraction v_exponent v_isHex v_digits_a)
  else
  f_Lit_scan_128 fu n_v_digits n_w1_letters w1_start w1_end w1_letters_a y2 y3 y4 y5 k0 v_digitCount v_fraction v_exponent v_isHex v_digits_a)
def f_Lit_scan_90 (fu : Nat) (n_v_digits : Nat) (n_w1_letters : Nat) (w1_start : Int32) (w1_end : Int32) (w1_letters_a : Nat → Int32)  (y2 : Int32) (y3 : Int32) (y4 : Int32) (k0 : Int32) (v_digitCount : Int32) (v_fraction : Int32) (v_exponent : Int32) (v_isHex : Int32) (v_digits_a : Nat → Int32) : Option (Int32 × Int32 × Int32 × Int32 × Int32 × (Nat → Int32)) :=
  (if k0 ≤ y4 then
  f_Lit_scan_111 fu n_v_digits n_w1_letters w1_start w1_end w1_letters_a y2 y3 y4 k0 k0 v_digitCount v_fraction v_exponent v_isHex v_digits_a
  else
  (f_Lit_endOfDigits fu n_w1_letters k0 y2 w1_start w1_end w1_letters_a).bind fun u_8 =>
  f_Lit_scan_111 fu n_v_digits n_w1_letters w1_start w1_end w1_letters_a y2 y3 y4 k0 u_8 v_digitCount v_fraction v_exponent v_isHex v_digits_a)
def f_Lit_scan_61 (fu : Nat) (n_v_digits : Nat) (n_w1_letters : Nat) (w1_start : Int32) (w1_end : Int32) (w1_letters_a : Nat → Int32)  (y2 : Int32) (k0 : Int32) (v_digitCount : Int32) (v_fraction : Int32) (v_exponent : Int32) (v_isHex : Int32) (v_digits_a : Nat → Int32) : Option (Int32 × Int32 × Int32 × Int32 × Int32 × (Nat → Int32)) :=
  (f_Lit_endOfDigits fu n_w1_letters k0 y2 w1_start w1_end w1_letters_a).bind fun u_2 =>
  (f_Row_at n_w1_letters u_2 w1_start w1_end w1_letters_a).bind fun u_3 =>
  (if u_3 = 46 then
  f_Lit_scan_90 fu n_v_digits n_w1_letters w1_start w1_end w1_letters_a y2 k0 u_2 (u_2 + 1) v_digitCount v_fraction v_exponent v_isHex v_digits_a
  else
  f_Lit_scan_90 fu n_v_digits n_w1_letters w1_start w1_end w1_letters_a y2 k0 u_2 u_2 v_digitCount v_fraction v_exponent v_isHex v_digits_a)
def f_Lit_scan_48 (fu : Nat) (n_v_digits : Nat) (n_w1_letters : Nat) (w1_start : Int32) (w1_end : Int32) (w1_letters_a : Nat → Int32)  (k0 : Int32) (v_digitCount : Int32) (v_fraction : Int32) (v_exponent : Int32) (v_isHex : Int32) (v_digits_a : Nat → Int32) : Option (Int32 × Int32 × Int32 × Int32 × Int32 × (Nat → Int32)) :=
  (if v_isHex = 0 then
  f_Lit_scan_61 fu n_v_digits n_w1_letters w1_start w1_end w1_letters_a k0 0 v_digitCount v_fraction v_exponent v_isHex v_digits_a
  else
  f_Lit_scan_61 fu n_v_digits n_w1_letters w1_start w1_end w1_letters_a k0 2 v_digitCount v_fraction v_exponent v_isHex v_digits_a)
def f_Lit_scan_31 (fu : Nat) (n_v_digits : Nat) (n_w1_letters : Nat) (w1_start : Int32) (w1_end : Int32) (w1_letters_a : Nat → Int32)  (k1 : Int32) (v_digitCount : Int32) (v_fraction : Int32) (v_exponent : Int32) (v_isHex : Int32) (v_digits_a : Nat → Int32) : Option (Int32 × Int32 × Int32 × Int32 × Int32 × (Nat → Int32)) :=
  if zz_bo k1 = true then
  (if k1 = 0 then
  f_Lit_scan_48 fu n_v_digits n_w1_letters w1_start w1_end w1_letters_a 10 v_digitCount v_fraction v_exponent k1 v_digits_a
  else
  f_Lit_scan_48 fu n_v_digits n_w1_letters w1_start w1_end w1_letters_a 16 v_digitCount v_fraction v_exponent k1 v_digits_a)
  else none
def f_Lit_scan_30 (fu : Nat) (n_v_digits : Nat) (n_w1_letters : Nat) (w1_start : Int32) (w1_end : Int32) (w1_letters_a : Nat → Int32)  (v_digitCount : Int32) (v_fraction : Int32) (v_exponent : Int32) (v_isHex : Int32) (v_digits_a : Nat → Int32) : Option (Int32 × Int32 × Int32 × Int32 × Int32 × (Nat → Int32)) :=
  f_Lit_scan_31 fu n_v_digits n_w1_letters w1_start w1_end w1_letters_a 0 v_digitCount v_fraction v_exponent v_isHex v_digits_a
def f_Lit_scan (fu : Nat) (n_v_digits : Nat) (n_w1_letters : Nat) (v_digitCount : Int32) (v_fraction : Int32) (v_exponent : Int32) (v_isHex : Int32) (v_digits_a : Nat → Int32) (w1_start : Int32) (w1_end : Int32) (w1_letters_a : Nat → Int32) : Option (Int32 × Int32 × Int32 × Int32 × Int32 × (Nat → Int32)) :=
  (f_Row_at n_w1_letters 0 w1_start w1_end w1_letters_a).bind fun u_1 =>
  (if u_1 = 48 then
  (f_Row_at n_w1_letters 1 w1_start w1_end w1_letters_a).bind fun u_9 =>
  (f_Lit_isEither u_9 120 88).bind fun u_10 =>
  (if u_10 = 0 then
  f_Lit_scan_30 fu n_v_digits n_w1_letters w1_start w1_end w1_letters_a v_digitCount v_fraction v_exponent v_isHex v_digits_a
  else
  f_Lit_scan_31 fu n_v_digits n_w1_letters w1_start w1_end w1_letters_a 1 v_digitCount v_fraction v_exponent v_isHex v_digits_a)
  else
  f_Lit_scan_30 fu n_v_digits n_w1_letters w1_start w1_end w1_letters_a v_digitCount v_fraction v_exponent v_isHex v_digits_a)
set_option maxHeartbeats 4000000 in
set_option maxRecDepth 100000 in
theorem c_Lit_scan (l : Launch) (dC : Nat → ClassId) (dI : Nat → Nat → Nat) (cI cC cB cJ : ClassId) (fu : Nat) (sz : Nat) (h_v : Nat) (h_v_digits : Nat) (h_w1 : Nat) (h_w1_letters : Nat) (n_v_digits : Nat) (n_w1_letters : Nat) (v_digitCount : Int32) (v_fraction : Int32) (v_exponent : Int32) (v_isHex : Int32) (v_digits_a : Nat → Int32) (w1_start : Int32) (w1_end : Int32) (w1_letters_a : Nat → Int32) (u : Int32 × Int32 × Int32 × Int32 × Int32 × (Nat → Int32)) (hf : f_Lit_scan fu n_v_digits n_w1_letters v_digitCount v_fraction v_exponent v_isHex v_digits_a w1_start w1_end w1_letters_a = some u) : Met l y_Lit_scan ws_Lit_scan rm_Lit_scan (zz_P zz_T (dC, dI) vwCl (zz_tys cI cC cB cJ) [.ref h_v, .ref h_w1] [(h_v, .inr (2, [.ref h_v_digits, .int v_digitCount, .int v_fraction, .int v_exponent, .int v_isHex])), (h_v_digits, .inl (cB, n_v_digits, .inl v_digits_a)), (h_w1, .inr (4, [.ref h_w1_letters, .int w1_start, .int w1_end])), (h_w1_letters, .inl (cC, n_w1_letters, .inl w1_letters_a))] sz) (zz_Qi (dC, dI) vwCl u.1 [(h_v, .inr (2, [.ref h_v_digits, .int u.2.1, .int u.2.2.1, .int u.2.2.2.1, .int u.2.2.2.2.1])), (h_v_digits, .inl (cB, n_v_digits, .inl u.2.2.2.2.2)), (h_w1, .inr (4, [.ref h_w1_letters, .int w1_start, .int w1_end])), (h_w1_letters, .inl (cC, n_w1_letters, .inl w1_letters_a))] (va_A [(h_v, .inr (2, [.ref h_v_digits, .int v_digitCount, .int v_fraction, .int v_exponent, .int v_isHex])), (h_v_digits, .inl (cB, n_v_digits, .inl v_digits_a)), (h_w1, .inr (4, [.ref h_w1_letters, .int w1_start, .int w1_end])), (h_w1_letters, .inl (cC, n_w1_letters, .inl w1_letters_a))] sz)) 0 0 (va_A [(h_v, .inr (2, [.ref h_v_digits, .int v_digitCount, .int v_fraction, .int v_exponent, .int v_isHex])), (h_v_digits, .inl (cB, n_v_digits, .inl v_digits_a)), (h_w1, .inr (4, [.ref h_w1_letters, .int w1_start, .int w1_end])), (h_w1_letters, .inl (cC, n_w1_letters, .inl w1_letters_a))] sz) := by
  refine Met.ofW (cc := prog_5_method_2_code) (maxL := 7) (ret := (some .boolean)) (by decide +kernel) rfl ?_
  intro p e s m args below meth c s₁ B hml hv
  obtain ⟨rfl, hsz, hP, hK, hD0, hX⟩ := hv
  have hx := B.exec
  have hb := B.bytes
  have hr := B.returns
  have hts := atoms_spec (ws := ws_Lit_scan) B.pre
  have hw : ∀ w ∈ zw, w.before [.ref h_v, .ref h_w1].toArray s = true := fun w h => hts w (List.mem_cons_of_mem _ h)
  have hown : s.vm.findClass R_Lit = some m.cls := findClass_of_methodNamed B.named
  have hlocks := B.notSynchronized
  subst hsz
  have hD := hD0.self (sz := s.heap.size)
  generalize hAe : va_A [(h_v, .inr (2, [.ref h_v_digits, .int v_digitCount, .int v_fraction, .int v_exponent, .int v_isHex])), (h_v_digits, .inl (cB, n_v_digits, .inl v_digits_a)), (h_w1, .inr (4, [.ref h_w1_letters, .int w1_start, .int w1_end])), (h_w1_letters, .inl (cC, n_w1_letters, .inl w1_letters_a))] s.heap.size = A at hD hX ⊢
  have hA : ∀ q : Nat, s.heap.size ≤ q → A q := fun q h => by rw [← hAe]; exact Or.inr h
  have hS : va_S A s.heap s.heap [] := va_S.rf
  have hl := lv_entry [.ref h_v, .ref h_w1] (n := 7) (Nat.le_of_ble_eq_true rfl)
  rw [lg_entry_eq]
  generalize (lg_sl [.ref h_v, .ref h_w1] ++ List.replicate (7 - (lg_sl [.ref h_v, .ref h_w1]).length) Slot.unset).toArray = ls at hl ⊢
  have hl : lv_has ls 7 [(0, .ref h_v), (1, .ref h_w1)] := hl
  refine zz_endz hx hb hr hlocks (fun Qq hend => ?_)
  have hL_128 : ∀ (y2 : Int32) (y3 : Int32) (y4 : Int32) (y5 : Int32) (y6 : Int32) (v_digitCount : Int32) (v_fraction : Int32) (v_exponent : Int32) (v_isHex : Int32) (v_digits_a : Nat → Int32) (ls : Array Slot) (H : Heap) (locs : List Loc), lv_has ls 7 [(0, .ref h_v), (1, .ref h_w1), (2, .int y2), (3, .int y3), (4, .int y4), (5, .int y5), (6, .int y6)] → va_P (dC, dI) vwCl [(h_v, .inr (2, [.ref h_v_digits, .int v_digitCount, .int v_fraction, .int v_exponent, .int v_isHex])), (h_v_digits, .inl (cB, n_v_digits, .inl v_digits_a)), (h_w1, .inr (4, [.ref h_w1_letters, .int w1_start, .int w1_end])), (h_w1_letters, .inl (cC, n_w1_letters, .inl w1_letters_a))] H → va_D A [(h_v, .inr (2, [.ref h_v_digits, .int v_digitCount, .int v_fraction, .int v_exponent, .int v_isHex])), (h_v_digits, .inl (cB, n_v_digits, .inl v_digits_a)), (h_w1, .inr (4, [.ref h_w1_letters, .int w1_start, .int w1_end])), (h_w1_letters, .inl (cC, n_w1_letters, .inl w1_letters_a))] → va_S A s.heap H locs → f_Lit_scan_128 fu n_v_digits n_w1_letters w1_start w1_end w1_letters_a y2 y3 y4 y5 y6 v_digitCount v_fraction v_exponent v_isHex v_digits_a = some u → W p l e (headSpec ws_Lit_scan rm_Lit_scan).room s m [.ref h_v, .ref h_w1].toArray below meth c H locs 0 0 Qq (F0 m 128 ls []) := by
    intro y2 y3 y4 y5 y6 v_digitCount v_fraction v_exponent v_isHex v_digits_a ls H locs hl hP hD hS hf
    unfold f_Lit_scan_128 at hf
    refine lv_aload_n hx hb d_Lit_scan_128 rfl (lv_at hl 0 rfl) ?_
    refine lv_iconst (v := 0) hx hb d_Lit_scan_129 (by decide) ?_
    refine va_put (D := (dC, dI)) (ci := 2) (v := .int 0) (ty := .int) (C := R_Lit) (T := T_Lit) (N := 5) hx hb hw in_Lit ty_Lit tyok_Lit nm_Lit hown hK hP hD hS 0 rfl rfl 1 (by decide) (hw _ wd_57) (fun _ h9 => h9) rfl (tyok_Lit 1 (by decide)) rfl rfl (Nat.le_of_ble_eq_true rfl) d_Lit_scan_130 (fun H locs hP hD hS => ?_)
    have hP : va_P (dC, dI) vwCl [(h_v, .inr (2, [.ref h_v_digits, .int 0, .int v_fraction, .int v_exponent, .int v_isHex])), (h_v_digits, .inl (cB, n_v_digits, .inl v_digits_a)), (h_w1, .inr (4, [.ref h_w1_letters, .int w1_start, .int w1_end])), (h_w1_letters, .inl (cC, n_w1_letters, .inl w1_letters_a))] H := hP
    have hD : va_D A [(h_v, .inr (2, [.ref h_v_digits, .int 0, .int v_fraction, .int v_exponent, .int v_isHex])), (h_v_digits, .inl (cB, n_v_digits, .inl v_digits_a)), (h_w1, .inr (4, [.ref h_w1_letters, .int w1_start, .int w1_end])), (h_w1_letters, .inl (cC, n_w1_letters, .inl w1_letters_a))] := hD
    refine lv_aload_n hx hb d_Lit_scan_133 rfl (lv_at hl 0 rfl) ?_
    refine lv_aload_n hx hb d_Lit_scan_134 rfl (lv_at hl 1 rfl) ?_
    refine lv_iload_n hx hb d_Lit_scan_135 rfl (lv_at hl 3 rfl) ?_
    refine lv_iload hx hb d_Lit_scan_136 (lv_at hl 4 rfl) ?_
    refine lv_iload_n hx hb d_Lit_scan_138 rfl (lv_at hl 2 rfl) ?_
    obtain ⟨u_4, hu_4, hf⟩ := zz_bd hf
    refine zz_ci (ws' := [(h_v, .inr (2, [.ref h_v_digits, .int u_4.2.1, .int v_fraction, .int v_exponent, .int v_isHex])), (h_v_digits, .inl (cB, n_v_digits, .inl u_4.2.2)), (h_w1, .inr (4, [.ref h_w1_letters, .int w1_start, .int w1_end])), (h_w1_letters, .inl (cC, n_w1_letters, .inl w1_letters_a))]) (wc := [(h_v, .inr (2, [.ref h_v_digits, .int 0, .int v_fraction, .int v_exponent, .int v_isHex])), (h_v_digits, .inl (cB, n_v_digits, .inl v_digits_a)), (h_w1, .inr (4, [.ref h_w1_letters, .int w1_start, .int w1_end])), (h_w1_letters, .inl (cC, n_w1_letters, .inl w1_letters_a))]) (w' := [(h_v, .inr (2, [.ref h_v_digits, .int u_4.2.1, .int v_fraction, .int v_exponent, .int v_isHex])), (h_v_digits, .inl (cB, n_v_digits, .inl u_4.2.2)), (h_w1, .inr (4, [.ref h_w1_letters, .int w1_start, .int w1_end])), (h_w1_letters, .inl (cC, n_w1_letters, .inl w1_letters_a))]) hP hD hS hA [0, 1, 2, 3] [] [0, 1, 2, 3] rfl rfl (by decide) (by decide) rfl (by decide) (va_runV (As := [.ref h_w1, .int y3, .int y4, .int y2]) (rest := []) ⟨hx, hb, hml, hown, hw⟩ (c_Lit_addDigits l dC dI cI cC cB cJ fu _ h_v h_v_digits h_w1 h_w1_letters n_v_digits n_w1_letters y3 y4 y2 0 v_fraction v_exponent v_isHex v_digits_a w1_start w1_end w1_letters_a u_4 hu_4) (cwV 4 hw (zg_V wd_579 wd_581 we_1_0 wd_3 wd_582) rfl rfl rfl hd_Lit_addDigits ⟨Nat.le_of_ble_eq_true rfl, Nat.le_of_ble_eq_true rfl⟩) (zz_preV zz_TE (va_recv (q0 := 0) (ci := 2) hK hP rfl rfl) hP hD hK hS hA trivial [0, 1, 2, 3] rfl (by decide)) rfl rfl hl.1 rfl (lv_room (Nat.le_of_ble_eq_true rfl)) d_Lit_scan_139 ⟨Nat.zero_le _, Nat.zero_le _⟩) (fun H locs hP hD hS => ?_)
    refine lv_pop hx hb d_Lit_scan_142 rfl ?_
    refine lv_aload_n hx hb d_Lit_scan_143 rfl (lv_at hl 0 rfl) ?_
    refine lv_aload_n hx hb d_Lit_scan_144 rfl (lv_at hl 0 rfl) ?_
    refine lv_aload_n hx hb d_Lit_scan_145 rfl (lv_at hl 1 rfl) ?_
    refine lv_iload hx hb d_Lit_scan_146 (lv_at hl 5 rfl) ?_
    refine lv_iload hx hb d_Lit_scan_148 (lv_at hl 6 rfl) ?_
    refine lv_iload_n hx hb d_Lit_scan_150 rfl (lv_at hl 2 rfl) ?_
    obtain ⟨u_5, hu_5, hf⟩ := zz_bd hf
    refine zz_ci (ws' := [(h_v, .inr (2, [.ref h_v_digits, .int u_5.2.1, .int v_fraction, .int v_exponent, .int v_isHex])), (h_v_digits, .inl (cB, n_v_digits, .inl u_5.2.2)), (h_w1, .inr (4, [.ref h_w1_letters, .int w1_start, .int w1_end])), (h_w1_letters, .inl (cC, n_w1_letters, .inl w1_letters_a))]) (wc := [(h_v, .inr (2, [.ref h_v_digits, .int u_4.2.1, .int v_fraction, .int v_exponent, .int v_isHex])), (h_v_digits, .inl (cB, n_v_digits, .inl u_4.2.2)), (h_w1, .inr (4, [.ref h_w1_letters, .int w1_start, .int w1_end])), (h_w1_letters, .inl (cC, n_w1_letters, .inl w1_letters_a))]) (w' := [(h_v, .inr (2, [.ref h_v_digits, .int u_5.2.1, .int v_fraction, .int v_exponent, .int v_isHex])), (h_v_digits, .inl (cB, n_v_digits, .inl u_5.2.2)), (h_w1, .inr (4, [.ref h_w1_letters, .int w1_start, .int w1_end])), (h_w1_letters, .inl (cC, n_w1_letters, .inl w1_letters_a))]) hP hD hS hA [0, 1, 2, 3] [] [0, 1, 2, 3] rfl rfl (by decide) (by decide) rfl (by decide) (va_runV (As := [.ref h_w1, .int y5, .int y6, .int y2]) (rest := [.ref h_v]) ⟨hx, hb, hml, hown, hw⟩ (c_Lit_addDigits l dC dI cI cC cB cJ fu _ h_v h_v_digits h_w1 h_w1_letters n_v_digits n_w1_letters y5 y6 y2 u_4.2.1 v_fraction v_exponent v_isHex u_4.2.2 w1_start w1_end w1_letters_a u_5 hu_5) (cwV 4 hw (zg_V wd_579 wd_581 we_1_0 wd_3 wd_582) rfl rfl rfl hd_Lit_addDigits ⟨Nat.le_of_ble_eq_true rfl, Nat.le_of_ble_eq_true rfl⟩) (zz_preV zz_TE (va_recv (q0 := 0) (ci := 2) hK hP rfl rfl) hP hD hK hS hA trivial [0, 1, 2, 3] rfl (by decide)) rfl rfl hl.1 rfl (lv_room (Nat.le_of_ble_eq_true rfl)) d_Lit_scan_151 ⟨Nat.zero_le _, Nat.zero_le _⟩) (fun H locs hP hD hS => ?_)
    refine va_put (D := (dC, dI)) (ci := 2) (v := .int u_5.1) (ty := .int) (C := R_Lit) (T := T_Lit) (N := 5) hx hb hw in_Lit ty_Lit tyok_Lit nm_Lit hown hK hP hD hS 0 rfl rfl 2 (by decide) (hw _ wd_60) (fun _ h9 => h9) rfl (tyok_Lit 2 (by decide)) rfl rfl (Nat.le_of_ble_eq_true rfl) d_Lit_scan_154 (fun H locs hP hD hS => ?_)
    have hP : va_P (dC, dI) vwCl [(h_v, .inr (2, [.ref h_v_digits, .int u_5.2.1, .int u_5.1, .int v_exponent, .int v_isHex])), (h_v_digits, .inl (cB, n_v_digits, .inl u_5.2.2)), (h_w1, .inr (4, [.ref h_w1_letters, .int w1_start, .int w1_end])), (h_w1_letters, .inl (cC, n_w1_letters, .inl w1_letters_a))] H := hP
    have hD : va_D A [(h_v, .inr (2, [.ref h_v_digits, .int u_5.2.1, .int u_5.1, .int v_exponent, .int v_isHex])), (h_v_digits, .inl (cB, n_v_digits, .inl u_5.2.2)), (h_w1, .inr (4, [.ref h_w1_letters, .int w1_start, .int w1_end])), (h_w1_letters, .inl (cC, n_w1_letters, .inl w1_letters_a))] := hD
    refine lv_aload_n hx hb d_Lit_scan_157 rfl (lv_at hl 0 rfl) ?_
    obtain ⟨u_6, hu_6, hf⟩ := zz_bd hf
    refine zz_cv (ws' := [(h_v, .inr (2, [.ref h_v_digits, .int u_6.1, .int u_6.2, .int v_exponent, .int v_isHex])), (h_v_digits, .inl (cB, n_v_digits, .inl u_5.2.2)), (h_w1, .inr (4, [.ref h_w1_letters, .int w1_start, .int w1_end])), (h_w1_letters, .inl (cC, n_w1_letters, .inl w1_letters_a))]) (wc := [(h_v, .inr (2, [.ref h_v_digits, .int u_5.2.1, .int u_5.1, .int v_exponent, .int v_isHex])), (h_v_digits, .inl (cB, n_v_digits, .inl u_5.2.2))]) (w' := [(h_v, .inr (2, [.ref h_v_digits, .int u_6.1, .int u_6.2, .int v_exponent, .int v_isHex])), (h_v_digits, .inl (cB, n_v_digits, .inl u_5.2.2))]) hP hD hS hA [0, 1] [2, 3] [2, 3, 0, 1] rfl rfl (by decide) (by decide) rfl (by decide) (va_runV (As := []) (rest := []) ⟨hx, hb, hml, hown, hw⟩ (c_Lit_dropZerosBehind l dC dI cI cC cB cJ fu _ h_v h_v_digits n_v_digits u_5.2.1 u_5.1 v_exponent v_isHex u_5.2.2 u_6 hu_6) (cwV 0 hw (zg_V wd_587 wd_589 we_1_2 wd_3 wd_590) rfl rfl rfl hd_Lit_dropZerosBehind ⟨Nat.le_of_ble_eq_true rfl, Nat.le_of_ble_eq_true rfl⟩) (zz_preV zz_TE (va_recv (q0 := 0) (ci := 2) hK hP rfl rfl) hP hD hK hS hA trivial [0, 1] rfl (by decide)) rfl rfl hl.1 rfl (lv_room (Nat.le_of_ble_eq_true rfl)) d_Lit_scan_158 ⟨Nat.zero_le _, Nat.zero_le _⟩) (fun H locs hP hD hS => ?_)
    refine lv_aload_n hx hb d_Lit_scan_161 rfl (lv_at hl 0 rfl) ?_
    refine lv_aload_n hx hb d_Lit_scan_162 rfl (lv_at hl 1 rfl) ?_
    refine lv_iload hx hb d_Lit_scan_163 (lv_at hl 6 rfl) ?_
    obtain ⟨u_7, hu_7, hf⟩ := zz_bd hf
    refine zz_ci (ws' := [(h_v, .inr (2, [.ref h_v_digits, .int u_6.1, .int u_6.2, .int u_7.2, .int v_isHex])), (h_v_digits, .inl (cB, n_v_digits, .inl u_5.2.2)), (h_w1, .inr (4, [.ref h_w1_letters, .int w1_start, .int w1_end])), (h_w1_letters, .inl (cC, n_w1_letters, .inl w1_letters_a))]) (wc := [(h_v, .inr (2, [.ref h_v_digits, .int u_6.1, .int u_6.2, .int v_exponent, .int v_isHex])), (h_w1, .inr (4, [.ref h_w1_letters, .int w1_start, .int w1_end])), (h_w1_letters, .inl (cC, n_w1_letters, .inl w1_letters_a))]) (w' := [(h_v, .inr (2, [.ref h_v_digits, .int u_6.1, .int u_6.2, .int u_7.2, .int v_isHex])), (h_w1, .inr (4, [.ref h_w1_letters, .int w1_start, .int w1_end])), (h_w1_letters, .inl (cC, n_w1_letters, .inl w1_letters_a))]) hP hD hS hA [0, 2, 3] [1] [1, 0, 2, 3] rfl rfl (by decide) (by decide) rfl (by decide) (va_runV (As := [.ref h_w1, .int y6]) (rest := []) ⟨hx, hb, hml, hown, hw⟩ (c_Lit_scanExponent l dC dI cI cC cB cJ fu _ h_v h_w1 h_w1_letters h_v_digits n_w1_letters y6 u_6.1 u_6.2 v_exponent v_isHex w1_start w1_end w1_letters_a u_7 hu_7) (cwV 2 hw (zg_V wd_591 wd_593 we_1_3 wd_3 wd_594) rfl rfl rfl hd_Lit_scanExponent ⟨Nat.le_of_ble_eq_true rfl, Nat.le_of_ble_eq_true rfl⟩) (zz_preV zz_TE (va_recv (q0 := 0) (ci := 2) hK hP rfl rfl) hP hD hK hS hA trivial [0, 2, 3] rfl (by decide)) rfl rfl hl.1 rfl (lv_room (Nat.le_of_ble_eq_true rfl)) d_Lit_scan_165 ⟨Nat.zero_le _, Nat.zero_le _⟩) (fun H locs hP hD hS => ?_)
    obtain ⟨hn, hf⟩ := zz_gd hf
    cases hf
    exact hend 168 ls _ _ (zz_nar_boolean hn) d_Lit_scan_168 hP hD hS
  have hL_111 : ∀ (y2 : Int32) (y3 : Int32) (y4 : Int32) (y5 : Int32) (k0 : Int32) (v_digitCount : Int32) (v_fraction : Int32) (v_exponent : Int32) (v_isHex : Int32) (v_digits_a : Nat → Int32) (ls : Array Slot) (H : Heap) (locs : List Loc), lv_has ls 7 [(0, .ref h_v), (1, .ref h_w1), (2, .int y2), (3, .int y3), (4, .int y4), (5, .int y5)] → va_P (dC, dI) vwCl [(h_v, .inr (2, [.ref h_v_digits, .int v_digitCount, .int v_fraction, .int v_exponent, .int v_isHex])), (h_v_digits, .inl (cB, n_v_digits, .inl v_digits_a)), (h_w1, .inr (4, [.ref h_w1_letters, .int w1_start, .int w1_end])), (h_w1_letters, .inl (cC, n_w1_letters, .inl w1_letters_a))] H → va_D A [(h_v, .inr (2, [.ref h_v_digits, .int v_digitCount, .int v_fraction, .int v_exponent, .int v_isHex])), (h_v_digits, .inl (cB, n_v_digits, .inl v_digits_a)), (h_w1, .inr (4, [.ref h_w1_letters, .int w1_start, .int w1_end])), (h_w1_letters, .inl (cC, n_w1_letters, .inl w1_letters_a))] → va_S A s.heap H locs → f_Lit_scan_111 fu n_v_digits n_w1_letters w1_start w1_end w1_letters_a y2 y3 y4 y5 k0 v_digitCount v_fraction v_exponent v_isHex v_digits_a = some u → W p l e (headSpec ws_Lit_scan rm_Lit_scan).room s m [.ref h_v, .ref h_w1].toArray below meth c H locs 0 0 Qq (F0 m 111 ls [.int k0]) := by
    intro y2 y3 y4 y5 k0 v_digitCount v_fraction v_exponent v_isHex v_digits_a ls H locs hl hP hD hS hf
    unfold f_Lit_scan_111 at hf
    refine lv_istore hx hb d_Lit_scan_111 hl (by decide) rfl (fun ls hl => ?_)
    have hl : lv_has ls 7 [(6, .int k0), (0, .ref h_v), (1, .ref h_w1), (2, .int y2), (3, .int y3), (4, .int y4), (5, .int y5)] := hl
    refine lv_iload hx hb d_Lit_scan_113 (lv_at hl 5 rfl) ?_
    refine lv_iload_n hx hb d_Lit_scan_115 rfl (lv_at hl 4 rfl) ?_
    refine lv_icmp_ne (tgt := 128) hx hb d_Lit_scan_116 (by decide) (fun hc => ?_) (fun hc => ?_)
    · have hf := zz_ifn hc hf
      exact hL_128 y2 y3 y4 y5 k0 v_digitCount v_fraction v_exponent v_isHex v_digits_a ls _ _ (lv_sub hl [1, 2, 3, 4, 5, 6, 0] rfl) hP hD hS hf
    · have hf := zz_ifp hc hf
      refine lv_iload hx hb d_Lit_scan_119 (lv_at hl 0 rfl) ?_
      refine lv_iload hx hb d_Lit_scan_121 (lv_at hl 6 rfl) ?_
      refine lv_icmp_ne (tgt := 128) hx hb d_Lit_scan_123 (by decide) (fun hc => ?_) (fun hc => ?_)
      · have hf := zz_ifn hc hf
        exact hL_128 y2 y3 y4 y5 k0 v_digitCount v_fraction v_exponent v_isHex v_digits_a ls _ _ (lv_sub hl [1, 2, 3, 4, 5, 6, 0] rfl) hP hD hS hf
      · have hf := zz_ifp hc hf
        refine lv_iconst (v := 0) hx hb d_Lit_scan_126 (by decide) ?_
        cases hf
        exact hend 127 ls _ _ narrow_b0 d_Lit_scan_127 hP hD hS
  have hL_90 : ∀ (y2 : Int32) (y3 : Int32) (y4 : Int32) (k0 : Int32) (v_digitCount : Int32) (v_fraction : Int32) (v_exponent : Int32) (v_isHex : Int32) (v_digits_a : Nat → Int32) (ls : Array Slot) (H : Heap) (locs : List Loc), lv_has ls 7 [(0, .ref h_v), (1, .ref h_w1), (2, .int y2), (3, .int y3), (4, .int y4)] → va_P (dC, dI) vwCl [(h_v, .inr (2, [.ref h_v_digits, .int v_digitCount, .int v_fraction, .int v_exponent, .int v_isHex])), (h_v_digits, .inl (cB, n_v_digits, .inl v_digits_a)), (h_w1, .inr (4, [.ref h_w1_letters, .int w1_start, .int w1_end])), (h_w1_letters, .inl (cC, n_w1_letters, .inl w1_letters_a))] H → va_D A [(h_v, .inr (2, [.ref h_v_digits, .int v_digitCount, .int v_fraction, .int v_exponent, .int v_isHex])), (h_v_digits, .inl (cB, n_v_digits, .inl v_digits_a)), (h_w1, .inr (4, [.ref h_w1_letters, .int w1_start, .int w1_end])), (h_w1_letters, .inl (cC, n_w1_letters, .inl w1_letters_a))] → va_S A s.heap H locs → f_Lit_scan_90 fu n_v_digits n_w1_letters w1_start w1_end w1_letters_a y2 y3 y4 k0 v_digitCount v_fraction v_exponent v_isHex v_digits_a = some u → W p l e (headSpec ws_Lit_scan rm_Lit_scan).room s m [.ref h_v, .ref h_w1].toArray below meth c H locs 0 0 Qq (F0 m 90 ls [.int k0]) := by
    intro y2 y3 y4 k0 v_digitCount v_fraction v_exponent v_isHex v_digits_a ls H locs hl hP hD hS hf
    unfold f_Lit_scan_90 at hf
    refine lv_istore hx hb d_Lit_scan_90 hl (by decide) rfl (fun ls hl => ?_)
    have hl : lv_has ls 7 [(5, .int k0), (0, .ref h_v), (1, .ref h_w1), (2, .int y2), (3, .int y3), (4, .int y4)] := hl
    refine lv_iload hx hb d_Lit_scan_92 (lv_at hl 0 rfl) ?_
    refine lv_iload hx hb d_Lit_scan_94 (lv_at hl 5 rfl) ?_
    refine lv_icmp_le (tgt := 109) hx hb d_Lit_scan_96 (by decide) (fun hc => ?_) (fun hc => ?_)
    · have hf := zz_ifp hc hf
      refine lv_iload hx hb d_Lit_scan_109 (lv_at hl 0 rfl) ?_
      exact hL_111 y2 y3 y4 k0 k0 v_digitCount v_fraction v_exponent v_isHex v_digits_a ls _ _ (lv_sub hl [1, 2, 3, 4, 5, 0] rfl) hP hD hS hf
    · have hf := zz_ifn hc hf
      refine lv_aload_n hx hb d_Lit_scan_99 rfl (lv_at hl 2 rfl) ?_
      refine lv_iload hx hb d_Lit_scan_100 (lv_at hl 0 rfl) ?_
      refine lv_iload_n hx hb d_Lit_scan_102 rfl (lv_at hl 3 rfl) ?_
      obtain ⟨u_8, hu_8, hf⟩ := zz_bd hf
      refine zz_ci (ws' := [(h_v, .inr (2, [.ref h_v_digits, .int v_digitCount, .int v_fraction, .int v_exponent, .int v_isHex])), (h_v_digits, .inl (cB, n_v_digits, .inl v_digits_a)), (h_w1, .inr (4, [.ref h_w1_letters, .int w1_start, .int w1_end])), (h_w1_letters, .inl (cC, n_w1_letters, .inl w1_letters_a))]) (wc := [(h_w1, .inr (4, [.ref h_w1_letters, .int w1_start, .int w1_end])), (h_w1_letters, .inl (cC, n_w1_letters, .inl w1_letters_a))]) (w' := [(h_w1, .inr (4, [.ref h_w1_letters, .int w1_start, .int w1_end])), (h_w1_letters, .inl (cC, n_w1_letters, .inl w1_letters_a))]) hP hD hS hA [2, 3] [0, 1] [0, 1, 2, 3] rfl rfl (by decide) (by decide) rfl (by decide) (va_runS (As := [.ref h_w1, .int k0, .int y2]) (rest := []) ⟨hx, hb, hml, hown, hw⟩ (c_Lit_endOfDigits l dC dI cI cC cB cJ fu _ h_w1 h_w1_letters n_w1_letters k0 y2 w1_start w1_end w1_letters_a u_8 hu_8) (va_cwS 3 hw (zg_S wd_572 wd_573 wd_3 wd_574) rfl rfl rfl hd_Lit_endOfDigits ⟨Nat.le_of_ble_eq_true rfl, Nat.le_of_ble_eq_true rfl⟩) (zz_preS zz_TE hP hD hK hS hA trivial [2, 3] rfl (by decide)) rfl rfl hl.1 rfl (lv_room (Nat.le_of_ble_eq_true rfl)) d_Lit_scan_103 ⟨Nat.zero_le _, Nat.zero_le _⟩) (fun H locs hP hD hS => ?_)
      refine lv_goto (tgt := 111) hx hb d_Lit_scan_106 (by decide) ?_
      exact hL_111 y2 y3 y4 k0 u_8 v_digitCount v_fraction v_exponent v_isHex v_digits_a ls _ _ (lv_sub hl [1, 2, 3, 4, 5, 0] rfl) hP hD hS hf
  have hL_61 : ∀ (y2 : Int32) (k0 : Int32) (v_digitCount : Int32) (v_fraction : Int32) (v_exponent : Int32) (v_isHex : Int32) (v_digits_a : Nat → Int32) (ls : Array Slot) (H : Heap) (locs : List Loc), lv_has ls 7 [(0, .ref h_v), (1, .ref h_w1), (2, .int y2)] → va_P (dC, dI) vwCl [(h_v, .inr (2, [.ref h_v_digits, .int v_digitCount, .int v_fraction, .int v_exponent, .int v_isHex])), (h_v_digits, .inl (cB, n_v_digits, .inl v_digits_a)), (h_w1, .inr (4, [.ref h_w1_letters, .int w1_start, .int w1_end])), (h_w1_letters, .inl (cC, n_w1_letters, .inl w1_letters_a))] H → va_D A [(h_v, .inr (2, [.ref h_v_digits, .int v_digitCount, .int v_fraction, .int v_exponent, .int v_isHex])), (h_v_digits, .inl (cB, n_v_digits, .inl v_digits_a)), (h_w1, .inr (4, [.ref h_w1_letters, .int w1_start, .int w1_end])), (h_w1_letters, .inl (cC, n_w1_letters, .inl w1_letters_a))] → va_S A s.heap H locs → f_Lit_scan_61 fu n_v_digits n_w1_letters w1_start w1_end w1_letters_a y2 k0 v_digitCount v_fraction v_exponent v_isHex v_digits_a = some u → W p l e (headSpec ws_Lit_scan rm_Lit_scan).room s m [.ref h_v, .ref h_w1].toArray below meth c H locs 0 0 Qq (F0 m 61 ls [.int k0]) := by
    intro y2 k0 v_digitCount v_fraction v_exponent v_isHex v_digits_a ls H locs hl hP hD hS hf
    unfold f_Lit_scan_61 at hf
    refine lv_istore_n hx hb d_Lit_scan_61 rfl hl (by decide) rfl (fun ls hl => ?_)
    have hl : lv_has ls 7 [(3, .int k0), (0, .ref h_v), (1, .ref h_w1), (2, .int y2)] := hl
    refine lv_aload_n hx hb d_Lit_scan_62 rfl (lv_at hl 2 rfl) ?_
    refine lv_iload_n hx hb d_Lit_scan_63 rfl (lv_at hl 0 rfl) ?_
    refine lv_iload_n hx hb d_Lit_scan_64 rfl (lv_at hl 3 rfl) ?_
    obtain ⟨u_2, hu_2, hf⟩ := zz_bd hf
    refine zz_ci (ws' := [(h_v, .inr (2, [.ref h_v_digits, .int v_digitCount, .int v_fraction, .int v_exponent, .int v_isHex])), (h_v_digits, .inl (cB, n_v_digits, .inl v_digits_a)), (h_w1, .inr (4, [.ref h_w1_letters, .int w1_start, .int w1_end])), (h_w1_letters, .inl (cC, n_w1_letters, .inl w1_letters_a))]) (wc := [(h_w1, .inr (4, [.ref h_w1_letters, .int w1_start, .int w1_end])), (h_w1_letters, .inl (cC, n_w1_letters, .inl w1_letters_a))]) (w' := [(h_w1, .inr (4, [.ref h_w1_letters, .int w1_start, .int w1_end])), (h_w1_letters, .inl (cC, n_w1_letters, .inl w1_letters_a))]) hP hD hS hA [2, 3] [0, 1] [0, 1, 2, 3] rfl rfl (by decide) (by decide) rfl (by decide) (va_runS (As := [.ref h_w1, .int k0, .int y2]) (rest := []) ⟨hx, hb, hml, hown, hw⟩ (c_Lit_endOfDigits l dC dI cI cC cB cJ fu _ h_w1 h_w1_letters n_w1_letters k0 y2 w1_start w1_end w1_letters_a u_2 hu_2) (va_cwS 3 hw (zg_S wd_572 wd_573 wd_3 wd_574) rfl rfl rfl hd_Lit_endOfDigits ⟨Nat.le_of_ble_eq_true rfl, Nat.le_of_ble_eq_true rfl⟩) (zz_preS zz_TE hP hD hK hS hA trivial [2, 3] rfl (by decide)) rfl rfl hl.1 rfl (lv_room (Nat.le_of_ble_eq_true rfl)) d_Lit_scan_65 ⟨Nat.zero_le _, Nat.zero_le _⟩) (fun H locs hP hD hS => ?_)
    refine lv_istore hx hb d_Lit_scan_68 hl (by decide) rfl (fun ls hl => ?_)
    have hl : lv_has ls 7 [(4, .int u_2), (3, .int k0), (0, .ref h_v), (1, .ref h_w1), (2, .int y2)] := hl
    refine lv_aload_n hx hb d_Lit_scan_70 rfl (lv_at hl 3 rfl) ?_
    refine lv_iload hx hb d_Lit_scan_71 (lv_at hl 0 rfl) ?_
    obtain ⟨u_3, hu_3, hf⟩ := zz_bd hf
    refine zz_ci (ws' := [(h_v, .inr (2, [.ref h_v_digits, .int v_digitCount, .int v_fraction, .int v_exponent, .int v_isHex])), (h_v_digits, .inl (cB, n_v_digits, .inl v_digits_a)), (h_w1, .inr (4, [.ref h_w1_letters, .int w1_start, .int w1_end])), (h_w1_letters, .inl (cC, n_w1_letters, .inl w1_letters_a))]) (wc := [(h_w1, .inr (4, [.ref h_w1_letters, .int w1_start, .int w1_end])), (h_w1_letters, .inl (cC, n_w1_letters, .inl w1_letters_a))]) (w' := [(h_w1, .inr (4, [.ref h_w1_letters, .int w1_start, .int w1_end])), (h_w1_letters, .inl (cC, n_w1_letters, .inl w1_letters_a))]) hP hD hS hA [2, 3] [0, 1] [0, 1, 2, 3] rfl rfl (by decide) (by decide) rfl (by decide) (va_runV (As := [.int u_2]) (rest := []) ⟨hx, hb, hml, hown, hw⟩ (c_Row_at l dC dI cI cC cB cJ _ h_w1 h_w1_letters n_w1_letters u_2 w1_start w1_end w1_letters_a u_3 hu_3) (cwV 1 hw (zg_V wd_568 wd_448 wd_449 wd_2 wd_450) rfl rfl rfl hd_Row_at ⟨Nat.le_of_ble_eq_true rfl, Nat.le_of_ble_eq_true rfl⟩) (zz_preV zz_TE (va_recv (q0 := 2) (ci := 4) hK hP rfl rfl) hP hD hK hS hA trivial [2, 3] rfl (by decide)) rfl rfl hl.1 rfl (lv_room (Nat.le_of_ble_eq_true rfl)) d_Lit_scan_73 ⟨Nat.zero_le _, Nat.zero_le _⟩) (fun H locs hP hD hS => ?_)
    refine lv_bipush (v := 46) hx hb d_Lit_scan_76 (by decide) ?_
    refine lv_icmp_ne (tgt := 88) hx hb d_Lit_scan_78 (by decide) (fun hc => ?_) (fun hc => ?_)
    · have hf := zz_ifn hc hf
      refine lv_iload hx hb d_Lit_scan_88 (lv_at hl 0 rfl) ?_
      exact hL_90 y2 k0 u_2 u_2 v_digitCount v_fraction v_exponent v_isHex v_digits_a ls _ _ (lv_sub hl [2, 3, 4, 1, 0] rfl) hP hD hS hf
    · have hf := zz_ifp hc hf
      refine lv_iload hx hb d_Lit_scan_81 (lv_at hl 0 rfl) ?_
      refine lv_iconst (v := 1) hx hb d_Lit_scan_83 (by decide) ?_
      refine lv_iadd hx hb d_Lit_scan_84 ?_
      refine lv_goto (tgt := 90) hx hb d_Lit_scan_85 (by decide) ?_
      exact hL_90 y2 k0 u_2 (u_2 + 1) v_digitCount v_fraction v_exponent v_isHex v_digits_a ls _ _ (lv_sub hl [2, 3, 4, 1, 0] rfl) hP hD hS hf
  have hL_48 : ∀ (k0 : Int32) (v_digitCount : Int32) (v_fraction : Int32) (v_exponent : Int32) (v_isHex : Int32) (v_digits_a : Nat → Int32) (ls : Array Slot) (H : Heap) (locs : List Loc), lv_has ls 7 [(0, .ref h_v), (1, .ref h_w1)] → va_P (dC, dI) vwCl [(h_v, .inr (2, [.ref h_v_digits, .int v_digitCount, .int v_fraction, .int v_exponent, .int v_isHex])), (h_v_digits, .inl (cB, n_v_digits, .inl v_digits_a)), (h_w1, .inr (4, [.ref h_w1_letters, .int w1_start, .int w1_end])), (h_w1_letters, .inl (cC, n_w1_letters, .inl w1_letters_a))] H → va_D A [(h_v, .inr (2, [.ref h_v_digits, .int v_digitCount, .int v_fraction, .int v_exponent, .int v_isHex])), (h_v_digits, .inl (cB, n_v_digits, .inl v_digits_a)), (h_w1, .inr (4, [.ref h_w1_letters, .int w1_start, .int w1_end])), (h_w1_letters, .inl (cC, n_w1_letters, .inl w1_letters_a))] → va_S A s.heap H locs → f_Lit_scan_48 fu n_v_digits n_w1_letters w1_start w1_end w1_letters_a k0 v_digitCount v_fraction v_exponent v_isHex v_digits_a = some u → W p l e (headSpec ws_Lit_scan rm_Lit_scan).room s m [.ref h_v, .ref h_w1].toArray below meth c H locs 0 0 Qq (F0 m 48 ls [.int k0]) := by
    intro k0 v_digitCount v_fraction v_exponent v_isHex v_digits_a ls H locs hl hP hD hS hf
    unfold f_Lit_scan_48 at hf
    refine lv_istore_n hx hb d_Lit_scan_48 rfl hl (by decide) rfl (fun ls hl => ?_)
    have hl : lv_has ls 7 [(2, .int k0), (0, .ref h_v), (1, .ref h_w1)] := hl
    refine lv_aload_n hx hb d_Lit_scan_49 rfl (lv_at hl 1 rfl) ?_
    refine va_get (D := (dC, dI)) (ci := 2) (v := .int v_isHex) (C := R_Lit) (T := T_Lit) (N := 5) hx hb hw in_Lit hown hK hP 0 rfl rfl 4 (by decide) (hw _ wd_64) (fun _ h9 => h9) rfl d_Lit_scan_50 ?_
    refine lv_if_eq (tgt := 60) hx hb d_Lit_scan_53 (by decide) (fun hc => ?_) (fun hc => ?_)
    · have hf := zz_ifp hc hf
      refine lv_iconst (v := 0) hx hb d_Lit_scan_60 (by decide) ?_
      exact hL_61 k0 0 v_digitCount v_fraction v_exponent v_isHex v_digits_a ls _ _ (lv_sub hl [1, 2, 0] rfl) hP hD hS hf
    · have hf := zz_ifn hc hf
      refine lv_iconst (v := 2) hx hb d_Lit_scan_56 (by decide) ?_
      refine lv_goto (tgt := 61) hx hb d_Lit_scan_57 (by decide) ?_
      exact hL_61 k0 2 v_digitCount v_fraction v_exponent v_isHex v_digits_a ls _ _ (lv_sub hl [1, 2, 0] rfl) hP hD hS hf
  have hL_31 : ∀ (k1 : Int32) (v_digitCount : Int32) (v_fraction : Int32) (v_exponent : Int32) (v_isHex : Int32) (v_digits_a : Nat → Int32) (ls : Array Slot) (H : Heap) (locs : List Loc), lv_has ls 7 [(0, .ref h_v), (1, .ref h_w1)] → va_P (dC, dI) vwCl [(h_v, .inr (2, [.ref h_v_digits, .int v_digitCount, .int v_fraction, .int v_exponent, .int v_isHex])), (h_v_digits, .inl (cB, n_v_digits, .inl v_digits_a)), (h_w1, .inr (4, [.ref h_w1_letters, .int w1_start, .int w1_end])), (h_w1_letters, .inl (cC, n_w1_letters, .inl w1_letters_a))] H → va_D A [(h_v, .inr (2, [.ref h_v_digits, .int v_digitCount, .int v_fraction, .int v_exponent, .int v_isHex])), (h_v_digits, .inl (cB, n_v_digits, .inl v_digits_a)), (h_w1, .inr (4, [.ref h_w1_letters, .int w1_start, .int w1_end])), (h_w1_letters, .inl (cC, n_w1_letters, .inl w1_letters_a))] → va_S A s.heap H locs → f_Lit_scan_31 fu n_v_digits n_w1_letters w1_start w1_end w1_letters_a k1 v_digitCount v_fraction v_exponent v_isHex v_digits_a = some u → W p l e (headSpec ws_Lit_scan rm_Lit_scan).room s m [.ref h_v, .ref h_w1].toArray below meth c H locs 0 0 Qq (F0 m 31 ls [.int k1, .ref h_v]) := by
    intro k1 v_digitCount v_fraction v_exponent v_isHex v_digits_a ls H locs hl hP hD hS hf
    unfold f_Lit_scan_31 at hf
    obtain ⟨hn, hf⟩ := zz_gd hf
    refine va_put (D := (dC, dI)) (ci := 2) (v := .int k1) (ty := .boolean) (C := R_Lit) (T := T_Lit) (N := 5) hx hb hw in_Lit ty_Lit tyok_Lit nm_Lit hown hK hP hD hS 0 rfl rfl 4 (by decide) (hw _ wd_64) (fun _ h9 => h9) rfl (tyok_Lit 4 (by decide)) (zz_nar_boolean hn) (zz_fit_boolean hn) (Nat.le_of_ble_eq_true rfl) d_Lit_scan_31 (fun H locs hP hD hS => ?_)
    have hP : va_P (dC, dI) vwCl [(h_v, .inr (2, [.ref h_v_digits, .int v_digitCount, .int v_fraction, .int v_exponent, .int k1])), (h_v_digits, .inl (cB, n_v_digits, .inl v_digits_a)), (h_w1, .inr (4, [.ref h_w1_letters, .int w1_start, .int w1_end])), (h_w1_letters, .inl (cC, n_w1_letters, .inl w1_letters_a))] H := hP
    have hD : va_D A [(h_v, .inr (2, [.ref h_v_digits, .int v_digitCount, .int v_fraction, .int v_exponent, .int k1])), (h_v_digits, .inl (cB, n_v_digits, .inl v_digits_a)), (h_w1, .inr (4, [.ref h_w1_letters, .int w1_start, .int w1_end])), (h_w1_letters, .inl (cC, n_w1_letters, .inl w1_letters_a))] := hD
    refine lv_aload_n hx hb d_Lit_scan_34 rfl (lv_at hl 0 rfl) ?_
    refine va_get (D := (dC, dI)) (ci := 2) (v := .int k1) (C := R_Lit) (T := T_Lit) (N := 5) hx hb hw in_Lit hown hK hP 0 rfl rfl 4 (by decide) (hw _ wd_64) (fun _ h9 => h9) rfl d_Lit_scan_35 ?_
    refine lv_if_eq (tgt := 46) hx hb d_Lit_scan_38 (by decide) (fun hc => ?_) (fun hc => ?_)
    · have hf := zz_ifp hc hf
      refine lv_bipush (v := 10) hx hb d_Lit_scan_46 (by decide) ?_
      exact hL_48 10 v_digitCount v_fraction v_exponent k1 v_digits_a ls _ _ (lv_sub hl [0, 1] rfl) hP hD hS hf
    · have hf := zz_ifn hc hf
      refine lv_bipush (v := 16) hx hb d_Lit_scan_41 (by decide) ?_
      refine lv_goto (tgt := 48) hx hb d_Lit_scan_43 (by decide) ?_
      exact hL_48 16 v_digitCount v_fraction v_exponent k1 v_digits_a ls _ _ (lv_sub hl [0, 1] rfl) hP hD hS hf
  have hL_30 : ∀ (v_digitCount : Int32) (v_fraction : Int32) (v_exponent : Int32) (v_isHex : Int32) (v_digits_a : Nat → Int32) (ls : Array Slot) (H : Heap) (locs : List Loc), lv_has ls 7 [(0, .ref h_v), (1, .ref h_w1)] → va_P (dC, dI) vwCl [(h_v, .inr (2, [.ref h_v_digits, .int v_digitCount, .int v_fraction, .int v_exponent, .int v_isHex])), (h_v_digits, .inl (cB, n_v_digits, .inl v_digits_a)), (h_w1, .inr (4, [.ref h_w1_letters, .int w1_start, .int w1_end])), (h_w1_letters, .inl (cC, n_w1_letters, .inl w1_letters_a))] H → va_D A [(h_v, .inr (2, [.ref h_v_digits, .int v_digitCount, .int v_fraction, .int v_exponent, .int v_isHex])), (h_v_digits, .inl (cB, n_v_digits, .inl v_digits_a)), (h_w1, .inr (4, [.ref h_w1_letters, .int w1_start, .int w1_end])), (h_w1_letters, .inl (cC, n_w1_letters, .inl w1_letters_a))] → va_S A s.heap H locs → f_Lit_scan_30 fu n_v_digits n_w1_letters w1_start w1_end w1_letters_a v_digitCount v_fraction v_exponent v_isHex v_digits_a = some u → W p l e (headSpec ws_Lit_scan rm_Lit_scan).room s m [.ref h_v, .ref h_w1].toArray below meth c H locs 0 0 Qq (F0 m 30 ls [.ref h_v]) := by
    intro v_digitCount v_fraction v_exponent v_isHex v_digits_a ls H locs hl hP hD hS hf
    unfold f_Lit_scan_30 at hf
    refine lv_iconst (v := 0) hx hb d_Lit_scan_30 (by decide) ?_
    exact hL_31 0 v_digitCount v_fraction v_exponent v_isHex v_digits_a ls _ _ (lv_sub hl [0, 1] rfl) hP hD hS hf
  unfold f_Lit_scan at hf
  refine lv_aload_n hx hb d_Lit_scan_0 rfl (lv_at hl 0 rfl) ?_
  refine lv_aload_n hx hb d_Lit_scan_1 rfl (lv_at hl 1 rfl) ?_
  refine lv_iconst (v := 0) hx hb d_Lit_scan_2 (by decide) ?_
  obtain ⟨u_1, hu_1, hf⟩ := zz_bd hf
  refine zz_ci (ws' := [(h_v, .inr (2, [.ref h_v_digits, .int v_digitCount, .int v_fraction, .int v_exponent, .int v_isHex])), (h_v_digits, .inl (cB, n_v_digits, .inl v_digits_a)), (h_w1, .inr (4, [.ref h_w1_letters, .int w1_start, .int w1_end])), (h_w1_letters, .inl (cC, n_w1_letters, .inl w1_letters_a))]) (wc := [(h_w1, .inr (4, [.ref h_w1_letters, .int w1_start, .int w1_end])), (h_w1_letters, .inl (cC, n_w1_letters, .inl w1_letters_a))]) (w' := [(h_w1, .inr (4, [.ref h_w1_letters, .int w1_start, .int w1_end])), (h_w1_letters, .inl (cC, n_w1_letters, .inl w1_letters_a))]) hP hD hS hA [2, 3] [0, 1] [0, 1, 2, 3] rfl rfl (by decide) (by decide) rfl (by decide) (va_runV (As := [.int 0]) (rest := [.ref h_v]) ⟨hx, hb, hml, hown, hw⟩ (c_Row_at l dC dI cI cC cB cJ _ h_w1 h_w1_letters n_w1_letters 0 w1_start w1_end w1_letters_a u_1 hu_1) (cwV 1 hw (zg_V wd_568 wd_448 wd_449 wd_2 wd_450) rfl rfl rfl hd_Row_at ⟨Nat.le_of_ble_eq_true rfl, Nat.le_of_ble_eq_true rfl⟩) (zz_preV zz_TE (va_recv (q0 := 2) (ci := 4) hK hP rfl rfl) hP hD hK hS hA trivial [2, 3] rfl (by decide)) rfl rfl hl.1 rfl (lv_room (Nat.le_of_ble_eq_true rfl)) d_Lit_scan_3 ⟨Nat.zero_le _, Nat.zero_le _⟩) (fun H locs hP hD hS => ?_)
  refine lv_bipush (v := 48) hx hb d_Lit_scan_6 (by decide) ?_
  refine lv_icmp_ne (tgt := 30) hx hb d_Lit_scan_8 (by decide) (fun hc => ?_) (fun hc => ?_)
  · have hf := zz_ifn hc hf
    exact hL_30 v_digitCount v_fraction v_exponent v_isHex v_digits_a ls _ _ (lv_sub hl [0, 1] rfl) hP hD hS hf
  · have hf := zz_ifp hc hf
    refine lv_aload_n hx hb d_Lit_scan_11 rfl (lv_at hl 1 rfl) ?_
    refine lv_iconst (v := 1) hx hb d_Lit_scan_12 (by decide) ?_
    obtain ⟨u_9, hu_9, hf⟩ := zz_bd hf
    refine zz_ci (ws' := [(h_v, .inr (2, [.ref h_v_digits, .int v_digitCount, .int v_fraction, .int v_exponent, .int v_isHex])), (h_v_digits, .inl (cB, n_v_digits, .inl v_digits_a)), (h_w1, .inr (4, [.ref h_w1_letters, .int w1_start, .int w1_end])), (h_w1_letters, .inl (cC, n_w1_letters, .inl w1_letters_a))]) (wc := [(h_w1, .inr (4, [.ref h_w1_letters, .int w1_start, .int w1_end])), (h_w1_letters, .inl (cC, n_w1_letters, .inl w1_letters_a))]) (w' := [(h_w1, .inr (4, [.ref h_w1_letters, .int w1_start, .int w1_end])), (h_w1_letters, .inl (cC, n_w1_letters, .inl w1_letters_a))]) hP hD hS hA [2, 3] [0, 1] [0, 1, 2, 3] rfl rfl (by decide) (by decide) rfl (by decide) (va_runV (As := [.int 1]) (rest := [.ref h_v]) ⟨hx, hb, hml, hown, hw⟩ (c_Row_at l dC dI cI cC cB cJ _ h_w1 h_w1_letters n_w1_letters 1 w1_start w1_end w1_letters_a u_9 hu_9) (cwV 1 hw (zg_V wd_568 wd_448 wd_449 wd_2 wd_450) rfl rfl rfl hd_Row_at ⟨Nat.le_of_ble_eq_true rfl, Nat.le_of_ble_eq_true rfl⟩) (zz_preV zz_TE (va_recv (q0 := 2) (ci := 4) hK hP rfl rfl) hP hD hK hS hA trivial [2, 3] rfl (by decide)) rfl rfl hl.1 rfl (lv_room (Nat.le_of_ble_eq_true rfl)) d_Lit_scan_13 ⟨Nat.zero_le _, Nat.zero_le _⟩) (fun H locs hP hD hS => ?_)
    refine lv_bipush (v := 120) hx hb d_Lit_scan_16 (by decide) ?_
    refine lv_bipush (v := 88) hx hb d_Lit_scan_18 (by decide) ?_
    obtain ⟨u_10, hu_10, hf⟩ := zz_bd hf
    refine zz_ci (ws' := [(h_v, .inr (2, [.ref h_v_digits, .int v_digitCount, .int v_fraction, .int v_exponent, .int v_isHex])), (h_v_digits, .inl (cB, n_v_digits, .inl v_digits_a)), (h_w1, .inr (4, [.ref h_w1_letters, .int w1_start, .int w1_end])), (h_w1_letters, .inl (cC, n_w1_letters, .inl w1_letters_a))]) (wc := []) (w' := []) hP hD hS hA [] [0, 1, 2, 3] [0, 1, 2, 3] rfl rfl (by decide) (by decide) rfl (by decide) (va_runS (As := [.int u_9, .int 120, .int 88]) (rest := [.ref h_v]) ⟨hx, hb, hml, hown, hw⟩ (c_Lit_isEither l dC dI cI cC cB cJ _ u_9 120 88 u_10 hu_10) (va_cwS 3 hw (zg_S wd_569 wd_570 wd_3 wd_571) rfl rfl rfl hd_Lit_isEither ⟨Nat.le_of_ble_eq_true rfl, Nat.le_of_ble_eq_true rfl⟩) (zz_preS zz_TE hP hD hK hS hA trivial [] rfl (by decide)) rfl rfl hl.1 rfl (lv_room (Nat.le_of_ble_eq_true rfl)) d_Lit_scan_20 ⟨Nat.zero_le _, Nat.zero_le _⟩) (fun H locs hP hD hS => ?_)
    refine lv_if_eq (tgt := 30) hx hb d_Lit_scan_23 (by decide) (fun hc => ?_) (fun hc => ?_)
    · have hf := zz_ifp hc hf
      exact hL_30 v_digitCount v_fraction v_exponent v_isHex v_digits_a ls _ _ (lv_sub hl [0, 1] rfl) hP hD hS hf
    · have hf := zz_ifn hc hf
      refine lv_iconst (v := 1) hx hb d_Lit_scan_26 (by decide) ?_
      refine lv_goto (tgt := 31) hx hb d_Lit_scan_27 (by decide) ?_
      exact hL_31 1 v_digitCount v_fraction v_exponent v_isHex v_digits_a ls _ _ (lv_sub hl [0, 1] rfl) hP hD hS hf
