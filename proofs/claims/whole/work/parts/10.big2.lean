abbrev ws_Big_multiplyByFives : List Cond := .code y_Big_multiplyByFives prog_2_method_10_code 3 none :: zw
abbrev rm_Big_multiplyByFives : Room := { frames := 2, cells := 0, slots := 0, locals := 47 }
theorem hd_Big_multiplyByFives : y_Big_multiplyByFives.cls = "RealText$Big" ∧ y_Big_multiplyByFives.cls ≠ "java/lang/invoke/MethodHandle" ∧ y_Big_multiplyByFives.cls ≠ "java/lang/invoke/VarHandle" ∧ (parseMethodDescriptor y_Big_multiplyByFives.desc).map (fun d => d.parameters.length) = some 1 := by decide +kernel
theorem d_Big_multiplyByFives_0 : decode prog_2_method_10_code 0 = .ok (.iload_n 1, 1) := by decide +kernel
theorem d_Big_multiplyByFives_1 : decode prog_2_method_10_code 1 = .ok (.istore_n 2, 1) := by decide +kernel
theorem d_Big_multiplyByFives_2 : decode prog_2_method_10_code 2 = .ok (.iload_n 2, 1) := by decide +kernel
theorem d_Big_multiplyByFives_3 : decode prog_2_method_10_code 3 = .ok (.ifCond .le 24, 3) := by decide +kernel
theorem d_Big_multiplyByFives_6 : decode prog_2_method_10_code 6 = .ok (.aload_n 0, 1) := by decide +kernel
theorem d_Big_multiplyByFives_7 : decode prog_2_method_10_code 7 = .ok (.getstatic 49, 3) := by decide +kernel
theorem d_Big_multiplyByFives_10 : decode prog_2_method_10_code 10 = .ok (.iload_n 2, 1) := by decide +kernel
theorem d_Big_multiplyByFives_11 : decode prog_2_method_10_code 11 = .ok (.bipush 13, 2) := by decide +kernel
theorem d_Big_multiplyByFives_13 : decode prog_2_method_10_code 13 = .ok (.invokestatic 26, 3) := by decide +kernel
theorem d_Big_multiplyByFives_16 : decode prog_2_method_10_code 16 = .ok (.iaload, 1) := by decide +kernel
theorem d_Big_multiplyByFives_17 : decode prog_2_method_10_code 17 = .ok (.iconst 0, 1) := by decide +kernel
theorem d_Big_multiplyByFives_18 : decode prog_2_method_10_code 18 = .ok (.invokevirtual 52, 3) := by decide +kernel
theorem d_Big_multiplyByFives_21 : decode prog_2_method_10_code 21 = .ok (.iinc 2 (-13), 3) := by decide +kernel
theorem d_Big_multiplyByFives_24 : decode prog_2_method_10_code 24 = .ok (.goto (-22), 3) := by decide +kernel
theorem d_Big_multiplyByFives_27 : decode prog_2_method_10_code 27 = .ok (.return_, 1) := by decide +kernel
def f_Big_multiplyByFives_2 (fu : Nat) (n_v_limbs : Nat) (x1 : Int32)  : Nat → Int32 → Int32 → (Nat → Int32) → Option (Int32 × (Nat → Int32))
  | 0, _, _, _ => none
  | n + 1, y2, v_size, v_limbs_a =>
  (if y2 ≤ 0 then
  some (v_size, v_limbs_a)
  else
  (f_Mat_min y2 13).bind fun u_1 =>
  if zz_in u_1 14 = true then
  (f_Big_multiplyAndAdd fu n_v_limbs (zx_pw (u_1).toNatClampNeg) 0 v_size v_limbs_a).bind fun u_3 =>
  f_Big_multiplyByFives_2 fu n_v_limbs x1 n (y2 + (-13)) u_3.1 u_3.2
  else none)
theorem f_Big_multiplyByFives_2_s (fu : Nat) (n_v_limbs : Nat) (x1 : Int32)  (n : Nat) (y2 : Int32) (v_size : Int32) (v_limbs_a : Nat → Int32) : f_Big_multiplyByFives_2 fu n_v_limbs x1 (n + 1) y2 v_size v_limbs_a =
  (if y2 ≤ 0 then
  some (v_size, v_limbs_a)
  else
  (f_Mat_min y2 13).bind fun u_1 =>
  if zz_in u_1 14 = true then
  (f_Big_multiplyAndAdd fu n_v_limbs (zx_pw (u_1).toNatClampNeg) 0 v_size v_limbs_a).bind fun u_3 =>
  f_Big_multiplyByFives_2 fu n_v_limbs x1 n (y2 + (-13)) u_3.1 u_3.2
  else none) := rfl
def f_Big_multiplyByFives (fu : Nat) (n_v_limbs : Nat) (x1 : Int32) (v_size : Int32) (v_limbs_a : Nat → Int32) : Option (Int32 × (Nat → Int32)) :=
  f_Big_multiplyByFives_2 fu n_v_limbs x1 fu x1 v_size v_limbs_a
set_option maxHeartbeats 4000000 in
set_option maxRecDepth 100000 in
theorem c_Big_multiplyByFives (l : Launch) (dC : Nat → ClassId) (dI : Nat → Nat → Nat) (cI cC cB cJ : ClassId) (adF : Nat → Nat) (tp : Nat) (adK adV : Nat → Nat) (fu : Nat) (sz : Nat) (h_v : Nat) (h_v_limbs : Nat) (n_v_limbs : Nat) (x1 : Int32) (v_size : Int32) (v_limbs_a : Nat → Int32) (u : Int32 × (Nat → Int32)) (hf : f_Big_multiplyByFives fu n_v_limbs x1 v_size v_limbs_a = some u) : Met l y_Big_multiplyByFives ws_Big_multiplyByFives rm_Big_multiplyByFives (zz_P (zx_E adF tp adK adV) (dC, dI) vwCl (zz_tys cI cC cB cJ) [.ref h_v, .int x1] [(h_v, .inr (0, [.ref h_v_limbs, .int v_size])), (h_v_limbs, .inl (cI, n_v_limbs, .inl v_limbs_a))] sz) (zz_Qv (dC, dI) vwCl [(h_v, .inr (0, [.ref h_v_limbs, .int u.1])), (h_v_limbs, .inl (cI, n_v_limbs, .inl u.2))] (va_A [(h_v, .inr (0, [.ref h_v_limbs, .int v_size])), (h_v_limbs, .inl (cI, n_v_limbs, .inl v_limbs_a))] sz)) 0 0 (va_A [(h_v, .inr (0, [.ref h_v_limbs, .int v_size])), (h_v_limbs, .inl (cI, n_v_limbs, .inl v_limbs_a))] sz) := by
  refine Met.ofW (cc := prog_2_method_10_code) (maxL := 3) (ret := none) (by decide +kernel) rfl ?_
  intro p e s m args below meth c s₁ B hml hv
  obtain ⟨rfl, hsz, hP, hK, hD0, hX⟩ := hv
  have hx := B.exec
  have hb := B.bytes
  have hr := B.returns
  have hts := atoms_spec (ws := ws_Big_multiplyByFives) B.pre
  have hw : ∀ w ∈ zw, w.before [.ref h_v, .int x1].toArray s = true := fun w h => hts w (List.mem_cons_of_mem _ h)
  have hown : s.vm.findClass R_Big = some m.cls := findClass_of_methodNamed B.named
  have hlocks := B.notSynchronized
  subst hsz
  have hD := hD0.self (sz := s.heap.size)
  generalize hAe : va_A [(h_v, .inr (0, [.ref h_v_limbs, .int v_size])), (h_v_limbs, .inl (cI, n_v_limbs, .inl v_limbs_a))] s.heap.size = A at hD hX ⊢
  have hA : ∀ q : Nat, s.heap.size ≤ q → A q := fun q h => by rw [← hAe]; exact Or.inr h
  have hS : va_S A s.heap s.heap [] := va_S.rf
  have hl := lv_entry [.ref h_v, .int x1] (n := 3) (Nat.le_of_ble_eq_true rfl)
  rw [lg_entry_eq]
  generalize (lg_sl [.ref h_v, .int x1] ++ List.replicate (3 - (lg_sl [.ref h_v, .int x1]).length) Slot.unset).toArray = ls at hl ⊢
  have hl : lv_has ls 3 [(0, .ref h_v), (1, .int x1)] := hl
  refine zz_endv hx hb hr hlocks (fun Qq hend => ?_)
  have hL_2 : ∀ (n : Nat), ∀ (y2 : Int32) (v_size : Int32) (v_limbs_a : Nat → Int32) (ls : Array Slot) (H : Heap) (locs : List Loc), lv_has ls 3 [(0, .ref h_v), (2, .int y2)] → va_P (dC, dI) vwCl [(h_v, .inr (0, [.ref h_v_limbs, .int v_size])), (h_v_limbs, .inl (cI, n_v_limbs, .inl v_limbs_a))] H → va_D A [(h_v, .inr (0, [.ref h_v_limbs, .int v_size])), (h_v_limbs, .inl (cI, n_v_limbs, .inl v_limbs_a))] → va_S A s.heap H locs → f_Big_multiplyByFives_2 fu n_v_limbs x1 n y2 v_size v_limbs_a = some u → W p l e (headSpec ws_Big_multiplyByFives rm_Big_multiplyByFives).room s m [.ref h_v, .int x1].toArray below meth c H locs 0 0 Qq (F0 m 2 ls []) := by
    intro n
    induction n with
    | zero =>
      intro y2 v_size v_limbs_a ls H locs hl hP hD hS hf
      exact zz_no hf
    | succ n ih =>
      intro y2 v_size v_limbs_a ls H locs hl hP hD hS hf
      rw [f_Big_multiplyByFives_2_s] at hf
      refine lv_iload_n hx hb d_Big_multiplyByFives_2 rfl (lv_at hl 1 rfl) ?_
      refine lv_if_le (tgt := 27) hx hb d_Big_multiplyByFives_3 (by decide) (fun hc => ?_) (fun hc => ?_)
      · have hf := zz_ifp hc hf
        cases hf
        exact hend 27 ls _ _ d_Big_multiplyByFives_27 hP hD hS
      · have hf := zz_ifn hc hf
        refine lv_aload_n hx hb d_Big_multiplyByFives_6 rfl (lv_at hl 0 rfl) ?_
        refine va_gets hx hb hX.2.1 hS hown (hw _ wd_361) (fun _ h9 => h9) d_Big_multiplyByFives_7 ?_
        refine lv_iload_n hx hb d_Big_multiplyByFives_10 rfl (lv_at hl 1 rfl) ?_
        refine lv_bipush (v := 13) hx hb d_Big_multiplyByFives_11 (by decide) ?_
        obtain ⟨u_1, hu_1, hf⟩ := zz_bd hf
        refine zz_ci (ws' := [(h_v, .inr (0, [.ref h_v_limbs, .int v_size])), (h_v_limbs, .inl (cI, n_v_limbs, .inl v_limbs_a))]) (wc := []) (w' := []) hP hD hS hA [] [0, 1] [0, 1] rfl rfl (by decide) (by decide) rfl (by decide) (va_runS (As := [.int y2, .int 13]) (rest := [.ref tp, .ref h_v]) ⟨hx, hb, hml, hown, hw⟩ (c_Mat_min l dC dI cI cC cB cJ _ y2 13 u_1 hu_1) (va_cwS 2 hw (zg_S wd_363 wd_364 wd_16 wd_365) rfl rfl rfl hd_Mat_min ⟨Nat.le_of_ble_eq_true rfl, Nat.le_of_ble_eq_true rfl⟩) (zz_preS zz_TE hP hD hK hS hA trivial [] rfl (by decide)) rfl rfl hl.1 rfl (lv_room (Nat.le_of_ble_eq_true rfl)) d_Big_multiplyByFives_13 ⟨Nat.zero_le _, Nat.zero_le _⟩) (fun H locs hP hD hS => ?_)
        obtain ⟨hb_2, hf⟩ := zz_gd hf
        refine va_ti hx hb hX.2.2.1 hS (zz_vp hb_2) rfl d_Big_multiplyByFives_16 ?_
        refine lv_iconst (v := 0) hx hb d_Big_multiplyByFives_17 (by decide) ?_
        obtain ⟨u_3, hu_3, hf⟩ := zz_bd hf
        refine zz_cv (ws' := [(h_v, .inr (0, [.ref h_v_limbs, .int u_3.1])), (h_v_limbs, .inl (cI, n_v_limbs, .inl u_3.2))]) (wc := [(h_v, .inr (0, [.ref h_v_limbs, .int v_size])), (h_v_limbs, .inl (cI, n_v_limbs, .inl v_limbs_a))]) (w' := [(h_v, .inr (0, [.ref h_v_limbs, .int u_3.1])), (h_v_limbs, .inl (cI, n_v_limbs, .inl u_3.2))]) hP hD hS hA [0, 1] [] [0, 1] rfl rfl (by decide) (by decide) rfl (by decide) (va_runV (As := [.int (zx_pw (u_1).toNatClampNeg), .int 0]) (rest := []) ⟨hx, hb, hml, hown, hw⟩ (c_Big_multiplyAndAdd l dC dI cI cC cB cJ fu _ h_v h_v_limbs n_v_limbs (zx_pw (u_1).toNatClampNeg) 0 v_size v_limbs_a u_3 hu_3) (cwV 2 hw (zg_V wd_366 wd_367 wd_368 wd_5 wd_369) rfl rfl rfl hd_Big_multiplyAndAdd ⟨Nat.le_of_ble_eq_true rfl, Nat.le_of_ble_eq_true rfl⟩) (zz_preV zz_TE (va_recv (q0 := 0) (ci := 0) hK hP rfl rfl) hP hD hK hS hA trivial [0, 1] rfl (by decide)) rfl rfl hl.1 rfl (lv_room (Nat.le_of_ble_eq_true rfl)) d_Big_multiplyByFives_18 ⟨Nat.zero_le _, Nat.zero_le _⟩) (fun H locs hP hD hS => ?_)
        refine lv_iinc (k := 1) (v := y2 + (-13)) hx hb d_Big_multiplyByFives_21 hl rfl rfl (by decide) rfl (fun ls hl => ?_)
        have hl : lv_has ls 3 [(2, .int (y2 + (-13))), (0, .ref h_v)] := hl
        refine lv_goto (tgt := 2) hx hb d_Big_multiplyByFives_24 (by decide) ?_
        exact ih (y2 + (-13)) u_3.1 u_3.2 ls _ _ (lv_sub hl [1, 0] rfl) hP hD hS hf
  unfold f_Big_multiplyByFives at hf
  refine lv_iload_n hx hb d_Big_multiplyByFives_0 rfl (lv_at hl 1 rfl) ?_
  refine lv_istore_n hx hb d_Big_multiplyByFives_1 rfl hl (by decide) rfl (fun ls hl => ?_)
  have hl : lv_has ls 3 [(2, .int x1), (0, .ref h_v), (1, .int x1)] := hl
  exact hL_2 fu x1 v_size v_limbs_a ls _ _ (lv_sub hl [1, 0] rfl) hP hD hS hf
abbrev ws_Big_multiplyByTens : List Cond := .code y_Big_multiplyByTens prog_2_method_11_code 2 none :: zw
abbrev rm_Big_multiplyByTens : Room := { frames := 3, cells := 0, slots := 0, locals := 69 }
theorem hd_Big_multiplyByTens : y_Big_multiplyByTens.cls = "RealText$Big" ∧ y_Big_multiplyByTens.cls ≠ "java/lang/invoke/MethodHandle" ∧ y_Big_multiplyByTens.cls ≠ "java/lang/invoke/VarHandle" ∧ (parseMethodDescriptor y_Big_multiplyByTens.desc).map (fun d => d.parameters.length) = some 1 := by decide +kernel
theorem d_Big_multiplyByTens_0 : decode prog_2_method_11_code 0 = .ok (.aload_n 0, 1) := by decide +kernel
theorem d_Big_multiplyByTens_1 : decode prog_2_method_11_code 1 = .ok (.iload_n 1, 1) := by decide +kernel
theorem d_Big_multiplyByTens_2 : decode prog_2_method_11_code 2 = .ok (.invokevirtual 56, 3) := by decide +kernel
theorem d_Big_multiplyByTens_5 : decode prog_2_method_11_code 5 = .ok (.aload_n 0, 1) := by decide +kernel
theorem d_Big_multiplyByTens_6 : decode prog_2_method_11_code 6 = .ok (.iload_n 1, 1) := by decide +kernel
theorem d_Big_multiplyByTens_7 : decode prog_2_method_11_code 7 = .ok (.invokevirtual 60, 3) := by decide +kernel
theorem d_Big_multiplyByTens_10 : decode prog_2_method_11_code 10 = .ok (.return_, 1) := by decide +kernel
def f_Big_multiplyByTens (fu : Nat) (n_v_limbs : Nat) (x1 : Int32) (v_size : Int32) (v_limbs_a : Nat → Int32) : Option (Int32 × (Nat → Int32)) :=
  (f_Big_multiplyByFives fu n_v_limbs x1 v_size v_limbs_a).bind fun u_1 =>
  (f_Big_shiftLeft fu n_v_limbs x1 u_1.1 u_1.2).bind fun u_2 =>
  some (u_2.1, u_2.2)
set_option maxHeartbeats 4000000 in
set_option maxRecDepth 100000 in
theorem c_Big_multiplyByTens (l : Launch) (dC : Nat → ClassId) (dI : Nat → Nat → Nat) (cI cC cB cJ : ClassId) (adF : Nat → Nat) (tp : Nat) (adK adV : Nat → Nat) (fu : Nat) (sz : Nat) (h_v : Nat) (h_v_limbs : Nat) (n_v_limbs : Nat) (x1 : Int32) (v_size : Int32) (v_limbs_a : Nat → Int32) (u : Int32 × (Nat → Int32)) (hf : f_Big_multiplyByTens fu n_v_limbs x1 v_size v_limbs_a = some u) : Met l y_Big_multiplyByTens ws_Big_multiplyByTens rm_Big_multiplyByTens (zz_P (zx_E adF tp adK adV) (dC, dI) vwCl (zz_tys cI cC cB cJ) [.ref h_v, .int x1] [(h_v, .inr (0, [.ref h_v_limbs, .int v_size])), (h_v_limbs, .inl (cI, n_v_limbs, .inl v_limbs_a))] sz) (zz_Qv (dC, dI) vwCl [(h_v, .inr (0, [.ref h_v_limbs, .int u.1])), (h_v_limbs, .inl (cI, n_v_limbs, .inl u.2))] (va_A [(h_v, .inr (0, [.ref h_v_limbs, .int v_size])), (h_v_limbs, .inl (cI, n_v_limbs, .inl v_limbs_a))] sz)) 0 0 (va_A [(h_v, .inr (0, [.ref h_v_limbs, .int v_size])), (h_v_limbs, .inl (cI, n_v_limbs, .inl v_limbs_a))] sz) := by
  refine Met.ofW (cc := prog_2_method_11_code) (maxL := 2) (ret := none) (by decide +kernel) rfl ?_
  intro p e s m args below meth c s₁ B hml hv
  obtain ⟨rfl, hsz, hP, hK, hD0, hX⟩ := hv
  have hx := B.exec
  have hb := B.bytes
  have hr := B.returns
  have hts := atoms_spec (ws := ws_Big_multiplyByTens) B.pre
  have hw : ∀ w ∈ zw, w.before [.ref h_v, .int x1].toArray s = true := fun w h => hts w (List.mem_cons_of_mem _ h)
  have hown : s.vm.findClass R_Big = some m.cls := findClass_of_methodNamed B.named
  have hlocks := B.notSynchronized
  subst hsz
  have hD := hD0.self (sz := s.heap.size)
  generalize hAe : va_A [(h_v, .inr (0, [.ref h_v_limbs, .int v_size])), (h_v_limbs, .inl (cI, n_v_limbs, .inl v_limbs_a))] s.heap.size = A at hD hX ⊢
  have hA : ∀ q : Nat, s.heap.size ≤ q → A q := fun q h => by rw [← hAe]; exact Or.inr h
  have hS : va_S A s.heap s.heap [] := va_S.rf
  have hl := lv_entry [.ref h_v, .int x1] (n := 2) (Nat.le_of_ble_eq_true rfl)
  rw [lg_entry_eq]
  generalize (lg_sl [.ref h_v, .int x1] ++ List.replicate (2 - (lg_sl [.ref h_v, .int x1]).length) Slot.unset).toArray = ls at hl ⊢
  have hl : lv_has ls 2 [(0, .ref h_v), (1, .int x1)] := hl
  refine zz_endv hx hb hr hlocks (fun Qq hend => ?_)
  unfold f_Big_multiplyByTens at hf
  refine lv_aload_n hx hb d_Big_multiplyByTens_0 rfl (lv_at hl 0 rfl) ?_
  refine lv_iload_n hx hb d_Big_multiplyByTens_1 rfl (lv_at hl 1 rfl) ?_
  obtain ⟨u_1, hu_1, hf⟩ := zz_bd hf
  refine zz_cv (ws' := [(h_v, .inr (0, [.ref h_v_limbs, .int u_1.1])), (h_v_limbs, .inl (cI, n_v_limbs, .inl u_1.2))]) (wc := [(h_v, .inr (0, [.ref h_v_limbs, .int v_size])), (h_v_limbs, .inl (cI, n_v_limbs, .inl v_limbs_a))]) (w' := [(h_v, .inr (0, [.ref h_v_limbs, .int u_1.1])), (h_v_limbs, .inl (cI, n_v_limbs, .inl u_1.2))]) hP hD hS hA [0, 1] [] [0, 1] rfl rfl (by decide) (by decide) rfl (by decide) (va_runV (As := [.int x1]) (rest := []) ⟨hx, hb, hml, hown, hw⟩ (c_Big_multiplyByFives l dC dI cI cC cB cJ adF tp adK adV fu _ h_v h_v_limbs n_v_limbs x1 v_size v_limbs_a u_1 hu_1) (cwV 1 hw (zg_V wd_357 wd_358 wd_359 wd_5 wd_360) rfl rfl rfl hd_Big_multiplyByFives ⟨Nat.le_of_ble_eq_true rfl, Nat.le_of_ble_eq_true rfl⟩) (zz_preV (zx_ok adF tp adK adV) (va_recv (q0 := 0) (ci := 0) hK hP rfl rfl) hP hD hK hS hA hX [0, 1] rfl (by decide)) rfl rfl hl.1 rfl (lv_room (Nat.le_of_ble_eq_true rfl)) d_Big_multiplyByTens_2 ⟨Nat.zero_le _, Nat.zero_le _⟩) (fun H locs hP hD hS => ?_)
  refine lv_aload_n hx hb d_Big_multiplyByTens_5 rfl (lv_at hl 0 rfl) ?_
  refine lv_iload_n hx hb d_Big_multiplyByTens_6 rfl (lv_at hl 1 rfl) ?_
  obtain ⟨u_2, hu_2, hf⟩ := zz_bd hf
  refine zz_cv (ws' := [(h_v, .inr (0, [.ref h_v_limbs, .int u_2.1])), (h_v_limbs, .inl (cI, n_v_limbs, .inl u_2.2))]) (wc := [(h_v, .inr (0, [.ref h_v_limbs, .int u_1.1])), (h_v_limbs, .inl (cI, n_v_limbs, .inl u_1.2))]) (w' := [(h_v, .inr (0, [.ref h_v_limbs, .int u_2.1])), (h_v_limbs, .inl (cI, n_v_limbs, .inl u_2.2))]) hP hD hS hA [0, 1] [] [0, 1] rfl rfl (by decide) (by decide) rfl (by decide) (va_runV (As := [.int x1]) (rest := []) ⟨hx, hb, hml, hown, hw⟩ (c_Big_shiftLeft l dC dI cI cC cB cJ fu _ h_v h_v_limbs n_v_limbs x1 u_1.1 u_1.2 u_2 hu_2) (cwV 1 hw (zg_V wd_370 wd_336 wd_337 wd_5 wd_338) rfl rfl rfl hd_Big_shiftLeft ⟨Nat.le_of_ble_eq_true rfl, Nat.le_of_ble_eq_true rfl⟩) (zz_preV zz_TE (va_recv (q0 := 0) (ci := 0) hK hP rfl rfl) hP hD hK hS hA trivial [0, 1] rfl (by decide)) rfl rfl hl.1 rfl (lv_room (Nat.le_of_ble_eq_true rfl)) d_Big_multiplyByTens_7 ⟨Nat.zero_le _, Nat.zero_le _⟩) (fun H locs hP hD hS => ?_)
  cases hf
  exact hend 10 ls _ _ d_Big_multiplyByTens_10 hP hD hS
