-- what constructors use: arrays of the known kinds, a call that makes cells
section Zn
variable {p : Program} {l : Launch} {e : Env} {R : Room} {s : State} {m : MethodId} {args : Array Value} {below : List Frame} {meth : Method} {c : Code} {H : Heap} {locs : List Loc} {cells slots : Nat} {Q : State → Prop}
variable {D : va_G} {cl : List vw_C} {tys : List (ClassId × FieldType)} {ws wc : va_W} {A : Nat → Prop} {H0 : Heap} {cc : ByteArray} {pc : Nat} {ls : Array Slot} {rest st0 : List Value} {a : Array Value}
theorem zz_newa (hexec : p.tables.exec = Jvm.exec) (hb : c.code = cc) {atype : ArrayType} (harr : (Cond.arrayClass (newarray.typeOf atype)).before args s = true) {ty : FieldType} (hty : newarray.typeOf atype = ty) (hra : ∀ cX : ClassId, va_RA s cX ty → s.vm.findClass ("[" ++ ty.toString) = some cX) (hK : va_K D cl tys s) (t0 : Nat) {cT : ClassId} (ht : tys[t0]? = some (cT, ty)) (hP : va_P D cl ws H) (hD : va_D A ws) (hS : va_S A H0 H locs) (hA : ∀ q, H0.size ≤ q → A q)
    {n : Int32} {N' : Nat} {a0 : vp_A} (ha : ∀ cA : ClassId, vp_cell cA a0 = arrV cA N' (fun _ => defaultValue ty)) (hn : ¬ n < 0) (hN : n.toNatClampNeg = N') (hbytes : N' * componentBytes ty ≤ 536870912) (hcells : cells + 1 ≤ R.cells) (hslots : slots + N' ≤ R.slots) (hdg : decode cc pc = .ok (.newarray atype, 2))
    (kk : ∀ (q : Nat) (H1 : Heap), va_P D cl (ws ++ [(q, .inl (cT, a0))]) H1 → va_D A (ws ++ [(q, .inl (cT, a0))]) → va_S A H0 H1 locs →
      W p l e R s m args below meth c H1 locs (cells + 1) (slots + N') Q (F0 m (pc + 2) ls (.ref q :: rest))) : W p l e R s m args below meth c H locs cells slots Q (F0 m pc ls (.int n :: rest)) := by
  refine va_newa hexec hb harr hty hK hP hD hS hA ha hn hN hbytes hcells hslots hdg (fun q cA H1 hK1 hP1 hD1 hS1 => ?_)
  have e1 := hra cA (hK1.2 tys.length (cA, ty) (by simp)).2
  have e2 := hra cT (hK.2 t0 _ ht).2
  have e3 : cA = cT := Option.some.inj (e1.symm.trans e2)
  subst e3
  exact kk q H1 hP1 hD1 hS1
theorem zz_cn {S : Type} {w' ws' : S → va_W} {mc ms : Nat} (hP : va_P D cl ws H) (hD : va_D A ws) (hS : va_S A s.heap H locs) (hA : ∀ q, s.heap.size ≤ q → A q) (isC isR perm : List Nat) (hC : isC.map (fun i => ws[i]?) = wc.map some) (hR : isR.map (fun i => ws[i]?) = (isR.filterMap (fun i => ws[i]?)).map some) (hn : va_nd isR = true) (hdis : ∀ i ∈ isR, i ∉ isC)
    (hp : ∀ u : S, perm.map (fun i => (isR.filterMap (fun i => ws[i]?) ++ w' u)[i]?) = (ws' u).map some) (hpn : va_nd perm = true) (hr : va_Run p l e R s m args below meth c H locs cells slots mc ms (F0 m pc ls st0) rest (va_Qv (S := S) (fun _ => True) (fun u t => zz_B D cl (va_A wc H.size) (w' u) t) (va_A wc H.size) a) (va_A wc H.size))
    (kk : ∀ (u : S) (H1 : Heap) (locs1 : List Loc), va_P D cl (ws' u) H1 → va_D A (ws' u) → va_S A s.heap H1 locs1 → W p l e R s m args below meth c H1 locs1 (cells + mc) (slots + ms) Q (F0 m (pc + 3) ls rest)) : W p l e R s m args below meth c H locs cells slots Q (F0 m pc ls st0) := by
  have hF := va_free hD hS hA isC hC
  refine va_callv hr hS (fun q _ h => hF q h) hF (fun u t H1 locs1 ht hvm hw hB hz1 hk1 hS1 => ?_)
  have hB1 : va_P D cl (w' u) H1 := by rw [← ht]; exact hB.1
  obtain ⟨g1, g2⟩ := zz_back hP hD hS hA isC isR perm hC hR hn hdis (hp u) hpn hk1 hB1 hB.2
  exact kk u H1 locs1 g1 g2 hS1
end Zn
theorem zg_C {n : Nat} {y : MethodName} {c : ByteArray} {r : Option FieldType} (h5 : Cond.code y c n r ∈ zw) : GoodIn zw (.code y c n r :: zw) := by
  intro w hw
  have hm : w ∈ zw := by
    rcases List.mem_cons.mp hw with rfl | hw
    · exact h5
    · exact hw
  exact ⟨hm, zw_good w hm⟩
abbrev ws_Row_init : List Cond := .code y_Row_init prog_7_method_1_code 2 none :: zw
abbrev rm_Row_init (n : Nat) : Room := { frames := 1, cells := 1, slots := n, locals := 20 }
theorem hd_Row_init : y_Row_init.cls ≠ "java/lang/invoke/MethodHandle" ∧ y_Row_init.cls ≠ "java/lang/invoke/VarHandle" ∧ (parseMethodDescriptor y_Row_init.desc).map (fun d => d.parameters.length) = some 1 := by decide +kernel
theorem d_Row_init_0 : decode prog_7_method_1_code 0 = .ok (.aload_n 0, 1) := by decide +kernel
theorem d_Row_init_1 : decode prog_7_method_1_code 1 = .ok (.invokespecial 1, 3) := by decide +kernel
theorem d_Row_init_4 : decode prog_7_method_1_code 4 = .ok (.aload_n 0, 1) := by decide +kernel
theorem d_Row_init_5 : decode prog_7_method_1_code 5 = .ok (.iload_n 1, 1) := by decide +kernel
theorem d_Row_init_6 : decode prog_7_method_1_code 6 = .ok (.newarray .char, 2) := by decide +kernel
theorem d_Row_init_8 : decode prog_7_method_1_code 8 = .ok (.putfield 7, 3) := by decide +kernel
theorem d_Row_init_11 : decode prog_7_method_1_code 11 = .ok (.return_, 1) := by decide +kernel
set_option maxHeartbeats 4000000 in
set_option maxRecDepth 100000 in
theorem c_Row_init (l : Launch) (dC : Nat → ClassId) (dI : Nat → Nat → Nat) (cI cC cB cJ : ClassId) (sz : Nat) (h : Nat) (n : Nat) (hn : n < 4000) : Met l y_Row_init ws_Row_init (rm_Row_init n) (zz_P zz_T (dC, dI) vwCl (zz_tys cI cC cB cJ) [.ref h, .int (nI n)] [(h, .inr (4, [.null, .int 0, .int 0]))] sz) (va_Qv (S := Nat) (fun _ => True) (fun u t => zz_B (dC, dI) vwCl (va_A [(h, .inr (4, [.null, .int 0, .int 0]))] sz) [(h, .inr (4, [.ref u, .int 0, .int 0])), (u, .inl (cC, n, .inl (fun _ => 0)))] t) (va_A [(h, .inr (4, [.null, .int 0, .int 0]))] sz)) 1 (n) (va_A [(h, .inr (4, [.null, .int 0, .int 0]))] sz) := by
  refine Met.ofW (cc := prog_7_method_1_code) (maxL := 2) (ret := none) (by decide +kernel) rfl ?_
  intro p e s m args below meth c s₁ B hml hv
  obtain ⟨rfl, hsz, hP, hK, hD0, hX⟩ := hv
  have hx := B.exec
  have hb := B.bytes
  have hr := B.returns
  have hts := atoms_spec (ws := ws_Row_init) B.pre
  have hw : ∀ w ∈ zw, w.before [.ref h, .int (nI n)].toArray s = true := fun w h => hts w (List.mem_cons_of_mem _ h)
  have hown : s.vm.findClass R_Row = some m.cls := findClass_of_methodNamed B.named
  have hlocks := B.notSynchronized
  have hin : meth.name = "<init>" := (name_of_methodNamed B.named B.method).1
  subst hsz
  have hD := hD0.self (sz := s.heap.size)
  generalize hAe : va_A [(h, .inr (4, [.null, .int 0, .int 0]))] s.heap.size = A at hD hX ⊢
  have hA : ∀ q : Nat, s.heap.size ≤ q → A q := fun q h => by rw [← hAe]; exact Or.inr h
  have hS : va_S A s.heap s.heap [] := va_S.rf
  have hl := lv_entry [.ref h, .int (nI n)] (n := 2) (Nat.le_of_ble_eq_true rfl)
  rw [lg_entry_eq]
  generalize (lg_sl [.ref h, .int (nI n)] ++ List.replicate (2 - (lg_sl [.ref h, .int (nI n)]).length) Slot.unset).toArray = ls at hl ⊢
  have hl : lv_has ls 2 [(0, .ref h), (1, .int (nI n))] := hl
  refine lv_aload_n hx hb d_Row_init_0 rfl (lv_at hl 0 rfl) ?_
  refine W.objInit hx hb hown (hw _ wd_36) (hw _ wd_29) (hw _ wd_30) rfl (by rw [hml]; exact hl.1) rfl d_Row_init_1 (Nat.le_of_ble_eq_true rfl) (Nat.le_of_ble_eq_true rfl) ?_
  refine W.eq (g2 := F0 m 4 ls []) rfl ?_
  refine lv_aload_n hx hb d_Row_init_4 rfl (lv_at hl 0 rfl) ?_
  refine lv_iload_n hx hb d_Row_init_5 rfl (lv_at hl 1 rfl) ?_
  have hsl : 0 + n ≤ n := by omega
  refine zz_newa (atype := .char) (ty := .char) (N' := n) (a0 := (n, .inl (fun _ => 0))) hx hb (hw _ wd_47) rfl (fun _ h => h) hK 1 rfl hP hD hS hA (fun _ => rfl) (nI_pos (by omega)) (nI_clamp (by omega)) (by show n * 2 ≤ 536870912; omega) (Nat.le_of_ble_eq_true rfl) hsl d_Row_init_6 (fun q6 H hP hD hS => ?_)
  have hP : va_P (dC, dI) vwCl [(h, .inr (4, [.null, .int 0, .int 0])), (q6, .inl (cC, n, .inl (fun _ => 0)))] H := hP
  have hD : va_D A [(h, .inr (4, [.null, .int 0, .int 0])), (q6, .inl (cC, n, .inl (fun _ => 0)))] := hD
  refine va_putF (D := (dC, dI)) (ci := 4) (v := .ref q6) (ty := .array .char) (C := R_Row) (T := T_Row) (N := 3) hx hb hw in_Row ty_Row tyok_Row nm_Row hown hK hP hD hS 0 rfl rfl 0 (by decide) (hw _ wd_37) (fun _ h9 => h9) rfl hin rfl (tyok_Row 0 (by decide)) rfl rfl (Nat.le_of_ble_eq_true rfl) d_Row_init_8 (fun H locs hP hD hS => ?_)
  have hP : va_P (dC, dI) vwCl [(h, .inr (4, [.ref q6, .int 0, .int 0])), (q6, .inl (cC, n, .inl (fun _ => 0)))] H := hP
  have hD : va_D A [(h, .inr (4, [.ref q6, .int 0, .int 0])), (q6, .inl (cC, n, .inl (fun _ => 0)))] := hD
  refine W.widen (k := 1) (n := n) (by omega) (by omega) ?_
  exact W.vret hx hb hr (fun t ht hW => ⟨⟨(q6), rfl, trivial, by rw [ht]; exact hP, hD⟩, hS.F ht⟩) hS.2.2 d_Row_init_11
abbrev ws_Big_init : List Cond := .code y_Big_init prog_2_method_1_code 2 none :: zw
abbrev rm_Big_init (n : Nat) : Room := { frames := 1, cells := 1, slots := n, locals := 20 }
theorem hd_Big_init : y_Big_init.cls ≠ "java/lang/invoke/MethodHandle" ∧ y_Big_init.cls ≠ "java/lang/invoke/VarHandle" ∧ (parseMethodDescriptor y_Big_init.desc).map (fun d => d.parameters.length) = some 1 := by decide +kernel
theorem d_Big_init_0 : decode prog_2_method_1_code 0 = .ok (.aload_n 0, 1) := by decide +kernel
theorem d_Big_init_1 : decode prog_2_method_1_code 1 = .ok (.invokespecial 1, 3) := by decide +kernel
theorem d_Big_init_4 : decode prog_2_method_1_code 4 = .ok (.aload_n 0, 1) := by decide +kernel
theorem d_Big_init_5 : decode prog_2_method_1_code 5 = .ok (.iload_n 1, 1) := by decide +kernel
theorem d_Big_init_6 : decode prog_2_method_1_code 6 = .ok (.newarray .int, 2) := by decide +kernel
theorem d_Big_init_8 : decode prog_2_method_1_code 8 = .ok (.putfield 7, 3) := by decide +kernel
theorem d_Big_init_11 : decode prog_2_method_1_code 11 = .ok (.return_, 1) := by decide +kernel
set_option maxHeartbeats 4000000 in
set_option maxRecDepth 100000 in
theorem c_Big_init (l : Launch) (dC : Nat → ClassId) (dI : Nat → Nat → Nat) (cI cC cB cJ : ClassId) (sz : Nat) (h : Nat) (n : Nat) (hn : n < 4000) : Met l y_Big_init ws_Big_init (rm_Big_init n) (zz_P zz_T (dC, dI) vwCl (zz_tys cI cC cB cJ) [.ref h, .int (nI n)] [(h, .inr (0, [.null, .int 0]))] sz) (va_Qv (S := Nat) (fun _ => True) (fun u t => zz_B (dC, dI) vwCl (va_A [(h, .inr (0, [.null, .int 0]))] sz) [(h, .inr (0, [.ref u, .int 0])), (u, .inl (cI, n, .inl (fun _ => 0)))] t) (va_A [(h, .inr (0, [.null, .int 0]))] sz)) 1 (n) (va_A [(h, .inr (0, [.null, .int 0]))] sz) := by
  refine Met.ofW (cc := prog_2_method_1_code) (maxL := 2) (ret := none) (by decide +kernel) rfl ?_
  intro p e s m args below meth c s₁ B hml hv
  obtain ⟨rfl, hsz, hP, hK, hD0, hX⟩ := hv
  have hx := B.exec
  have hb := B.bytes
  have hr := B.returns
  have hts := atoms_spec (ws := ws_Big_init) B.pre
  have hw : ∀ w ∈ zw, w.before [.ref h, .int (nI n)].toArray s = true := fun w h => hts w (List.mem_cons_of_mem _ h)
  have hown : s.vm.findClass R_Big = some m.cls := findClass_of_methodNamed B.named
  have hlocks := B.notSynchronized
  have hin : meth.name = "<init>" := (name_of_methodNamed B.named B.method).1
  subst hsz
  have hD := hD0.self (sz := s.heap.size)
  generalize hAe : va_A [(h, .inr (0, [.null, .int 0]))] s.heap.size = A at hD hX ⊢
  have hA : ∀ q : Nat, s.heap.size ≤ q → A q := fun q h => by rw [← hAe]; exact Or.inr h
  have hS : va_S A s.heap s.heap [] := va_S.rf
  have hl := lv_entry [.ref h, .int (nI n)] (n := 2) (Nat.le_of_ble_eq_true rfl)
  rw [lg_entry_eq]
  generalize (lg_sl [.ref h, .int (nI n)] ++ List.replicate (2 - (lg_sl [.ref h, .int (nI n)]).length) Slot.unset).toArray = ls at hl ⊢
  have hl : lv_has ls 2 [(0, .ref h), (1, .int (nI n))] := hl
  refine lv_aload_n hx hb d_Big_init_0 rfl (lv_at hl 0 rfl) ?_
  refine W.objInit hx hb hown (hw _ wd_89) (hw _ wd_29) (hw _ wd_30) rfl (by rw [hml]; exact hl.1) rfl d_Big_init_1 (Nat.le_of_ble_eq_true rfl) (Nat.le_of_ble_eq_true rfl) ?_
  refine W.eq (g2 := F0 m 4 ls []) rfl ?_
  refine lv_aload_n hx hb d_Big_init_4 rfl (lv_at hl 0 rfl) ?_
  refine lv_iload_n hx hb d_Big_init_5 rfl (lv_at hl 1 rfl) ?_
  have hsl : 0 + n ≤ n := by omega
  refine zz_newa (atype := .int) (ty := .int) (N' := n) (a0 := (n, .inl (fun _ => 0))) hx hb (hw _ wd_97) rfl (fun _ h => h) hK 0 rfl hP hD hS hA (fun _ => rfl) (nI_pos (by omega)) (nI_clamp (by omega)) (by show n * 4 ≤ 536870912; omega) (Nat.le_of_ble_eq_true rfl) hsl d_Big_init_6 (fun q6 H hP hD hS => ?_)
  have hP : va_P (dC, dI) vwCl [(h, .inr (0, [.null, .int 0])), (q6, .inl (cI, n, .inl (fun _ => 0)))] H := hP
  have hD : va_D A [(h, .inr (0, [.null, .int 0])), (q6, .inl (cI, n, .inl (fun _ => 0)))] := hD
  refine va_putF (D := (dC, dI)) (ci := 0) (v := .ref q6) (ty := .array .int) (C := R_Big) (T := T_Big) (N := 2) hx hb hw in_Big ty_Big tyok_Big nm_Big hown hK hP hD hS 0 rfl rfl 0 (by decide) (hw _ wd_90) (fun _ h9 => h9) rfl hin rfl (tyok_Big 0 (by decide)) rfl rfl (Nat.le_of_ble_eq_true rfl) d_Big_init_8 (fun H locs hP hD hS => ?_)
  have hP : va_P (dC, dI) vwCl [(h, .inr (0, [.ref q6, .int 0])), (q6, .inl (cI, n, .inl (fun _ => 0)))] H := hP
  have hD : va_D A [(h, .inr (0, [.ref q6, .int 0])), (q6, .inl (cI, n, .inl (fun _ => 0)))] := hD
  refine W.widen (k := 1) (n := n) (by omega) (by omega) ?_
  exact W.vret hx hb hr (fun t ht hW => ⟨⟨(q6), rfl, trivial, by rw [ht]; exact hP, hD⟩, hS.F ht⟩) hS.2.2 d_Big_init_11
abbrev ws_Lit_init : List Cond := .code y_Lit_init prog_5_method_1_code 1 none :: zw
abbrev rm_Lit_init : Room := { frames := 1, cells := 1, slots := 1200, locals := 20 }
theorem hd_Lit_init : y_Lit_init.cls ≠ "java/lang/invoke/MethodHandle" ∧ y_Lit_init.cls ≠ "java/lang/invoke/VarHandle" ∧ (parseMethodDescriptor y_Lit_init.desc).map (fun d => d.parameters.length) = some 0 := by decide +kernel
theorem d_Lit_init_0 : decode prog_5_method_1_code 0 = .ok (.aload_n 0, 1) := by decide +kernel
theorem d_Lit_init_1 : decode prog_5_method_1_code 1 = .ok (.invokespecial 3, 3) := by decide +kernel
theorem d_Lit_init_4 : decode prog_5_method_1_code 4 = .ok (.aload_n 0, 1) := by decide +kernel
theorem d_Lit_init_5 : decode prog_5_method_1_code 5 = .ok (.sipush 1200, 3) := by decide +kernel
theorem d_Lit_init_8 : decode prog_5_method_1_code 8 = .ok (.newarray .byte, 2) := by decide +kernel
theorem d_Lit_init_10 : decode prog_5_method_1_code 10 = .ok (.putfield 9, 3) := by decide +kernel
theorem d_Lit_init_13 : decode prog_5_method_1_code 13 = .ok (.return_, 1) := by decide +kernel
set_option maxHeartbeats 4000000 in
set_option maxRecDepth 100000 in
theorem c_Lit_init (l : Launch) (dC : Nat → ClassId) (dI : Nat → Nat → Nat) (cI cC cB cJ : ClassId) (sz : Nat) (h : Nat) : Met l y_Lit_init ws_Lit_init rm_Lit_init (zz_P zz_T (dC, dI) vwCl (zz_tys cI cC cB cJ) [.ref h] [(h, .inr (2, [.null, .int 0, .int 0, .int 0, .int 0]))] sz) (va_Qv (S := Nat) (fun _ => True) (fun u t => zz_B (dC, dI) vwCl (va_A [(h, .inr (2, [.null, .int 0, .int 0, .int 0, .int 0]))] sz) [(h, .inr (2, [.ref u, .int 0, .int 0, .int 0, .int 0])), (u, .inl (cB, 1200, .inl (fun _ => 0)))] t) (va_A [(h, .inr (2, [.null, .int 0, .int 0, .int 0, .int 0]))] sz)) 1 (1200) (va_A [(h, .inr (2, [.null, .int 0, .int 0, .int 0, .int 0]))] sz) := by
  refine Met.ofW (cc := prog_5_method_1_code) (maxL := 1) (ret := none) (by decide +kernel) rfl ?_
  intro p e s m args below meth c s₁ B hml hv
  obtain ⟨rfl, hsz, hP, hK, hD0, hX⟩ := hv
  have hx := B.exec
  have hb := B.bytes
  have hr := B.returns
  have hts := atoms_spec (ws := ws_Lit_init) B.pre
  have hw : ∀ w ∈ zw, w.before [.ref h].toArray s = true := fun w h => hts w (List.mem_cons_of_mem _ h)
  have hown : s.vm.findClass R_Lit = some m.cls := findClass_of_methodNamed B.named
  have hlocks := B.notSynchronized
  have hin : meth.name = "<init>" := (name_of_methodNamed B.named B.method).1
  subst hsz
  have hD := hD0.self (sz := s.heap.size)
  generalize hAe : va_A [(h, .inr (2, [.null, .int 0, .int 0, .int 0, .int 0]))] s.heap.size = A at hD hX ⊢
  have hA : ∀ q : Nat, s.heap.size ≤ q → A q := fun q h => by rw [← hAe]; exact Or.inr h
  have hS : va_S A s.heap s.heap [] := va_S.rf
  have hl := lv_entry [.ref h] (n := 1) (Nat.le_of_ble_eq_true rfl)
  rw [lg_entry_eq]
  generalize (lg_sl [.ref h] ++ List.replicate (1 - (lg_sl [.ref h]).length) Slot.unset).toArray = ls at hl ⊢
  have hl : lv_has ls 1 [(0, .ref h)] := hl
  refine lv_aload_n hx hb d_Lit_init_0 rfl (lv_at hl 0 rfl) ?_
  refine W.objInit hx hb hown (hw _ wd_53) (hw _ wd_29) (hw _ wd_30) rfl (by rw [hml]; exact hl.1) rfl d_Lit_init_1 (Nat.le_of_ble_eq_true rfl) (Nat.le_of_ble_eq_true rfl) ?_
  refine W.eq (g2 := F0 m 4 ls []) rfl ?_
  refine lv_aload_n hx hb d_Lit_init_4 rfl (lv_at hl 0 rfl) ?_
  refine lv_sipush (v := 1200) hx hb d_Lit_init_5 (by decide) ?_
  have hsl : 0 + 1200 ≤ 1200 := by omega
  refine zz_newa (atype := .byte) (ty := .byte) (N' := 1200) (a0 := (1200, .inl (fun _ => 0))) hx hb (hw _ wd_77) rfl (fun _ h => h) hK 2 rfl hP hD hS hA (fun _ => rfl) (nI_pos (n := 1200) (by decide)) (nI_clamp (n := 1200) (by decide)) (Nat.le_of_ble_eq_true rfl) (Nat.le_of_ble_eq_true rfl) hsl d_Lit_init_8 (fun q8 H hP hD hS => ?_)
  have hP : va_P (dC, dI) vwCl [(h, .inr (2, [.null, .int 0, .int 0, .int 0, .int 0])), (q8, .inl (cB, 1200, .inl (fun _ => 0)))] H := hP
  have hD : va_D A [(h, .inr (2, [.null, .int 0, .int 0, .int 0, .int 0])), (q8, .inl (cB, 1200, .inl (fun _ => 0)))] := hD
  refine va_putF (D := (dC, dI)) (ci := 2) (v := .ref q8) (ty := .array .byte) (C := R_Lit) (T := T_Lit) (N := 5) hx hb hw in_Lit ty_Lit tyok_Lit nm_Lit hown hK hP hD hS 0 rfl rfl 0 (by decide) (hw _ wd_54) (fun _ h9 => h9) rfl hin rfl (tyok_Lit 0 (by decide)) rfl rfl (Nat.le_of_ble_eq_true rfl) d_Lit_init_10 (fun H locs hP hD hS => ?_)
  have hP : va_P (dC, dI) vwCl [(h, .inr (2, [.ref q8, .int 0, .int 0, .int 0, .int 0])), (q8, .inl (cB, 1200, .inl (fun _ => 0)))] H := hP
  have hD : va_D A [(h, .inr (2, [.ref q8, .int 0, .int 0, .int 0, .int 0])), (q8, .inl (cB, 1200, .inl (fun _ => 0)))] := hD
  refine W.widen (k := 1) (n := 1200) (by omega) (by omega) ?_
  exact W.vret hx hb hr (fun t ht hW => ⟨⟨(q8), rfl, trivial, by rw [ht]; exact hP, hD⟩, hS.F ht⟩) hS.2.2 d_Lit_init_13
abbrev ws_Dec_init : List Cond := .code y_Dec_init prog_3_method_1_code 1 none :: zw
abbrev rm_Dec_init : Room := { frames := 1, cells := 1, slots := 20, locals := 20 }
theorem hd_Dec_init : y_Dec_init.cls ≠ "java/lang/invoke/MethodHandle" ∧ y_Dec_init.cls ≠ "java/lang/invoke/VarHandle" ∧ (parseMethodDescriptor y_Dec_init.desc).map (fun d => d.parameters.length) = some 0 := by decide +kernel
theorem d_Dec_init_0 : decode prog_3_method_1_code 0 = .ok (.aload_n 0, 1) := by decide +kernel
theorem d_Dec_init_1 : decode prog_3_method_1_code 1 = .ok (.invokespecial 1, 3) := by decide +kernel
theorem d_Dec_init_4 : decode prog_3_method_1_code 4 = .ok (.aload_n 0, 1) := by decide +kernel
theorem d_Dec_init_5 : decode prog_3_method_1_code 5 = .ok (.bipush 20, 2) := by decide +kernel
theorem d_Dec_init_7 : decode prog_3_method_1_code 7 = .ok (.newarray .byte, 2) := by decide +kernel
theorem d_Dec_init_9 : decode prog_3_method_1_code 9 = .ok (.putfield 9, 3) := by decide +kernel
theorem d_Dec_init_12 : decode prog_3_method_1_code 12 = .ok (.return_, 1) := by decide +kernel
set_option maxHeartbeats 4000000 in
set_option maxRecDepth 100000 in
theorem c_Dec_init (l : Launch) (dC : Nat → ClassId) (dI : Nat → Nat → Nat) (cI cC cB cJ : ClassId) (sz : Nat) (h : Nat) : Met l y_Dec_init ws_Dec_init rm_Dec_init (zz_P zz_T (dC, dI) vwCl (zz_tys cI cC cB cJ) [.ref h] [(h, .inr (1, [.null, .int 0, .int 0]))] sz) (va_Qv (S := Nat) (fun _ => True) (fun u t => zz_B (dC, dI) vwCl (va_A [(h, .inr (1, [.null, .int 0, .int 0]))] sz) [(h, .inr (1, [.ref u, .int 0, .int 0])), (u, .inl (cB, 20, .inl (fun _ => 0)))] t) (va_A [(h, .inr (1, [.null, .int 0, .int 0]))] sz)) 1 (20) (va_A [(h, .inr (1, [.null, .int 0, .int 0]))] sz) := by
  refine Met.ofW (cc := prog_3_method_1_code) (maxL := 1) (ret := none) (by decide +kernel) rfl ?_
  intro p e s m args below meth c s₁ B hml hv
  obtain ⟨rfl, hsz, hP, hK, hD0, hX⟩ := hv
  have hx := B.exec
  have hb := B.bytes
  have hr := B.returns
  have hts := atoms_spec (ws := ws_Dec_init) B.pre
  have hw : ∀ w ∈ zw, w.before [.ref h].toArray s = true := fun w h => hts w (List.mem_cons_of_mem _ h)
  have hown : s.vm.findClass R_Dec = some m.cls := findClass_of_methodNamed B.named
  have hlocks := B.notSynchronized
  have hin : meth.name = "<init>" := (name_of_methodNamed B.named B.method).1
  subst hsz
  have hD := hD0.self (sz := s.heap.size)
  generalize hAe : va_A [(h, .inr (1, [.null, .int 0, .int 0]))] s.heap.size = A at hD hX ⊢
  have hA : ∀ q : Nat, s.heap.size ≤ q → A q := fun q h => by rw [← hAe]; exact Or.inr h
  have hS : va_S A s.heap s.heap [] := va_S.rf
  have hl := lv_entry [.ref h] (n := 1) (Nat.le_of_ble_eq_true rfl)
  rw [lg_entry_eq]
  generalize (lg_sl [.ref h] ++ List.replicate (1 - (lg_sl [.ref h]).length) Slot.unset).toArray = ls at hl ⊢
  have hl : lv_has ls 1 [(0, .ref h)] := hl
  refine lv_aload_n hx hb d_Dec_init_0 rfl (lv_at hl 0 rfl) ?_
  refine W.objInit hx hb hown (hw _ wd_157) (hw _ wd_29) (hw _ wd_30) rfl (by rw [hml]; exact hl.1) rfl d_Dec_init_1 (Nat.le_of_ble_eq_true rfl) (Nat.le_of_ble_eq_true rfl) ?_
  refine W.eq (g2 := F0 m 4 ls []) rfl ?_
  refine lv_aload_n hx hb d_Dec_init_4 rfl (lv_at hl 0 rfl) ?_
  refine lv_bipush (v := 20) hx hb d_Dec_init_5 (by decide) ?_
  have hsl : 0 + 20 ≤ 20 := by omega
  refine zz_newa (atype := .byte) (ty := .byte) (N' := 20) (a0 := (20, .inl (fun _ => 0))) hx hb (hw _ wd_77) rfl (fun _ h => h) hK 2 rfl hP hD hS hA (fun _ => rfl) (nI_pos (n := 20) (by decide)) (nI_clamp (n := 20) (by decide)) (Nat.le_of_ble_eq_true rfl) (Nat.le_of_ble_eq_true rfl) hsl d_Dec_init_7 (fun q7 H hP hD hS => ?_)
  have hP : va_P (dC, dI) vwCl [(h, .inr (1, [.null, .int 0, .int 0])), (q7, .inl (cB, 20, .inl (fun _ => 0)))] H := hP
  have hD : va_D A [(h, .inr (1, [.null, .int 0, .int 0])), (q7, .inl (cB, 20, .inl (fun _ => 0)))] := hD
  refine va_putF (D := (dC, dI)) (ci := 1) (v := .ref q7) (ty := .array .byte) (C := R_Dec) (T := T_Dec) (N := 3) hx hb hw in_Dec ty_Dec tyok_Dec nm_Dec hown hK hP hD hS 0 rfl rfl 0 (by decide) (hw _ wd_158) (fun _ h9 => h9) rfl hin rfl (tyok_Dec 0 (by decide)) rfl rfl (Nat.le_of_ble_eq_true rfl) d_Dec_init_9 (fun H locs hP hD hS => ?_)
  have hP : va_P (dC, dI) vwCl [(h, .inr (1, [.ref q7, .int 0, .int 0])), (q7, .inl (cB, 20, .inl (fun _ => 0)))] H := hP
  have hD : va_D A [(h, .inr (1, [.ref q7, .int 0, .int 0])), (q7, .inl (cB, 20, .inl (fun _ => 0)))] := hD
  refine W.widen (k := 1) (n := 20) (by omega) (by omega) ?_
  exact W.vret hx hb hr (fun t ht hW => ⟨⟨(q7), rfl, trivial, by rw [ht]; exact hP, hD⟩, hS.F ht⟩) hS.2.2 d_Dec_init_12
abbrev ws_Quo_init : List Cond := .code y_Quo_init prog_6_method_1_code 1 none :: zw
abbrev rm_Quo_init : Room := { frames := 2, cells := 4, slots := 260, locals := 41 }
theorem hd_Quo_init : y_Quo_init.cls ≠ "java/lang/invoke/MethodHandle" ∧ y_Quo_init.cls ≠ "java/lang/invoke/VarHandle" ∧ (parseMethodDescriptor y_Quo_init.desc).map (fun d => d.parameters.length) = some 0 := by decide +kernel
theorem d_Quo_init_0 : decode prog_6_method_1_code 0 = .ok (.aload_n 0, 1) := by decide +kernel
theorem d_Quo_init_1 : decode prog_6_method_1_code 1 = .ok (.invokespecial 1, 3) := by decide +kernel
theorem d_Quo_init_4 : decode prog_6_method_1_code 4 = .ok (.aload_n 0, 1) := by decide +kernel
theorem d_Quo_init_5 : decode prog_6_method_1_code 5 = .ok (.new 7, 3) := by decide +kernel
theorem d_Quo_init_8 : decode prog_6_method_1_code 8 = .ok (.dup, 1) := by decide +kernel
theorem d_Quo_init_9 : decode prog_6_method_1_code 9 = .ok (.sipush 128, 3) := by decide +kernel
theorem d_Quo_init_12 : decode prog_6_method_1_code 12 = .ok (.invokespecial 11, 3) := by decide +kernel
theorem d_Quo_init_15 : decode prog_6_method_1_code 15 = .ok (.putfield 14, 3) := by decide +kernel
theorem d_Quo_init_18 : decode prog_6_method_1_code 18 = .ok (.aload_n 0, 1) := by decide +kernel
theorem d_Quo_init_19 : decode prog_6_method_1_code 19 = .ok (.new 7, 3) := by decide +kernel
theorem d_Quo_init_22 : decode prog_6_method_1_code 22 = .ok (.dup, 1) := by decide +kernel
theorem d_Quo_init_23 : decode prog_6_method_1_code 23 = .ok (.sipush 128, 3) := by decide +kernel
theorem d_Quo_init_26 : decode prog_6_method_1_code 26 = .ok (.invokespecial 11, 3) := by decide +kernel
theorem d_Quo_init_29 : decode prog_6_method_1_code 29 = .ok (.putfield 18, 3) := by decide +kernel
theorem d_Quo_init_32 : decode prog_6_method_1_code 32 = .ok (.return_, 1) := by decide +kernel
set_option maxHeartbeats 4000000 in
set_option maxRecDepth 100000 in
theorem c_Quo_init (l : Launch) (dC : Nat → ClassId) (dI : Nat → Nat → Nat) (cI cC cB cJ : ClassId) (sz : Nat) (h : Nat) : Met l y_Quo_init ws_Quo_init rm_Quo_init (zz_P zz_T (dC, dI) vwCl (zz_tys cI cC cB cJ) [.ref h] [(h, .inr (3, [.null, .null, .long 0, .int 0, .int 0]))] sz) (va_Qv (S := Nat × Nat × Nat × Nat) (fun _ => True) (fun u t => zz_B (dC, dI) vwCl (va_A [(h, .inr (3, [.null, .null, .long 0, .int 0, .int 0]))] sz) [(h, .inr (3, [.ref u.1, .ref u.2.2.1, .long 0, .int 0, .int 0])), (u.1, .inr (0, [.ref u.2.1, .int 0])), (u.2.1, .inl (cI, 128, .inl (fun _ => 0))), (u.2.2.1, .inr (0, [.ref u.2.2.2, .int 0])), (u.2.2.2, .inl (cI, 128, .inl (fun _ => 0)))] t) (va_A [(h, .inr (3, [.null, .null, .long 0, .int 0, .int 0]))] sz)) 4 (260) (va_A [(h, .inr (3, [.null, .null, .long 0, .int 0, .int 0]))] sz) := by
  refine Met.ofW (cc := prog_6_method_1_code) (maxL := 1) (ret := none) (by decide +kernel) rfl ?_
  intro p e s m args below meth c s₁ B hml hv
  obtain ⟨rfl, hsz, hP, hK, hD0, hX⟩ := hv
  have hx := B.exec
  have hb := B.bytes
  have hr := B.returns
  have hts := atoms_spec (ws := ws_Quo_init) B.pre
  have hw : ∀ w ∈ zw, w.before [.ref h].toArray s = true := fun w h => hts w (List.mem_cons_of_mem _ h)
  have hown : s.vm.findClass R_Quo = some m.cls := findClass_of_methodNamed B.named
  have hlocks := B.notSynchronized
  have hin : meth.name = "<init>" := (name_of_methodNamed B.named B.method).1
  subst hsz
  have hD := hD0.self (sz := s.heap.size)
  generalize hAe : va_A [(h, .inr (3, [.null, .null, .long 0, .int 0, .int 0]))] s.heap.size = A at hD hX ⊢
  have hA : ∀ q : Nat, s.heap.size ≤ q → A q := fun q h => by rw [← hAe]; exact Or.inr h
  have hS : va_S A s.heap s.heap [] := va_S.rf
  have hl := lv_entry [.ref h] (n := 1) (Nat.le_of_ble_eq_true rfl)
  rw [lg_entry_eq]
  generalize (lg_sl [.ref h] ++ List.replicate (1 - (lg_sl [.ref h]).length) Slot.unset).toArray = ls at hl ⊢
  have hl : lv_has ls 1 [(0, .ref h)] := hl
  refine lv_aload_n hx hb d_Quo_init_0 rfl (lv_at hl 0 rfl) ?_
  refine W.objInit hx hb hown (hw _ wd_83) (hw _ wd_29) (hw _ wd_30) rfl (by rw [hml]; exact hl.1) rfl d_Quo_init_1 (Nat.le_of_ble_eq_true rfl) (Nat.le_of_ble_eq_true rfl) ?_
  refine W.eq (g2 := F0 m 4 ls []) rfl ?_
  refine lv_aload_n hx hb d_Quo_init_4 rfl (lv_at hl 0 rfl) ?_
  have hsl : 0 + 2 ≤ 260 := by omega
  refine va_new (ci := 0) (fs := [.null, .int 0]) (C := R_Big) (T := T_Big) (N := 2) hx hb hw in_Big ty_Big tyok_Big hown (hw _ wd_84) (hw _ wd_85) (hw _ wd_5) hK hP hD hS hA rfl (fun j hj => by rcases (show j = 0 ∨ j = 1 by omega) with rfl | rfl <;> rfl) (Nat.le_of_ble_eq_true rfl) hsl d_Quo_init_5 (fun q5 H hP hD hS => ?_)
  have hP : va_P (dC, dI) vwCl [(h, .inr (3, [.null, .null, .long 0, .int 0, .int 0])), (q5, .inr (0, [.null, .int 0]))] H := hP
  have hD : va_D A [(h, .inr (3, [.null, .null, .long 0, .int 0, .int 0])), (q5, .inr (0, [.null, .int 0]))] := hD
  refine lv_dup hx hb d_Quo_init_8 rfl ?_
  refine lv_sipush (v := 128) hx hb d_Quo_init_9 (by decide) ?_
  have hsl : 0 + 2 + 128 ≤ 260 := by omega
  refine zz_cn (S := Nat) (ws' := fun u12 => [(h, .inr (3, [.null, .null, .long 0, .int 0, .int 0])), (q5, .inr (0, [.ref u12, .int 0])), (u12, .inl (cI, 128, .inl (fun _ => 0)))]) (wc := [(q5, .inr (0, [.null, .int 0]))]) (w' := fun u12 => [(q5, .inr (0, [.ref u12, .int 0])), (u12, .inl (cI, 128, .inl (fun _ => 0)))]) hP hD hS hA [1] [0] [0, 1, 2] rfl rfl (by decide) (by decide) (fun _ => rfl) (by decide) (va_runI (As := [.int 128]) (rest := [.ref q5, .ref h]) ⟨hx, hb, hml, hown, hw⟩ (c_Big_init l dC dI cI cC cB cJ _ q5 128 (by decide)) (cwI 1 hw (zg_C wd_88) rfl rfl rfl (hw _ wd_5) (hw _ wd_86) (hw _ wd_87) rfl hd_Big_init ⟨Nat.le_of_ble_eq_true rfl, Nat.le_of_ble_eq_true rfl⟩) (zz_preS zz_TE hP hD hK hS hA trivial [1] rfl (by decide)) rfl rfl hl.1 rfl (lv_room (Nat.le_of_ble_eq_true rfl)) d_Quo_init_12 ⟨Nat.le_of_ble_eq_true rfl, hsl⟩) (fun u12 H locs hP hD hS => ?_)
  refine va_putF (D := (dC, dI)) (ci := 3) (v := .ref q5) (ty := .object "RealText$Big") (C := R_Quo) (T := T_Quo) (N := 5) hx hb hw in_Quo ty_Quo tyok_Quo nm_Quo hown hK hP hD hS 0 rfl rfl 0 (by decide) (hw _ wd_98) (fun _ h9 => h9) rfl hin rfl (tyok_Quo 0 (by decide)) rfl rfl (Nat.le_of_ble_eq_true rfl) d_Quo_init_15 (fun H locs hP hD hS => ?_)
  have hP : va_P (dC, dI) vwCl [(h, .inr (3, [.ref q5, .null, .long 0, .int 0, .int 0])), (q5, .inr (0, [.ref u12, .int 0])), (u12, .inl (cI, 128, .inl (fun _ => 0)))] H := hP
  have hD : va_D A [(h, .inr (3, [.ref q5, .null, .long 0, .int 0, .int 0])), (q5, .inr (0, [.ref u12, .int 0])), (u12, .inl (cI, 128, .inl (fun _ => 0)))] := hD
  refine lv_aload_n hx hb d_Quo_init_18 rfl (lv_at hl 0 rfl) ?_
  have hsl : 0 + 2 + 128 + 2 ≤ 260 := by omega
  refine va_new (ci := 0) (fs := [.null, .int 0]) (C := R_Big) (T := T_Big) (N := 2) hx hb hw in_Big ty_Big tyok_Big hown (hw _ wd_84) (hw _ wd_85) (hw _ wd_5) hK hP hD hS hA rfl (fun j hj => by rcases (show j = 0 ∨ j = 1 by omega) with rfl | rfl <;> rfl) (Nat.le_of_ble_eq_true rfl) hsl d_Quo_init_19 (fun q19 H hP hD hS => ?_)
  have hP : va_P (dC, dI) vwCl [(h, .inr (3, [.ref q5, .null, .long 0, .int 0, .int 0])), (q5, .inr (0, [.ref u12, .int 0])), (u12, .inl (cI, 128, .inl (fun _ => 0))), (q19, .inr (0, [.null, .int 0]))] H := hP
  have hD : va_D A [(h, .inr (3, [.ref q5, .null, .long 0, .int 0, .int 0])), (q5, .inr (0, [.ref u12, .int 0])), (u12, .inl (cI, 128, .inl (fun _ => 0))), (q19, .inr (0, [.null, .int 0]))] := hD
  refine lv_dup hx hb d_Quo_init_22 rfl ?_
  refine lv_sipush (v := 128) hx hb d_Quo_init_23 (by decide) ?_
  have hsl : 0 + 2 + 128 + 2 + 128 ≤ 260 := by omega
  refine zz_cn (S := Nat) (ws' := fun u26 => [(h, .inr (3, [.ref q5, .null, .long 0, .int 0, .int 0])), (q5, .inr (0, [.ref u12, .int 0])), (u12, .inl (cI, 128, .inl (fun _ => 0))), (q19, .inr (0, [.ref u26, .int 0])), (u26, .inl (cI, 128, .inl (fun _ => 0)))]) (wc := [(q19, .inr (0, [.null, .int 0]))]) (w' := fun u26 => [(q19, .inr (0, [.ref u26, .int 0])), (u26, .inl (cI, 128, .inl (fun _ => 0)))]) hP hD hS hA [3] [0, 1, 2] [0, 1, 2, 3, 4] rfl rfl (by decide) (by decide) (fun _ => rfl) (by decide) (va_runI (As := [.int 128]) (rest := [.ref q19, .ref h]) ⟨hx, hb, hml, hown, hw⟩ (c_Big_init l dC dI cI cC cB cJ _ q19 128 (by decide)) (cwI 1 hw (zg_C wd_88) rfl rfl rfl (hw _ wd_5) (hw _ wd_86) (hw _ wd_87) rfl hd_Big_init ⟨Nat.le_of_ble_eq_true rfl, Nat.le_of_ble_eq_true rfl⟩) (zz_preS zz_TE hP hD hK hS hA trivial [3] rfl (by decide)) rfl rfl hl.1 rfl (lv_room (Nat.le_of_ble_eq_true rfl)) d_Quo_init_26 ⟨Nat.le_of_ble_eq_true rfl, hsl⟩) (fun u26 H locs hP hD hS => ?_)
  refine va_putF (D := (dC, dI)) (ci := 3) (v := .ref q19) (ty := .object "RealText$Big") (C := R_Quo) (T := T_Quo) (N := 5) hx hb hw in_Quo ty_Quo tyok_Quo nm_Quo hown hK hP hD hS 0 rfl rfl 1 (by decide) (hw _ wd_99) (fun _ h9 => h9) rfl hin rfl (tyok_Quo 1 (by decide)) rfl rfl (Nat.le_of_ble_eq_true rfl) d_Quo_init_29 (fun H locs hP hD hS => ?_)
  have hP : va_P (dC, dI) vwCl [(h, .inr (3, [.ref q5, .ref q19, .long 0, .int 0, .int 0])), (q5, .inr (0, [.ref u12, .int 0])), (u12, .inl (cI, 128, .inl (fun _ => 0))), (q19, .inr (0, [.ref u26, .int 0])), (u26, .inl (cI, 128, .inl (fun _ => 0)))] H := hP
  have hD : va_D A [(h, .inr (3, [.ref q5, .ref q19, .long 0, .int 0, .int 0])), (q5, .inr (0, [.ref u12, .int 0])), (u12, .inl (cI, 128, .inl (fun _ => 0))), (q19, .inr (0, [.ref u26, .int 0])), (u26, .inl (cI, 128, .inl (fun _ => 0)))] := hD
  refine W.widen (k := 4) (n := 260) (by omega) (by omega) ?_
  exact W.vret hx hb hr (fun t ht hW => ⟨⟨(q5, u12, q19, u26), rfl, trivial, by rw [ht]; exact hP, hD⟩, hS.F ht⟩) hS.2.2 d_Quo_init_32
abbrev ws_Sho_init : List Cond := .code y_Sho_init prog_8_method_1_code 1 none :: zw
abbrev rm_Sho_init : Room := { frames := 2, cells := 8, slots := 168, locals := 41 }
theorem hd_Sho_init : y_Sho_init.cls ≠ "java/lang/invoke/MethodHandle" ∧ y_Sho_init.cls ≠ "java/lang/invoke/VarHandle" ∧ (parseMethodDescriptor y_Sho_init.desc).map (fun d => d.parameters.length) = some 0 := by decide +kernel
theorem d_Sho_init_0 : decode prog_8_method_1_code 0 = .ok (.aload_n 0, 1) := by decide +kernel
theorem d_Sho_init_1 : decode prog_8_method_1_code 1 = .ok (.invokespecial 1, 3) := by decide +kernel
theorem d_Sho_init_4 : decode prog_8_method_1_code 4 = .ok (.aload_n 0, 1) := by decide +kernel
theorem d_Sho_init_5 : decode prog_8_method_1_code 5 = .ok (.new 7, 3) := by decide +kernel
theorem d_Sho_init_8 : decode prog_8_method_1_code 8 = .ok (.dup, 1) := by decide +kernel
theorem d_Sho_init_9 : decode prog_8_method_1_code 9 = .ok (.bipush 40, 2) := by decide +kernel
theorem d_Sho_init_11 : decode prog_8_method_1_code 11 = .ok (.invokespecial 11, 3) := by decide +kernel
theorem d_Sho_init_14 : decode prog_8_method_1_code 14 = .ok (.putfield 14, 3) := by decide +kernel
theorem d_Sho_init_17 : decode prog_8_method_1_code 17 = .ok (.aload_n 0, 1) := by decide +kernel
theorem d_Sho_init_18 : decode prog_8_method_1_code 18 = .ok (.new 7, 3) := by decide +kernel
theorem d_Sho_init_21 : decode prog_8_method_1_code 21 = .ok (.dup, 1) := by decide +kernel
theorem d_Sho_init_22 : decode prog_8_method_1_code 22 = .ok (.bipush 40, 2) := by decide +kernel
theorem d_Sho_init_24 : decode prog_8_method_1_code 24 = .ok (.invokespecial 11, 3) := by decide +kernel
theorem d_Sho_init_27 : decode prog_8_method_1_code 27 = .ok (.putfield 18, 3) := by decide +kernel
theorem d_Sho_init_30 : decode prog_8_method_1_code 30 = .ok (.aload_n 0, 1) := by decide +kernel
theorem d_Sho_init_31 : decode prog_8_method_1_code 31 = .ok (.new 7, 3) := by decide +kernel
theorem d_Sho_init_34 : decode prog_8_method_1_code 34 = .ok (.dup, 1) := by decide +kernel
theorem d_Sho_init_35 : decode prog_8_method_1_code 35 = .ok (.bipush 40, 2) := by decide +kernel
theorem d_Sho_init_37 : decode prog_8_method_1_code 37 = .ok (.invokespecial 11, 3) := by decide +kernel
theorem d_Sho_init_40 : decode prog_8_method_1_code 40 = .ok (.putfield 21, 3) := by decide +kernel
theorem d_Sho_init_43 : decode prog_8_method_1_code 43 = .ok (.aload_n 0, 1) := by decide +kernel
theorem d_Sho_init_44 : decode prog_8_method_1_code 44 = .ok (.new 7, 3) := by decide +kernel
theorem d_Sho_init_47 : decode prog_8_method_1_code 47 = .ok (.dup, 1) := by decide +kernel
theorem d_Sho_init_48 : decode prog_8_method_1_code 48 = .ok (.bipush 40, 2) := by decide +kernel
theorem d_Sho_init_50 : decode prog_8_method_1_code 50 = .ok (.invokespecial 11, 3) := by decide +kernel
theorem d_Sho_init_53 : decode prog_8_method_1_code 53 = .ok (.putfield 24, 3) := by decide +kernel
theorem d_Sho_init_56 : decode prog_8_method_1_code 56 = .ok (.return_, 1) := by decide +kernel
set_option maxHeartbeats 4000000 in
set_option maxRecDepth 100000 in
theorem c_Sho_init (l : Launch) (dC : Nat → ClassId) (dI : Nat → Nat → Nat) (cI cC cB cJ : ClassId) (sz : Nat) (h : Nat) : Met l y_Sho_init ws_Sho_init rm_Sho_init (zz_P zz_T (dC, dI) vwCl (zz_tys cI cC cB cJ) [.ref h] [(h, .inr (5, [.null, .null, .null, .null, .int 0, .int 0, .long 0, .int 0]))] sz) (va_Qv (S := Nat × Nat × Nat × Nat × Nat × Nat × Nat × Nat) (fun _ => True) (fun u t => zz_B (dC, dI) vwCl (va_A [(h, .inr (5, [.null, .null, .null, .null, .int 0, .int 0, .long 0, .int 0]))] sz) [(h, .inr (5, [.ref u.1, .ref u.2.2.1, .ref u.2.2.2.2.1, .ref u.2.2.2.2.2.2.1, .int 0, .int 0, .long 0, .int 0])), (u.1, .inr (0, [.ref u.2.1, .int 0])), (u.2.1, .inl (cI, 40, .inl (fun _ => 0))), (u.2.2.1, .inr (0, [.ref u.2.2.2.1, .int 0])), (u.2.2.2.1, .inl (cI, 40, .inl (fun _ => 0))), (u.2.2.2.2.1, .inr (0, [.ref u.2.2.2.2.2.1, .int 0])), (u.2.2.2.2.2.1, .inl (cI, 40, .inl (fun _ => 0))), (u.2.2.2.2.2.2.1, .inr (0, [.ref u.2.2.2.2.2.2.2, .int 0])), (u.2.2.2.2.2.2.2, .inl (cI, 40, .inl (fun _ => 0)))] t) (va_A [(h, .inr (5, [.null, .null, .null, .null, .int 0, .int 0, .long 0, .int 0]))] sz)) 8 (168) (va_A [(h, .inr (5, [.null, .null, .null, .null, .int 0, .int 0, .long 0, .int 0]))] sz) := by
  refine Met.ofW (cc := prog_8_method_1_code) (maxL := 1) (ret := none) (by decide +kernel) rfl ?_
  intro p e s m args below meth c s₁ B hml hv
  obtain ⟨rfl, hsz, hP, hK, hD0, hX⟩ := hv
  have hx := B.exec
  have hb := B.bytes
  have hr := B.returns
  have hts := atoms_spec (ws := ws_Sho_init) B.pre
  have hw : ∀ w ∈ zw, w.before [.ref h].toArray s = true := fun w h => hts w (List.mem_cons_of_mem _ h)
  have hown : s.vm.findClass R_Sho = some m.cls := findClass_of_methodNamed B.named
  have hlocks := B.notSynchronized
  have hin : meth.name = "<init>" := (name_of_methodNamed B.named B.method).1
  subst hsz
  have hD := hD0.self (sz := s.heap.size)
  generalize hAe : va_A [(h, .inr (5, [.null, .null, .null, .null, .int 0, .int 0, .long 0, .int 0]))] s.heap.size = A at hD hX ⊢
  have hA : ∀ q : Nat, s.heap.size ≤ q → A q := fun q h => by rw [← hAe]; exact Or.inr h
  have hS : va_S A s.heap s.heap [] := va_S.rf
  have hl := lv_entry [.ref h] (n := 1) (Nat.le_of_ble_eq_true rfl)
  rw [lg_entry_eq]
  generalize (lg_sl [.ref h] ++ List.replicate (1 - (lg_sl [.ref h]).length) Slot.unset).toArray = ls at hl ⊢
  have hl : lv_has ls 1 [(0, .ref h)] := hl
  refine lv_aload_n hx hb d_Sho_init_0 rfl (lv_at hl 0 rfl) ?_
  refine W.objInit hx hb hown (hw _ wd_122) (hw _ wd_29) (hw _ wd_30) rfl (by rw [hml]; exact hl.1) rfl d_Sho_init_1 (Nat.le_of_ble_eq_true rfl) (Nat.le_of_ble_eq_true rfl) ?_
  refine W.eq (g2 := F0 m 4 ls []) rfl ?_
  refine lv_aload_n hx hb d_Sho_init_4 rfl (lv_at hl 0 rfl) ?_
  have hsl : 0 + 2 ≤ 168 := by omega
  refine va_new (ci := 0) (fs := [.null, .int 0]) (C := R_Big) (T := T_Big) (N := 2) hx hb hw in_Big ty_Big tyok_Big hown (hw _ wd_123) (hw _ wd_85) (hw _ wd_5) hK hP hD hS hA rfl (fun j hj => by rcases (show j = 0 ∨ j = 1 by omega) with rfl | rfl <;> rfl) (Nat.le_of_ble_eq_true rfl) hsl d_Sho_init_5 (fun q5 H hP hD hS => ?_)
  have hP : va_P (dC, dI) vwCl [(h, .inr (5, [.null, .null, .null, .null, .int 0, .int 0, .long 0, .int 0])), (q5, .inr (0, [.null, .int 0]))] H := hP
  have hD : va_D A [(h, .inr (5, [.null, .null, .null, .null, .int 0, .int 0, .long 0, .int 0])), (q5, .inr (0, [.null, .int 0]))] := hD
  refine lv_dup hx hb d_Sho_init_8 rfl ?_
  refine lv_bipush (v := 40) hx hb d_Sho_init_9 (by decide) ?_
  have hsl : 0 + 2 + 40 ≤ 168 := by omega
  refine zz_cn (S := Nat) (ws' := fun u11 => [(h, .inr (5, [.null, .null, .null, .null, .int 0, .int 0, .long 0, .int 0])), (q5, .inr (0, [.ref u11, .int 0])), (u11, .inl (cI, 40, .inl (fun _ => 0)))]) (wc := [(q5, .inr (0, [.null, .int 0]))]) (w' := fun u11 => [(q5, .inr (0, [.ref u11, .int 0])), (u11, .inl (cI, 40, .inl (fun _ => 0)))]) hP hD hS hA [1] [0] [0, 1, 2] rfl rfl (by decide) (by decide) (fun _ => rfl) (by decide) (va_runI (As := [.int 40]) (rest := [.ref q5, .ref h]) ⟨hx, hb, hml, hown, hw⟩ (c_Big_init l dC dI cI cC cB cJ _ q5 40 (by decide)) (cwI 1 hw (zg_C wd_88) rfl rfl rfl (hw _ wd_5) (hw _ wd_124) (hw _ wd_87) rfl hd_Big_init ⟨Nat.le_of_ble_eq_true rfl, Nat.le_of_ble_eq_true rfl⟩) (zz_preS zz_TE hP hD hK hS hA trivial [1] rfl (by decide)) rfl rfl hl.1 rfl (lv_room (Nat.le_of_ble_eq_true rfl)) d_Sho_init_11 ⟨Nat.le_of_ble_eq_true rfl, hsl⟩) (fun u11 H locs hP hD hS => ?_)
  refine va_putF (D := (dC, dI)) (ci := 5) (v := .ref q5) (ty := .object "RealText$Big") (C := R_Sho) (T := T_Sho) (N := 8) hx hb hw in_Sho ty_Sho tyok_Sho nm_Sho hown hK hP hD hS 0 rfl rfl 0 (by decide) (hw _ wd_125) (fun _ h9 => h9) rfl hin rfl (tyok_Sho 0 (by decide)) rfl rfl (Nat.le_of_ble_eq_true rfl) d_Sho_init_14 (fun H locs hP hD hS => ?_)
  have hP : va_P (dC, dI) vwCl [(h, .inr (5, [.ref q5, .null, .null, .null, .int 0, .int 0, .long 0, .int 0])), (q5, .inr (0, [.ref u11, .int 0])), (u11, .inl (cI, 40, .inl (fun _ => 0)))] H := hP
  have hD : va_D A [(h, .inr (5, [.ref q5, .null, .null, .null, .int 0, .int 0, .long 0, .int 0])), (q5, .inr (0, [.ref u11, .int 0])), (u11, .inl (cI, 40, .inl (fun _ => 0)))] := hD
  refine lv_aload_n hx hb d_Sho_init_17 rfl (lv_at hl 0 rfl) ?_
  have hsl : 0 + 2 + 40 + 2 ≤ 168 := by omega
  refine va_new (ci := 0) (fs := [.null, .int 0]) (C := R_Big) (T := T_Big) (N := 2) hx hb hw in_Big ty_Big tyok_Big hown (hw _ wd_123) (hw _ wd_85) (hw _ wd_5) hK hP hD hS hA rfl (fun j hj => by rcases (show j = 0 ∨ j = 1 by omega) with rfl | rfl <;> rfl) (Nat.le_of_ble_eq_true rfl) hsl d_Sho_init_18 (fun q18 H hP hD hS => ?_)
  have hP : va_P (dC, dI) vwCl [(h, .inr (5, [.ref q5, .null, .null, .null, .int 0, .int 0, .long 0, .int 0])), (q5, .inr (0, [.ref u11, .int 0])), (u11, .inl (cI, 40, .inl (fun _ => 0))), (q18, .inr (0, [.null, .int 0]))] H := hP
  have hD : va_D A [(h, .inr (5, [.ref q5, .null, .null, .null, .int 0, .int 0, .long 0, .int 0])), (q5, .inr (0, [.ref u11, .int 0])), (u11, .inl (cI, 40, .inl (fun _ => 0))), (q18, .inr (0, [.null, .int 0]))] := hD
  refine lv_dup hx hb d_Sho_init_21 rfl ?_
  refine lv_bipush (v := 40) hx hb d_Sho_init_22 (by decide) ?_
  have hsl : 0 + 2 + 40 + 2 + 40 ≤ 168 := by omega
  refine zz_cn (S := Nat) (ws' := fun u24 => [(h, .inr (5, [.ref q5, .null, .null, .null, .int 0, .int 0, .long 0, .int 0])), (q5, .inr (0, [.ref u11, .int 0])), (u11, .inl (cI, 40, .inl (fun _ => 0))), (q18, .inr (0, [.ref u24, .int 0])), (u24, .inl (cI, 40, .inl (fun _ => 0)))]) (wc := [(q18, .inr (0, [.null, .int 0]))]) (w' := fun u24 => [(q18, .inr (0, [.ref u24, .int 0])), (u24, .inl (cI, 40, .inl (fun _ => 0)))]) hP hD hS hA [3] [0, 1, 2] [0, 1, 2, 3, 4] rfl rfl (by decide) (by decide) (fun _ => rfl) (by decide) (va_runI (As := [.int 40]) (rest := [.ref q18, .ref h]) ⟨hx, hb, hml, hown, hw⟩ (c_Big_init l dC dI cI cC cB cJ _ q18 40 (by decide)) (cwI 1 hw (zg_C wd_88) rfl rfl rfl (hw _ wd_5) (hw _ wd_124) (hw _ wd_87) rfl hd_Big_init ⟨Nat.le_of_ble_eq_true rfl, Nat.le_of_ble_eq_true rfl⟩) (zz_preS zz_TE hP hD hK hS hA trivial [3] rfl (by decide)) rfl rfl hl.1 rfl (lv_room (Nat.le_of_ble_eq_true rfl)) d_Sho_init_24 ⟨Nat.le_of_ble_eq_true rfl, hsl⟩) (fun u24 H locs hP hD hS => ?_)
  refine va_putF (D := (dC, dI)) (ci := 5) (v := .ref q18) (ty := .object "RealText$Big") (C := R_Sho) (T := T_Sho) (N := 8) hx hb hw in_Sho ty_Sho tyok_Sho nm_Sho hown hK hP hD hS 0 rfl rfl 1 (by decide) (hw _ wd_126) (fun _ h9 => h9) rfl hin rfl (tyok_Sho 1 (by decide)) rfl rfl (Nat.le_of_ble_eq_true rfl) d_Sho_init_27 (fun H locs hP hD hS => ?_)
  have hP : va_P (dC, dI) vwCl [(h, .inr (5, [.ref q5, .ref q18, .null, .null, .int 0, .int 0, .long 0, .int 0])), (q5, .inr (0, [.ref u11, .int 0])), (u11, .inl (cI, 40, .inl (fun _ => 0))), (q18, .inr (0, [.ref u24, .int 0])), (u24, .inl (cI, 40, .inl (fun _ => 0)))] H := hP
  have hD : va_D A [(h, .inr (5, [.ref q5, .ref q18, .null, .null, .int 0, .int 0, .long 0, .int 0])), (q5, .inr (0, [.ref u11, .int 0])), (u11, .inl (cI, 40, .inl (fun _ => 0))), (q18, .inr (0, [.ref u24, .int 0])), (u24, .inl (cI, 40, .inl (fun _ => 0)))] := hD
  refine lv_aload_n hx hb d_Sho_init_30 rfl (lv_at hl 0 rfl) ?_
  have hsl : 0 + 2 + 40 + 2 + 40 + 2 ≤ 168 := by omega
  refine va_new (ci := 0) (fs := [.null, .int 0]) (C := R_Big) (T := T_Big) (N := 2) hx hb hw in_Big ty_Big tyok_Big hown (hw _ wd_123) (hw _ wd_85) (hw _ wd_5) hK hP hD hS hA rfl (fun j hj => by rcases (show j = 0 ∨ j = 1 by omega) with rfl | rfl <;> rfl) (Nat.le_of_ble_eq_true rfl) hsl d_Sho_init_31 (fun q31 H hP hD hS => ?_)
  have hP : va_P (dC, dI) vwCl [(h, .inr (5, [.ref q5, .ref q18, .null, .null, .int 0, .int 0, .long 0, .int 0])), (q5, .inr (0, [.ref u11, .int 0])), (u11, .inl (cI, 40, .inl (fun _ => 0))), (q18, .inr (0, [.ref u24, .int 0])), (u24, .inl (cI, 40, .inl (fun _ => 0))), (q31, .inr (0, [.null, .int 0]))] H := hP
  have hD : va_D A [(h, .inr (5, [.ref q5, .ref q18, .null, .null, .int 0, .int 0, .long 0, .int 0])), (q5, .inr (0, [.ref u11, .int 0])), (u11, .inl (cI, 40, .inl (fun _ => 0))), (q18, .inr (0, [.ref u24, .int 0])), (u24, .inl (cI, 40, .inl (fun _ => 0))), (q31, .inr (0, [.null, .int 0]))] := hD
  refine lv_dup hx hb d_Sho_init_34 rfl ?_
  refine lv_bipush (v := 40) hx hb d_Sho_init_35 (by decide) ?_
  have hsl : 0 + 2 + 40 + 2 + 40 + 2 + 40 ≤ 168 := by omega
  refine zz_cn (S := Nat) (ws' := fun u37 => [(h, .inr (5, [.ref q5, .ref q18, .null, .null, .int 0, .int 0, .long 0, .int 0])), (q5, .inr (0, [.ref u11, .int 0])), (u11, .inl (cI, 40, .inl (fun _ => 0))), (q18, .inr (0, [.ref u24, .int 0])), (u24, .inl (cI, 40, .inl (fun _ => 0))), (q31, .inr (0, [.ref u37, .int 0])), (u37, .inl (cI, 40, .inl (fun _ => 0)))]) (wc := [(q31, .inr (0, [.null, .int 0]))]) (w' := fun u37 => [(q31, .inr (0, [.ref u37, .int 0])), (u37, .inl (cI, 40, .inl (fun _ => 0)))]) hP hD hS hA [5] [0, 1, 2, 3, 4] [0, 1, 2, 3, 4, 5, 6] rfl rfl (by decide) (by decide) (fun _ => rfl) (by decide) (va_runI (As := [.int 40]) (rest := [.ref q31, .ref h]) ⟨hx, hb, hml, hown, hw⟩ (c_Big_init l dC dI cI cC cB cJ _ q31 40 (by decide)) (cwI 1 hw (zg_C wd_88) rfl rfl rfl (hw _ wd_5) (hw _ wd_124) (hw _ wd_87) rfl hd_Big_init ⟨Nat.le_of_ble_eq_true rfl, Nat.le_of_ble_eq_true rfl⟩) (zz_preS zz_TE hP hD hK hS hA trivial [5] rfl (by decide)) rfl rfl hl.1 rfl (lv_room (Nat.le_of_ble_eq_true rfl)) d_Sho_init_37 ⟨Nat.le_of_ble_eq_true rfl, hsl⟩) (fun u37 H locs hP hD hS => ?_)
  refine va_putF (D := (dC, dI)) (ci := 5) (v := .ref q31) (ty := .object "RealText$Big") (C := R_Sho) (T := T_Sho) (N := 8) hx hb hw in_Sho ty_Sho tyok_Sho nm_Sho hown hK hP hD hS 0 rfl rfl 2 (by decide) (hw _ wd_127) (fun _ h9 => h9) rfl hin rfl (tyok_Sho 2 (by decide)) rfl rfl (Nat.le_of_ble_eq_true rfl) d_Sho_init_40 (fun H locs hP hD hS => ?_)
  have hP : va_P (dC, dI) vwCl [(h, .inr (5, [.ref q5, .ref q18, .ref q31, .null, .int 0, .int 0, .long 0, .int 0])), (q5, .inr (0, [.ref u11, .int 0])), (u11, .inl (cI, 40, .inl (fun _ => 0))), (q18, .inr (0, [.ref u24, .int 0])), (u24, .inl (cI, 40, .inl (fun _ => 0))), (q31, .inr (0, [.ref u37, .int 0])), (u37, .inl (cI, 40, .inl (fun _ => 0)))] H := hP
  have hD : va_D A [(h, .inr (5, [.ref q5, .ref q18, .ref q31, .null, .int 0, .int 0, .long 0, .int 0])), (q5, .inr (0, [.ref u11, .int 0])), (u11, .inl (cI, 40, .inl (fun _ => 0))), (q18, .inr (0, [.ref u24, .int 0])), (u24, .inl (cI, 40, .inl (fun _ => 0))), (q31, .inr (0, [.ref u37, .int 0])), (u37, .inl (cI, 40, .inl (fun _ => 0)))] := hD
  refine lv_aload_n hx hb d_Sho_init_43 rfl (lv_at hl 0 rfl) ?_
  have hsl : 0 + 2 + 40 + 2 + 40 + 2 + 40 + 2 ≤ 168 := by omega
  refine va_new (ci := 0) (fs := [.null, .int 0]) (C := R_Big) (T := T_Big) (N := 2) hx hb hw in_Big ty_Big tyok_Big hown (hw _ wd_123) (hw _ wd_85) (hw _ wd_5) hK hP hD hS hA rfl (fun j hj => by rcases (show j = 0 ∨ j = 1 by omega) with rfl | rfl <;> rfl) (Nat.le_of_ble_eq_true rfl) hsl d_Sho_init_44 (fun q44 H hP hD hS => ?_)
  have hP : va_P (dC, dI) vwCl [(h, .inr (5, [.ref q5, .ref q18, .ref q31, .null, .int 0, .int 0, .long 0, .int 0])), (q5, .inr (0, [.ref u11, .int 0])), (u11, .inl (cI, 40, .inl (fun _ => 0))), (q18, .inr (0, [.ref u24, .int 0])), (u24, .inl (cI, 40, .inl (fun _ => 0))), (q31, .inr (0, [.ref u37, .int 0])), (u37, .inl (cI, 40, .inl (fun _ => 0))), (q44, .inr (0, [.null, .int 0]))] H := hP
  have hD : va_D A [(h, .inr (5, [.ref q5, .ref q18, .ref q31, .null, .int 0, .int 0, .long 0, .int 0])), (q5, .inr (0, [.ref u11, .int 0])), (u11, .inl (cI, 40, .inl (fun _ => 0))), (q18, .inr (0, [.ref u24, .int 0])), (u24, .inl (cI, 40, .inl (fun _ => 0))), (q31, .inr (0, [.ref u37, .int 0])), (u37, .inl (cI, 40, .inl (fun _ => 0))), (q44, .inr (0, [.null, .int 0]))] := hD
  refine lv_dup hx hb d_Sho_init_47 rfl ?_
  refine lv_bipush (v := 40) hx hb d_Sho_init_48 (by decide) ?_
  have hsl : 0 + 2 + 40 + 2 + 40 + 2 + 40 + 2 + 40 ≤ 168 := by omega
  refine zz_cn (S := Nat) (ws' := fun u50 => [(h, .inr (5, [.ref q5, .ref q18, .ref q31, .null, .int 0, .int 0, .long 0, .int 0])), (q5, .inr (0, [.ref u11, .int 0])), (u11, .inl (cI, 40, .inl (fun _ => 0))), (q18, .inr (0, [.ref u24, .int 0])), (u24, .inl (cI, 40, .inl (fun _ => 0))), (q31, .inr (0, [.ref u37, .int 0])), (u37, .inl (cI, 40, .inl (fun _ => 0))), (q44, .inr (0, [.ref u50, .int 0])), (u50, .inl (cI, 40, .inl (fun _ => 0)))]) (wc := [(q44, .inr (0, [.null, .int 0]))]) (w' := fun u50 => [(q44, .inr (0, [.ref u50, .int 0])), (u50, .inl (cI, 40, .inl (fun _ => 0)))]) hP hD hS hA [7] [0, 1, 2, 3, 4, 5, 6] [0, 1, 2, 3, 4, 5, 6, 7, 8] rfl rfl (by decide) (by decide) (fun _ => rfl) (by decide) (va_runI (As := [.int 40]) (rest := [.ref q44, .ref h]) ⟨hx, hb, hml, hown, hw⟩ (c_Big_init l dC dI cI cC cB cJ _ q44 40 (by decide)) (cwI 1 hw (zg_C wd_88) rfl rfl rfl (hw _ wd_5) (hw _ wd_124) (hw _ wd_87) rfl hd_Big_init ⟨Nat.le_of_ble_eq_true rfl, Nat.le_of_ble_eq_true rfl⟩) (zz_preS zz_TE hP hD hK hS hA trivial [7] rfl (by decide)) rfl rfl hl.1 rfl (lv_room (Nat.le_of_ble_eq_true rfl)) d_Sho_init_50 ⟨Nat.le_of_ble_eq_true rfl, hsl⟩) (fun u50 H locs hP hD hS => ?_)
  refine va_putF (D := (dC, dI)) (ci := 5) (v := .ref q44) (ty := .object "RealText$Big") (C := R_Sho) (T := T_Sho) (N := 8) hx hb hw in_Sho ty_Sho tyok_Sho nm_Sho hown hK hP hD hS 0 rfl rfl 3 (by decide) (hw _ wd_128) (fun _ h9 => h9) rfl hin rfl (tyok_Sho 3 (by decide)) rfl rfl (Nat.le_of_ble_eq_true rfl) d_Sho_init_53 (fun H locs hP hD hS => ?_)
  have hP : va_P (dC, dI) vwCl [(h, .inr (5, [.ref q5, .ref q18, .ref q31, .ref q44, .int 0, .int 0, .long 0, .int 0])), (q5, .inr (0, [.ref u11, .int 0])), (u11, .inl (cI, 40, .inl (fun _ => 0))), (q18, .inr (0, [.ref u24, .int 0])), (u24, .inl (cI, 40, .inl (fun _ => 0))), (q31, .inr (0, [.ref u37, .int 0])), (u37, .inl (cI, 40, .inl (fun _ => 0))), (q44, .inr (0, [.ref u50, .int 0])), (u50, .inl (cI, 40, .inl (fun _ => 0)))] H := hP
  have hD : va_D A [(h, .inr (5, [.ref q5, .ref q18, .ref q31, .ref q44, .int 0, .int 0, .long 0, .int 0])), (q5, .inr (0, [.ref u11, .int 0])), (u11, .inl (cI, 40, .inl (fun _ => 0))), (q18, .inr (0, [.ref u24, .int 0])), (u24, .inl (cI, 40, .inl (fun _ => 0))), (q31, .inr (0, [.ref u37, .int 0])), (u37, .inl (cI, 40, .inl (fun _ => 0))), (q44, .inr (0, [.ref u50, .int 0])), (u50, .inl (cI, 40, .inl (fun _ => 0)))] := hD
  refine W.widen (k := 8) (n := 168) (by omega) (by omega) ?_
  exact W.vret hx hb hr (fun t ht hW => ⟨⟨(q5, u11, q18, u24, q31, u37, q44, u50), rfl, trivial, by rw [ht]; exact hP, hD⟩, hS.F ht⟩) hS.2.2 d_Sho_init_56
abbrev ws_Mod_init : List Cond := .code y_Mod_init prog_10_method_1_code 1 none :: zw
abbrev rm_Mod_init : Room := { frames := 1, cells := 8, slots := 4360, locals := 20 }
theorem hd_Mod_init : y_Mod_init.cls ≠ "java/lang/invoke/MethodHandle" ∧ y_Mod_init.cls ≠ "java/lang/invoke/VarHandle" ∧ (parseMethodDescriptor y_Mod_init.desc).map (fun d => d.parameters.length) = some 0 := by decide +kernel
theorem d_Mod_init_0 : decode prog_10_method_1_code 0 = .ok (.aload_n 0, 1) := by decide +kernel
theorem d_Mod_init_1 : decode prog_10_method_1_code 1 = .ok (.invokespecial 1, 3) := by decide +kernel
theorem d_Mod_init_4 : decode prog_10_method_1_code 4 = .ok (.aload_n 0, 1) := by decide +kernel
theorem d_Mod_init_5 : decode prog_10_method_1_code 5 = .ok (.sipush 1200, 3) := by decide +kernel
theorem d_Mod_init_8 : decode prog_10_method_1_code 8 = .ok (.newarray .int, 2) := by decide +kernel
theorem d_Mod_init_10 : decode prog_10_method_1_code 10 = .ok (.putfield 7, 3) := by decide +kernel
theorem d_Mod_init_13 : decode prog_10_method_1_code 13 = .ok (.aload_n 0, 1) := by decide +kernel
theorem d_Mod_init_14 : decode prog_10_method_1_code 14 = .ok (.bipush 40, 2) := by decide +kernel
theorem d_Mod_init_16 : decode prog_10_method_1_code 16 = .ok (.newarray .int, 2) := by decide +kernel
theorem d_Mod_init_18 : decode prog_10_method_1_code 18 = .ok (.putfield 13, 3) := by decide +kernel
theorem d_Mod_init_21 : decode prog_10_method_1_code 21 = .ok (.aload_n 0, 1) := by decide +kernel
theorem d_Mod_init_22 : decode prog_10_method_1_code 22 = .ok (.sipush 520, 3) := by decide +kernel
theorem d_Mod_init_25 : decode prog_10_method_1_code 25 = .ok (.newarray .int, 2) := by decide +kernel
theorem d_Mod_init_27 : decode prog_10_method_1_code 27 = .ok (.putfield 16, 3) := by decide +kernel
theorem d_Mod_init_30 : decode prog_10_method_1_code 30 = .ok (.aload_n 0, 1) := by decide +kernel
theorem d_Mod_init_31 : decode prog_10_method_1_code 31 = .ok (.sipush 520, 3) := by decide +kernel
theorem d_Mod_init_34 : decode prog_10_method_1_code 34 = .ok (.newarray .int, 2) := by decide +kernel
theorem d_Mod_init_36 : decode prog_10_method_1_code 36 = .ok (.putfield 19, 3) := by decide +kernel
theorem d_Mod_init_39 : decode prog_10_method_1_code 39 = .ok (.aload_n 0, 1) := by decide +kernel
theorem d_Mod_init_40 : decode prog_10_method_1_code 40 = .ok (.sipush 520, 3) := by decide +kernel
theorem d_Mod_init_43 : decode prog_10_method_1_code 43 = .ok (.newarray .int, 2) := by decide +kernel
theorem d_Mod_init_45 : decode prog_10_method_1_code 45 = .ok (.putfield 22, 3) := by decide +kernel
theorem d_Mod_init_48 : decode prog_10_method_1_code 48 = .ok (.aload_n 0, 1) := by decide +kernel
theorem d_Mod_init_49 : decode prog_10_method_1_code 49 = .ok (.sipush 520, 3) := by decide +kernel
theorem d_Mod_init_52 : decode prog_10_method_1_code 52 = .ok (.newarray .int, 2) := by decide +kernel
theorem d_Mod_init_54 : decode prog_10_method_1_code 54 = .ok (.putfield 25, 3) := by decide +kernel
theorem d_Mod_init_57 : decode prog_10_method_1_code 57 = .ok (.aload_n 0, 1) := by decide +kernel
theorem d_Mod_init_58 : decode prog_10_method_1_code 58 = .ok (.sipush 520, 3) := by decide +kernel
theorem d_Mod_init_61 : decode prog_10_method_1_code 61 = .ok (.newarray .int, 2) := by decide +kernel
theorem d_Mod_init_63 : decode prog_10_method_1_code 63 = .ok (.putfield 28, 3) := by decide +kernel
theorem d_Mod_init_66 : decode prog_10_method_1_code 66 = .ok (.aload_n 0, 1) := by decide +kernel
theorem d_Mod_init_67 : decode prog_10_method_1_code 67 = .ok (.sipush 520, 3) := by decide +kernel
theorem d_Mod_init_70 : decode prog_10_method_1_code 70 = .ok (.newarray .int, 2) := by decide +kernel
theorem d_Mod_init_72 : decode prog_10_method_1_code 72 = .ok (.putfield 31, 3) := by decide +kernel
theorem d_Mod_init_75 : decode prog_10_method_1_code 75 = .ok (.return_, 1) := by decide +kernel
set_option maxHeartbeats 4000000 in
set_option maxRecDepth 100000 in
theorem c_Mod_init (l : Launch) (dC : Nat → ClassId) (dI : Nat → Nat → Nat) (cI cC cB cJ : ClassId) (sz : Nat) (h : Nat) : Met l y_Mod_init ws_Mod_init rm_Mod_init (zz_P zz_T (dC, dI) vwCl (zz_tys cI cC cB cJ) [.ref h] [(h, .inr (7, [.null, .null, .int 0, .int 0, .int 0, .int 0, .int 0, .int 0, .int 0, .null, .null, .null, .null, .null, .null, .int 0, .int 0, .int 0, .int 0, .int 0, .int 0, .int 0, .int 0, .int 0, .int 0, .int 0]))] sz) (va_Qv (S := Nat × Nat × Nat × Nat × Nat × Nat × Nat × Nat) (fun _ => True) (fun u t => zz_B (dC, dI) vwCl (va_A [(h, .inr (7, [.null, .null, .int 0, .int 0, .int 0, .int 0, .int 0, .int 0, .int 0, .null, .null, .null, .null, .null, .null, .int 0, .int 0, .int 0, .int 0, .int 0, .int 0, .int 0, .int 0, .int 0, .int 0, .int 0]))] sz) [(h, .inr (7, [.ref u.1, .ref u.2.1, .int 0, .int 0, .int 0, .int 0, .int 0, .int 0, .int 0, .ref u.2.2.1, .ref u.2.2.2.1, .ref u.2.2.2.2.1, .ref u.2.2.2.2.2.1, .ref u.2.2.2.2.2.2.1, .ref u.2.2.2.2.2.2.2, .int 0, .int 0, .int 0, .int 0, .int 0, .int 0, .int 0, .int 0, .int 0, .int 0, .int 0])), (u.1, .inl (cI, 1200, .inl (fun _ => 0))), (u.2.1, .inl (cI, 40, .inl (fun _ => 0))), (u.2.2.1, .inl (cI, 520, .inl (fun _ => 0))), (u.2.2.2.1, .inl (cI, 520, .inl (fun _ => 0))), (u.2.2.2.2.1, .inl (cI, 520, .inl (fun _ => 0))), (u.2.2.2.2.2.1, .inl (cI, 520, .inl (fun _ => 0))), (u.2.2.2.2.2.2.1, .inl (cI, 520, .inl (fun _ => 0))), (u.2.2.2.2.2.2.2, .inl (cI, 520, .inl (fun _ => 0)))] t) (va_A [(h, .inr (7, [.null, .null, .int 0, .int 0, .int 0, .int 0, .int 0, .int 0, .int 0, .null, .null, .null, .null, .null, .null, .int 0, .int 0, .int 0, .int 0, .int 0, .int 0, .int 0, .int 0, .int 0, .int 0, .int 0]))] sz)) 8 (4360) (va_A [(h, .inr (7, [.null, .null, .int 0, .int 0, .int 0, .int 0, .int 0, .int 0, .int 0, .null, .null, .null, .null, .null, .null, .int 0, .int 0, .int 0, .int 0, .int 0, .int 0, .int 0, .int 0, .int 0, .int 0, .int 0]))] sz) := by
  refine Met.ofW (cc := prog_10_method_1_code) (maxL := 1) (ret := none) (by decide +kernel) rfl ?_
  intro p e s m args below meth c s₁ B hml hv
  obtain ⟨rfl, hsz, hP, hK, hD0, hX⟩ := hv
  have hx := B.exec
  have hb := B.bytes
  have hr := B.returns
  have hts := atoms_spec (ws := ws_Mod_init) B.pre
  have hw : ∀ w ∈ zw, w.before [.ref h].toArray s = true := fun w h => hts w (List.mem_cons_of_mem _ h)
  have hown : s.vm.findClass R_Mod = some m.cls := findClass_of_methodNamed B.named
  have hlocks := B.notSynchronized
  have hin : meth.name = "<init>" := (name_of_methodNamed B.named B.method).1
  subst hsz
  have hD := hD0.self (sz := s.heap.size)
  generalize hAe : va_A [(h, .inr (7, [.null, .null, .int 0, .int 0, .int 0, .int 0, .int 0, .int 0, .int 0, .null, .null, .null, .null, .null, .null, .int 0, .int 0, .int 0, .int 0, .int 0, .int 0, .int 0, .int 0, .int 0, .int 0, .int 0]))] s.heap.size = A at hD hX ⊢
  have hA : ∀ q : Nat, s.heap.size ≤ q → A q := fun q h => by rw [← hAe]; exact Or.inr h
  have hS : va_S A s.heap s.heap [] := va_S.rf
  have hl := lv_entry [.ref h] (n := 1) (Nat.le_of_ble_eq_true rfl)
  rw [lg_entry_eq]
  generalize (lg_sl [.ref h] ++ List.replicate (1 - (lg_sl [.ref h]).length) Slot.unset).toArray = ls at hl ⊢
  have hl : lv_has ls 1 [(0, .ref h)] := hl
  refine lv_aload_n hx hb d_Mod_init_0 rfl (lv_at hl 0 rfl) ?_
  refine W.objInit hx hb hown (hw _ wd_673) (hw _ wd_29) (hw _ wd_30) rfl (by rw [hml]; exact hl.1) rfl d_Mod_init_1 (Nat.le_of_ble_eq_true rfl) (Nat.le_of_ble_eq_true rfl) ?_
  refine W.eq (g2 := F0 m 4 ls []) rfl ?_
  refine lv_aload_n hx hb d_Mod_init_4 rfl (lv_at hl 0 rfl) ?_
  refine lv_sipush (v := 1200) hx hb d_Mod_init_5 (by decide) ?_
  have hsl : 0 + 1200 ≤ 4360 := by omega
  refine zz_newa (atype := .int) (ty := .int) (N' := 1200) (a0 := (1200, .inl (fun _ => 0))) hx hb (hw _ wd_97) rfl (fun _ h => h) hK 0 rfl hP hD hS hA (fun _ => rfl) (nI_pos (n := 1200) (by decide)) (nI_clamp (n := 1200) (by decide)) (Nat.le_of_ble_eq_true rfl) (Nat.le_of_ble_eq_true rfl) hsl d_Mod_init_8 (fun q8 H hP hD hS => ?_)
  have hP : va_P (dC, dI) vwCl [(h, .inr (7, [.null, .null, .int 0, .int 0, .int 0, .int 0, .int 0, .int 0, .int 0, .null, .null, .null, .null, .null, .null, .int 0, .int 0, .int 0, .int 0, .int 0, .int 0, .int 0, .int 0, .int 0, .int 0, .int 0])), (q8, .inl (cI, 1200, .inl (fun _ => 0)))] H := hP
  have hD : va_D A [(h, .inr (7, [.null, .null, .int 0, .int 0, .int 0, .int 0, .int 0, .int 0, .int 0, .null, .null, .null, .null, .null, .null, .int 0, .int 0, .int 0, .int 0, .int 0, .int 0, .int 0, .int 0, .int 0, .int 0, .int 0])), (q8, .inl (cI, 1200, .inl (fun _ => 0)))] := hD
  refine va_putF (D := (dC, dI)) (ci := 7) (v := .ref q8) (ty := .array .int) (C := R_Mod) (T := T_Mod) (N := 26) hx hb hw in_Mod ty_Mod tyok_Mod nm_Mod hown hK hP hD hS 0 rfl rfl 0 (by decide) (hw _ wd_674) (fun _ h9 => h9) rfl hin rfl (tyok_Mod 0 (by decide)) rfl rfl (Nat.le_of_ble_eq_true rfl) d_Mod_init_10 (fun H locs hP hD hS => ?_)
  have hP : va_P (dC, dI) vwCl [(h, .inr (7, [.ref q8, .null, .int 0, .int 0, .int 0, .int 0, .int 0, .int 0, .int 0, .null, .null, .null, .null, .null, .null, .int 0, .int 0, .int 0, .int 0, .int 0, .int 0, .int 0, .int 0, .int 0, .int 0, .int 0])), (q8, .inl (cI, 1200, .inl (fun _ => 0)))] H := hP
  have hD : va_D A [(h, .inr (7, [.ref q8, .null, .int 0, .int 0, .int 0, .int 0, .int 0, .int 0, .int 0, .null, .null, .null, .null, .null, .null, .int 0, .int 0, .int 0, .int 0, .int 0, .int 0, .int 0, .int 0, .int 0, .int 0, .int 0])), (q8, .inl (cI, 1200, .inl (fun _ => 0)))] := hD
  refine lv_aload_n hx hb d_Mod_init_13 rfl (lv_at hl 0 rfl) ?_
  refine lv_bipush (v := 40) hx hb d_Mod_init_14 (by decide) ?_
  have hsl : 0 + 1200 + 40 ≤ 4360 := by omega
  refine zz_newa (atype := .int) (ty := .int) (N' := 40) (a0 := (40, .inl (fun _ => 0))) hx hb (hw _ wd_97) rfl (fun _ h => h) hK 0 rfl hP hD hS hA (fun _ => rfl) (nI_pos (n := 40) (by decide)) (nI_clamp (n := 40) (by decide)) (Nat.le_of_ble_eq_true rfl) (Nat.le_of_ble_eq_true rfl) hsl d_Mod_init_16 (fun q16 H hP hD hS => ?_)
  have hP : va_P (dC, dI) vwCl [(h, .inr (7, [.ref q8, .null, .int 0, .int 0, .int 0, .int 0, .int 0, .int 0, .int 0, .null, .null, .null, .null, .null, .null, .int 0, .int 0, .int 0, .int 0, .int 0, .int 0, .int 0, .int 0, .int 0, .int 0, .int 0])), (q8, .inl (cI, 1200, .inl (fun _ => 0))), (q16, .inl (cI, 40, .inl (fun _ => 0)))] H := hP
  have hD : va_D A [(h, .inr (7, [.ref q8, .null, .int 0, .int 0, .int 0, .int 0, .int 0, .int 0, .int 0, .null, .null, .null, .null, .null, .null, .int 0, .int 0, .int 0, .int 0, .int 0, .int 0, .int 0, .int 0, .int 0, .int 0, .int 0])), (q8, .inl (cI, 1200, .inl (fun _ => 0))), (q16, .inl (cI, 40, .inl (fun _ => 0)))] := hD
  refine va_putF (D := (dC, dI)) (ci := 7) (v := .ref q16) (ty := .array .int) (C := R_Mod) (T := T_Mod) (N := 26) hx hb hw in_Mod ty_Mod tyok_Mod nm_Mod hown hK hP hD hS 0 rfl rfl 1 (by decide) (hw _ wd_675) (fun _ h9 => h9) rfl hin rfl (tyok_Mod 1 (by decide)) rfl rfl (Nat.le_of_ble_eq_true rfl) d_Mod_init_18 (fun H locs hP hD hS => ?_)
  have hP : va_P (dC, dI) vwCl [(h, .inr (7, [.ref q8, .ref q16, .int 0, .int 0, .int 0, .int 0, .int 0, .int 0, .int 0, .null, .null, .null, .null, .null, .null, .int 0, .int 0, .int 0, .int 0, .int 0, .int 0, .int 0, .int 0, .int 0, .int 0, .int 0])), (q8, .inl (cI, 1200, .inl (fun _ => 0))), (q16, .inl (cI, 40, .inl (fun _ => 0)))] H := hP
  have hD : va_D A [(h, .inr (7, [.ref q8, .ref q16, .int 0, .int 0, .int 0, .int 0, .int 0, .int 0, .int 0, .null, .null, .null, .null, .null, .null, .int 0, .int 0, .int 0, .int 0, .int 0, .int 0, .int 0, .int 0, .int 0, .int 0, .int 0])), (q8, .inl (cI, 1200, .inl (fun _ => 0))), (q16, .inl (cI, 40, .inl (fun _ => 0)))] := hD
  refine lv_aload_n hx hb d_Mod_init_21 rfl (lv_at hl 0 rfl) ?_
  refine lv_sipush (v := 520) hx hb d_Mod_init_22 (by decide) ?_
  have hsl : 0 + 1200 + 40 + 520 ≤ 4360 := by omega
  refine zz_newa (atype := .int) (ty := .int) (N' := 520) (a0 := (520, .inl (fun _ => 0))) hx hb (hw _ wd_97) rfl (fun _ h => h) hK 0 rfl hP hD hS hA (fun _ => rfl) (nI_pos (n := 520) (by decide)) (nI_clamp (n := 520) (by decide)) (Nat.le_of_ble_eq_true rfl) (Nat.le_of_ble_eq_true rfl) hsl d_Mod_init_25 (fun q25 H hP hD hS => ?_)
  have hP : va_P (dC, dI) vwCl [(h, .inr (7, [.ref q8, .ref q16, .int 0, .int 0, .int 0, .int 0, .int 0, .int 0, .int 0, .null, .null, .null, .null, .null, .null, .int 0, .int 0, .int 0, .int 0, .int 0, .int 0, .int 0, .int 0, .int 0, .int 0, .int 0])), (q8, .inl (cI, 1200, .inl (fun _ => 0))), (q16, .inl (cI, 40, .inl (fun _ => 0))), (q25, .inl (cI, 520, .inl (fun _ => 0)))] H := hP
  have hD : va_D A [(h, .inr (7, [.ref q8, .ref q16, .int 0, .int 0, .int 0, .int 0, .int 0, .int 0, .int 0, .null, .null, .null, .null, .null, .null, .int 0, .int 0, .int 0, .int 0, .int 0, .int 0, .int 0, .int 0, .int 0, .int 0, .int 0])), (q8, .inl (cI, 1200, .inl (fun _ => 0))), (q16, .inl (cI, 40, .inl (fun _ => 0))), (q25, .inl (cI, 520, .inl (fun _ => 0)))] := hD
  refine va_putF (D := (dC, dI)) (ci := 7) (v := .ref q25) (ty := .array .int) (C := R_Mod) (T := T_Mod) (N := 26) hx hb hw in_Mod ty_Mod tyok_Mod nm_Mod hown hK hP hD hS 0 rfl rfl 9 (by decide) (hw _ wd_683) (fun _ h9 => h9) rfl hin rfl (tyok_Mod 9 (by decide)) rfl rfl (Nat.le_of_ble_eq_true rfl) d_Mod_init_27 (fun H locs hP hD hS => ?_)
  have hP : va_P (dC, dI) vwCl [(h, .inr (7, [.ref q8, .ref q16, .int 0, .int 0, .int 0, .int 0, .int 0, .int 0, .int 0, .ref q25, .null, .null, .null, .null, .null, .int 0, .int 0, .int 0, .int 0, .int 0, .int 0, .int 0, .int 0, .int 0, .int 0, .int 0])), (q8, .inl (cI, 1200, .inl (fun _ => 0))), (q16, .inl (cI, 40, .inl (fun _ => 0))), (q25, .inl (cI, 520, .inl (fun _ => 0)))] H := hP
  have hD : va_D A [(h, .inr (7, [.ref q8, .ref q16, .int 0, .int 0, .int 0, .int 0, .int 0, .int 0, .int 0, .ref q25, .null, .null, .null, .null, .null, .int 0, .int 0, .int 0, .int 0, .int 0, .int 0, .int 0, .int 0, .int 0, .int 0, .int 0])), (q8, .inl (cI, 1200, .inl (fun _ => 0))), (q16, .inl (cI, 40, .inl (fun _ => 0))), (q25, .inl (cI, 520, .inl (fun _ => 0)))] := hD
  refine lv_aload_n hx hb d_Mod_init_30 rfl (lv_at hl 0 rfl) ?_
  refine lv_sipush (v := 520) hx hb d_Mod_init_31 (by decide) ?_
  have hsl : 0 + 1200 + 40 + 520 + 520 ≤ 4360 := by omega
  refine zz_newa (atype := .int) (ty := .int) (N' := 520) (a0 := (520, .inl (fun _ => 0))) hx hb (hw _ wd_97) rfl (fun _ h => h) hK 0 rfl hP hD hS hA (fun _ => rfl) (nI_pos (n := 520) (by decide)) (nI_clamp (n := 520) (by decide)) (Nat.le_of_ble_eq_true rfl) (Nat.le_of_ble_eq_true rfl) hsl d_Mod_init_34 (fun q34 H hP hD hS => ?_)
  have hP : va_P (dC, dI) vwCl [(h, .inr (7, [.ref q8, .ref q16, .int 0, .int 0, .int 0, .int 0, .int 0, .int 0, .int 0, .ref q25, .null, .null, .null, .null, .null, .int 0, .int 0, .int 0, .int 0, .int 0, .int 0, .int 0, .int 0, .int 0, .int 0, .int 0])), (q8, .inl (cI, 1200, .inl (fun _ => 0))), (q16, .inl (cI, 40, .inl (fun _ => 0))), (q25, .inl (cI, 520, .inl (fun _ => 0))), (q34, .inl (cI, 520, .inl (fun _ => 0)))] H := hP
  have hD : va_D A [(h, .inr (7, [.ref q8, .ref q16, .int 0, .int 0, .int 0, .int 0, .int 0, .int 0, .int 0, .ref q25, .null, .null, .null, .null, .null, .int 0, .int 0, .int 0, .int 0, .int 0, .int 0, .int 0, .int 0, .int 0, .int 0, .int 0])), (q8, .inl (cI, 1200, .inl (fun _ => 0))), (q16, .inl (cI, 40, .inl (fun _ => 0))), (q25, .inl (cI, 520, .inl (fun _ => 0))), (q34, .inl (cI, 520, .inl (fun _ => 0)))] := hD
  refine va_putF (D := (dC, dI)) (ci := 7) (v := .ref q34) (ty := .array .int) (C := R_Mod) (T := T_Mod) (N := 26) hx hb hw in_Mod ty_Mod tyok_Mod nm_Mod hown hK hP hD hS 0 rfl rfl 10 (by decide) (hw _ wd_684) (fun _ h9 => h9) rfl hin rfl (tyok_Mod 10 (by decide)) rfl rfl (Nat.le_of_ble_eq_true rfl) d_Mod_init_36 (fun H locs hP hD hS => ?_)
  have hP : va_P (dC, dI) vwCl [(h, .inr (7, [.ref q8, .ref q16, .int 0, .int 0, .int 0, .int 0, .int 0, .int 0, .int 0, .ref q25, .ref q34, .null, .null, .null, .null, .int 0, .int 0, .int 0, .int 0, .int 0, .int 0, .int 0, .int 0, .int 0, .int 0, .int 0])), (q8, .inl (cI, 1200, .inl (fun _ => 0))), (q16, .inl (cI, 40, .inl (fun _ => 0))), (q25, .inl (cI, 520, .inl (fun _ => 0))), (q34, .inl (cI, 520, .inl (fun _ => 0)))] H := hP
  have hD : va_D A [(h, .inr (7, [.ref q8, .ref q16, .int 0, .int 0, .int 0, .int 0, .int 0, .int 0, .int 0, .ref q25, .ref q34, .null, .null, .null, .null, .int 0, .int 0, .int 0, .int 0, .int 0, .int 0, .int 0, .int 0, .int 0, .int 0, .int 0])), (q8, .inl (cI, 1200, .inl (fun _ => 0))), (q16, .inl (cI, 40, .inl (fun _ => 0))), (q25, .inl (cI, 520, .inl (fun _ => 0))), (q34, .inl (cI, 520, .inl (fun _ => 0)))] := hD
  refine lv_aload_n hx hb d_Mod_init_39 rfl (lv_at hl 0 rfl) ?_
  refine lv_sipush (v := 520) hx hb d_Mod_init_40 (by decide) ?_
  have hsl : 0 + 1200 + 40 + 520 + 520 + 520 ≤ 4360 := by omega
  refine zz_newa (atype := .int) (ty := .int) (N' := 520) (a0 := (520, .inl (fun _ => 0))) hx hb (hw _ wd_97) rfl (fun _ h => h) hK 0 rfl hP hD hS hA (fun _ => rfl) (nI_pos (n := 520) (by decide)) (nI_clamp (n := 520) (by decide)) (Nat.le_of_ble_eq_true rfl) (Nat.le_of_ble_eq_true rfl) hsl d_Mod_init_43 (fun q43 H hP hD hS => ?_)
  have hP : va_P (dC, dI) vwCl [(h, .inr (7, [.ref q8, .ref q16, .int 0, .int 0, .int 0, .int 0, .int 0, .int 0, .int 0, .ref q25, .ref q34, .null, .null, .null, .null, .int 0, .int 0, .int 0, .int 0, .int 0, .int 0, .int 0, .int 0, .int 0, .int 0, .int 0])), (q8, .inl (cI, 1200, .inl (fun _ => 0))), (q16, .inl (cI, 40, .inl (fun _ => 0))), (q25, .inl (cI, 520, .inl (fun _ => 0))), (q34, .inl (cI, 520, .inl (fun _ => 0))), (q43, .inl (cI, 520, .inl (fun _ => 0)))] H := hP
  have hD : va_D A [(h, .inr (7, [.ref q8, .ref q16, .int 0, .int 0, .int 0, .int 0, .int 0, .int 0, .int 0, .ref q25, .ref q34, .null, .null, .null, .null, .int 0, .int 0, .int 0, .int 0, .int 0, .int 0, .int 0, .int 0, .int 0, .int 0, .int 0])), (q8, .inl (cI, 1200, .inl (fun _ => 0))), (q16, .inl (cI, 40, .inl (fun _ => 0))), (q25, .inl (cI, 520, .inl (fun _ => 0))), (q34, .inl (cI, 520, .inl (fun _ => 0))), (q43, .inl (cI, 520, .inl (fun _ => 0)))] := hD
  refine va_putF (D := (dC, dI)) (ci := 7) (v := .ref q43) (ty := .array .int) (C := R_Mod) (T := T_Mod) (N := 26) hx hb hw in_Mod ty_Mod tyok_Mod nm_Mod hown hK hP hD hS 0 rfl rfl 11 (by decide) (hw _ wd_685) (fun _ h9 => h9) rfl hin rfl (tyok_Mod 11 (by decide)) rfl rfl (Nat.le_of_ble_eq_true rfl) d_Mod_init_45 (fun H locs hP hD hS => ?_)
  have hP : va_P (dC, dI) vwCl [(h, .inr (7, [.ref q8, .ref q16, .int 0, .int 0, .int 0, .int 0, .int 0, .int 0, .int 0, .ref q25, .ref q34, .ref q43, .null, .null, .null, .int 0, .int 0, .int 0, .int 0, .int 0, .int 0, .int 0, .int 0, .int 0, .int 0, .int 0])), (q8, .inl (cI, 1200, .inl (fun _ => 0))), (q16, .inl (cI, 40, .inl (fun _ => 0))), (q25, .inl (cI, 520, .inl (fun _ => 0))), (q34, .inl (cI, 520, .inl (fun _ => 0))), (q43, .inl (cI, 520, .inl (fun _ => 0)))] H := hP
  have hD : va_D A [(h, .inr (7, [.ref q8, .ref q16, .int 0, .int 0, .int 0, .int 0, .int 0, .int 0, .int 0, .ref q25, .ref q34, .ref q43, .null, .null, .null, .int 0, .int 0, .int 0, .int 0, .int 0, .int 0, .int 0, .int 0, .int 0, .int 0, .int 0])), (q8, .inl (cI, 1200, .inl (fun _ => 0))), (q16, .inl (cI, 40, .inl (fun _ => 0))), (q25, .inl (cI, 520, .inl (fun _ => 0))), (q34, .inl (cI, 520, .inl (fun _ => 0))), (q43, .inl (cI, 520, .inl (fun _ => 0)))] := hD
  refine lv_aload_n hx hb d_Mod_init_48 rfl (lv_at hl 0 rfl) ?_
  refine lv_sipush (v := 520) hx hb d_Mod_init_49 (by decide) ?_
  have hsl : 0 + 1200 + 40 + 520 + 520 + 520 + 520 ≤ 4360 := by omega
  refine zz_newa (atype := .int) (ty := .int) (N' := 520) (a0 := (520, .inl (fun _ => 0))) hx hb (hw _ wd_97) rfl (fun _ h => h) hK 0 rfl hP hD hS hA (fun _ => rfl) (nI_pos (n := 520) (by decide)) (nI_clamp (n := 520) (by decide)) (Nat.le_of_ble_eq_true rfl) (Nat.le_of_ble_eq_true rfl) hsl d_Mod_init_52 (fun q52 H hP hD hS => ?_)
  have hP : va_P (dC, dI) vwCl [(h, .inr (7, [.ref q8, .ref q16, .int 0, .int 0, .int 0, .int 0, .int 0, .int 0, .int 0, .ref q25, .ref q34, .ref q43, .null, .null, .null, .int 0, .int 0, .int 0, .int 0, .int 0, .int 0, .int 0, .int 0, .int 0, .int 0, .int 0])), (q8, .inl (cI, 1200, .inl (fun _ => 0))), (q16, .inl (cI, 40, .inl (fun _ => 0))), (q25, .inl (cI, 520, .inl (fun _ => 0))), (q34, .inl (cI, 520, .inl (fun _ => 0))), (q43, .inl (cI, 520, .inl (fun _ => 0))), (q52, .inl (cI, 520, .inl (fun _ => 0)))] H := hP
  have hD : va_D A [(h, .inr (7, [.ref q8, .ref q16, .int 0, .int 0, .int 0, .int 0, .int 0, .int 0, .int 0, .ref q25, .ref q34, .ref q43, .null, .null, .null, .int 0, .int 0, .int 0, .int 0, .int 0, .int 0, .int 0, .int 0, .int 0, .int 0, .int 0])), (q8, .inl (cI, 1200, .inl (fun _ => 0))), (q16, .inl (cI, 40, .inl (fun _ => 0))), (q25, .inl (cI, 520, .inl (fun _ => 0))), (q34, .inl (cI, 520, .inl (fun _ => 0))), (q43, .inl (cI, 520, .inl (fun _ => 0))), (q52, .inl (cI, 520, .inl (fun _ => 0)))] := hD
  refine va_putF (D := (dC, dI)) (ci := 7) (v := .ref q52) (ty := .array .int) (C := R_Mod) (T := T_Mod) (N := 26) hx hb hw in_Mod ty_Mod tyok_Mod nm_Mod hown hK hP hD hS 0 rfl rfl 12 (by decide) (hw _ wd_686) (fun _ h9 => h9) rfl hin rfl (tyok_Mod 12 (by decide)) rfl rfl (Nat.le_of_ble_eq_true rfl) d_Mod_init_54 (fun H locs hP hD hS => ?_)
  have hP : va_P (dC, dI) vwCl [(h, .inr (7, [.ref q8, .ref q16, .int 0, .int 0, .int 0, .int 0, .int 0, .int 0, .int 0, .ref q25, .ref q34, .ref q43, .ref q52, .null, .null, .int 0, .int 0, .int 0, .int 0, .int 0, .int 0, .int 0, .int 0, .int 0, .int 0, .int 0])), (q8, .inl (cI, 1200, .inl (fun _ => 0))), (q16, .inl (cI, 40, .inl (fun _ => 0))), (q25, .inl (cI, 520, .inl (fun _ => 0))), (q34, .inl (cI, 520, .inl (fun _ => 0))), (q43, .inl (cI, 520, .inl (fun _ => 0))), (q52, .inl (cI, 520, .inl (fun _ => 0)))] H := hP
  have hD : va_D A [(h, .inr (7, [.ref q8, .ref q16, .int 0, .int 0, .int 0, .int 0, .int 0, .int 0, .int 0, .ref q25, .ref q34, .ref q43, .ref q52, .null, .null, .int 0, .int 0, .int 0, .int 0, .int 0, .int 0, .int 0, .int 0, .int 0, .int 0, .int 0])), (q8, .inl (cI, 1200, .inl (fun _ => 0))), (q16, .inl (cI, 40, .inl (fun _ => 0))), (q25, .inl (cI, 520, .inl (fun _ => 0))), (q34, .inl (cI, 520, .inl (fun _ => 0))), (q43, .inl (cI, 520, .inl (fun _ => 0))), (q52, .inl (cI, 520, .inl (fun _ => 0)))] := hD
  refine lv_aload_n hx hb d_Mod_init_57 rfl (lv_at hl 0 rfl) ?_
  refine lv_sipush (v := 520) hx hb d_Mod_init_58 (by decide) ?_
  have hsl : 0 + 1200 + 40 + 520 + 520 + 520 + 520 + 520 ≤ 4360 := by omega
  refine zz_newa (atype := .int) (ty := .int) (N' := 520) (a0 := (520, .inl (fun _ => 0))) hx hb (hw _ wd_97) rfl (fun _ h => h) hK 0 rfl hP hD hS hA (fun _ => rfl) (nI_pos (n := 520) (by decide)) (nI_clamp (n := 520) (by decide)) (Nat.le_of_ble_eq_true rfl) (Nat.le_of_ble_eq_true rfl) hsl d_Mod_init_61 (fun q61 H hP hD hS => ?_)
  have hP : va_P (dC, dI) vwCl [(h, .inr (7, [.ref q8, .ref q16, .int 0, .int 0, .int 0, .int 0, .int 0, .int 0, .int 0, .ref q25, .ref q34, .ref q43, .ref q52, .null, .null, .int 0, .int 0, .int 0, .int 0, .int 0, .int 0, .int 0, .int 0, .int 0, .int 0, .int 0])), (q8, .inl (cI, 1200, .inl (fun _ => 0))), (q16, .inl (cI, 40, .inl (fun _ => 0))), (q25, .inl (cI, 520, .inl (fun _ => 0))), (q34, .inl (cI, 520, .inl (fun _ => 0))), (q43, .inl (cI, 520, .inl (fun _ => 0))), (q52, .inl (cI, 520, .inl (fun _ => 0))), (q61, .inl (cI, 520, .inl (fun _ => 0)))] H := hP
  have hD : va_D A [(h, .inr (7, [.ref q8, .ref q16, .int 0, .int 0, .int 0, .int 0, .int 0, .int 0, .int 0, .ref q25, .ref q34, .ref q43, .ref q52, .null, .null, .int 0, .int 0, .int 0, .int 0, .int 0, .int 0, .int 0, .int 0, .int 0, .int 0, .int 0])), (q8, .inl (cI, 1200, .inl (fun _ => 0))), (q16, .inl (cI, 40, .inl (fun _ => 0))), (q25, .inl (cI, 520, .inl (fun _ => 0))), (q34, .inl (cI, 520, .inl (fun _ => 0))), (q43, .inl (cI, 520, .inl (fun _ => 0))), (q52, .inl (cI, 520, .inl (fun _ => 0))), (q61, .inl (cI, 520, .inl (fun _ => 0)))] := hD
  refine va_putF (D := (dC, dI)) (ci := 7) (v := .ref q61) (ty := .array .int) (C := R_Mod) (T := T_Mod) (N := 26) hx hb hw in_Mod ty_Mod tyok_Mod nm_Mod hown hK hP hD hS 0 rfl rfl 13 (by decide) (hw _ wd_687) (fun _ h9 => h9) rfl hin rfl (tyok_Mod 13 (by decide)) rfl rfl (Nat.le_of_ble_eq_true rfl) d_Mod_init_63 (fun H locs hP hD hS => ?_)
  have hP : va_P (dC, dI) vwCl [(h, .inr (7, [.ref q8, .ref q16, .int 0, .int 0, .int 0, .int 0, .int 0, .int 0, .int 0, .ref q25, .ref q34, .ref q43, .ref q52, .ref q61, .null, .int 0, .int 0, .int 0, .int 0, .int 0, .int 0, .int 0, .int 0, .int 0, .int 0, .int 0])), (q8, .inl (cI, 1200, .inl (fun _ => 0))), (q16, .inl (cI, 40, .inl (fun _ => 0))), (q25, .inl (cI, 520, .inl (fun _ => 0))), (q34, .inl (cI, 520, .inl (fun _ => 0))), (q43, .inl (cI, 520, .inl (fun _ => 0))), (q52, .inl (cI, 520, .inl (fun _ => 0))), (q61, .inl (cI, 520, .inl (fun _ => 0)))] H := hP
  have hD : va_D A [(h, .inr (7, [.ref q8, .ref q16, .int 0, .int 0, .int 0, .int 0, .int 0, .int 0, .int 0, .ref q25, .ref q34, .ref q43, .ref q52, .ref q61, .null, .int 0, .int 0, .int 0, .int 0, .int 0, .int 0, .int 0, .int 0, .int 0, .int 0, .int 0])), (q8, .inl (cI, 1200, .inl (fun _ => 0))), (q16, .inl (cI, 40, .inl (fun _ => 0))), (q25, .inl (cI, 520, .inl (fun _ => 0))), (q34, .inl (cI, 520, .inl (fun _ => 0))), (q43, .inl (cI, 520, .inl (fun _ => 0))), (q52, .inl (cI, 520, .inl (fun _ => 0))), (q61, .inl (cI, 520, .inl (fun _ => 0)))] := hD
  refine lv_aload_n hx hb d_Mod_init_66 rfl (lv_at hl 0 rfl) ?_
  refine lv_sipush (v := 520) hx hb d_Mod_init_67 (by decide) ?_
  have hsl : 0 + 1200 + 40 + 520 + 520 + 520 + 520 + 520 + 520 ≤ 4360 := by omega
  refine zz_newa (atype := .int) (ty := .int) (N' := 520) (a0 := (520, .inl (fun _ => 0))) hx hb (hw _ wd_97) rfl (fun _ h => h) hK 0 rfl hP hD hS hA (fun _ => rfl) (nI_pos (n := 520) (by decide)) (nI_clamp (n := 520) (by decide)) (Nat.le_of_ble_eq_true rfl) (Nat.le_of_ble_eq_true rfl) hsl d_Mod_init_70 (fun q70 H hP hD hS => ?_)
  have hP : va_P (dC, dI) vwCl [(h, .inr (7, [.ref q8, .ref q16, .int 0, .int 0, .int 0, .int 0, .int 0, .int 0, .int 0, .ref q25, .ref q34, .ref q43, .ref q52, .ref q61, .null, .int 0, .int 0, .int 0, .int 0, .int 0, .int 0, .int 0, .int 0, .int 0, .int 0, .int 0])), (q8, .inl (cI, 1200, .inl (fun _ => 0))), (q16, .inl (cI, 40, .inl (fun _ => 0))), (q25, .inl (cI, 520, .inl (fun _ => 0))), (q34, .inl (cI, 520, .inl (fun _ => 0))), (q43, .inl (cI, 520, .inl (fun _ => 0))), (q52, .inl (cI, 520, .inl (fun _ => 0))), (q61, .inl (cI, 520, .inl (fun _ => 0))), (q70, .inl (cI, 520, .inl (fun _ => 0)))] H := hP
  have hD : va_D A [(h, .inr (7, [.ref q8, .ref q16, .int 0, .int 0, .int 0, .int 0, .int 0, .int 0, .int 0, .ref q25, .ref q34, .ref q43, .ref q52, .ref q61, .null, .int 0, .int 0, .int 0, .int 0, .int 0, .int 0, .int 0, .int 0, .int 0, .int 0, .int 0])), (q8, .inl (cI, 1200, .inl (fun _ => 0))), (q16, .inl (cI, 40, .inl (fun _ => 0))), (q25, .inl (cI, 520, .inl (fun _ => 0))), (q34, .inl (cI, 520, .inl (fun _ => 0))), (q43, .inl (cI, 520, .inl (fun _ => 0))), (q52, .inl (cI, 520, .inl (fun _ => 0))), (q61, .inl (cI, 520, .inl (fun _ => 0))), (q70, .inl (cI, 520, .inl (fun _ => 0)))] := hD
  refine va_putF (D := (dC, dI)) (ci := 7) (v := .ref q70) (ty := .array .int) (C := R_Mod) (T := T_Mod) (N := 26) hx hb hw in_Mod ty_Mod tyok_Mod nm_Mod hown hK hP hD hS 0 rfl rfl 14 (by decide) (hw _ wd_688) (fun _ h9 => h9) rfl hin rfl (tyok_Mod 14 (by decide)) rfl rfl (Nat.le_of_ble_eq_true rfl) d_Mod_init_72 (fun H locs hP hD hS => ?_)
  have hP : va_P (dC, dI) vwCl [(h, .inr (7, [.ref q8, .ref q16, .int 0, .int 0, .int 0, .int 0, .int 0, .int 0, .int 0, .ref q25, .ref q34, .ref q43, .ref q52, .ref q61, .ref q70, .int 0, .int 0, .int 0, .int 0, .int 0, .int 0, .int 0, .int 0, .int 0, .int 0, .int 0])), (q8, .inl (cI, 1200, .inl (fun _ => 0))), (q16, .inl (cI, 40, .inl (fun _ => 0))), (q25, .inl (cI, 520, .inl (fun _ => 0))), (q34, .inl (cI, 520, .inl (fun _ => 0))), (q43, .inl (cI, 520, .inl (fun _ => 0))), (q52, .inl (cI, 520, .inl (fun _ => 0))), (q61, .inl (cI, 520, .inl (fun _ => 0))), (q70, .inl (cI, 520, .inl (fun _ => 0)))] H := hP
  have hD : va_D A [(h, .inr (7, [.ref q8, .ref q16, .int 0, .int 0, .int 0, .int 0, .int 0, .int 0, .int 0, .ref q25, .ref q34, .ref q43, .ref q52, .ref q61, .ref q70, .int 0, .int 0, .int 0, .int 0, .int 0, .int 0, .int 0, .int 0, .int 0, .int 0, .int 0])), (q8, .inl (cI, 1200, .inl (fun _ => 0))), (q16, .inl (cI, 40, .inl (fun _ => 0))), (q25, .inl (cI, 520, .inl (fun _ => 0))), (q34, .inl (cI, 520, .inl (fun _ => 0))), (q43, .inl (cI, 520, .inl (fun _ => 0))), (q52, .inl (cI, 520, .inl (fun _ => 0))), (q61, .inl (cI, 520, .inl (fun _ => 0))), (q70, .inl (cI, 520, .inl (fun _ => 0)))] := hD
  refine W.widen (k := 8) (n := 4360) (by omega) (by omega) ?_
  exact W.vret hx hb hr (fun t ht hW => ⟨⟨(q8, q16, q25, q34, q43, q52, q61, q70), rfl, trivial, by rw [ht]; exact hP, hD⟩, hS.F ht⟩) hS.2.2 d_Mod_init_75
abbrev ws_RT_init : List Cond := .code y_RT_init prog_1_method_1_code 1 none :: zw
abbrev rm_RT_init : Room := { frames := 3, cells := 22, slots := 2907, locals := 61 }
theorem hd_RT_init : y_RT_init.cls ≠ "java/lang/invoke/MethodHandle" ∧ y_RT_init.cls ≠ "java/lang/invoke/VarHandle" ∧ (parseMethodDescriptor y_RT_init.desc).map (fun d => d.parameters.length) = some 0 := by decide +kernel
theorem d_RT_init_0 : decode prog_1_method_1_code 0 = .ok (.aload_n 0, 1) := by decide +kernel
theorem d_RT_init_1 : decode prog_1_method_1_code 1 = .ok (.invokespecial 1, 3) := by decide +kernel
theorem d_RT_init_4 : decode prog_1_method_1_code 4 = .ok (.aload_n 0, 1) := by decide +kernel
theorem d_RT_init_5 : decode prog_1_method_1_code 5 = .ok (.new 7, 3) := by decide +kernel
theorem d_RT_init_8 : decode prog_1_method_1_code 8 = .ok (.dup, 1) := by decide +kernel
theorem d_RT_init_9 : decode prog_1_method_1_code 9 = .ok (.sipush 1200, 3) := by decide +kernel
theorem d_RT_init_12 : decode prog_1_method_1_code 12 = .ok (.invokespecial 11, 3) := by decide +kernel
theorem d_RT_init_15 : decode prog_1_method_1_code 15 = .ok (.putfield 14, 3) := by decide +kernel
theorem d_RT_init_18 : decode prog_1_method_1_code 18 = .ok (.aload_n 0, 1) := by decide +kernel
theorem d_RT_init_19 : decode prog_1_method_1_code 19 = .ok (.new 7, 3) := by decide +kernel
theorem d_RT_init_22 : decode prog_1_method_1_code 22 = .ok (.dup, 1) := by decide +kernel
theorem d_RT_init_23 : decode prog_1_method_1_code 23 = .ok (.bipush 32, 2) := by decide +kernel
theorem d_RT_init_25 : decode prog_1_method_1_code 25 = .ok (.invokespecial 11, 3) := by decide +kernel
theorem d_RT_init_28 : decode prog_1_method_1_code 28 = .ok (.putfield 18, 3) := by decide +kernel
theorem d_RT_init_31 : decode prog_1_method_1_code 31 = .ok (.aload_n 0, 1) := by decide +kernel
theorem d_RT_init_32 : decode prog_1_method_1_code 32 = .ok (.new 21, 3) := by decide +kernel
theorem d_RT_init_35 : decode prog_1_method_1_code 35 = .ok (.dup, 1) := by decide +kernel
theorem d_RT_init_36 : decode prog_1_method_1_code 36 = .ok (.invokespecial 23, 3) := by decide +kernel
theorem d_RT_init_39 : decode prog_1_method_1_code 39 = .ok (.putfield 24, 3) := by decide +kernel
theorem d_RT_init_42 : decode prog_1_method_1_code 42 = .ok (.aload_n 0, 1) := by decide +kernel
theorem d_RT_init_43 : decode prog_1_method_1_code 43 = .ok (.new 28, 3) := by decide +kernel
theorem d_RT_init_46 : decode prog_1_method_1_code 46 = .ok (.dup, 1) := by decide +kernel
theorem d_RT_init_47 : decode prog_1_method_1_code 47 = .ok (.invokespecial 30, 3) := by decide +kernel
theorem d_RT_init_50 : decode prog_1_method_1_code 50 = .ok (.putfield 31, 3) := by decide +kernel
theorem d_RT_init_53 : decode prog_1_method_1_code 53 = .ok (.aload_n 0, 1) := by decide +kernel
theorem d_RT_init_54 : decode prog_1_method_1_code 54 = .ok (.new 35, 3) := by decide +kernel
theorem d_RT_init_57 : decode prog_1_method_1_code 57 = .ok (.dup, 1) := by decide +kernel
theorem d_RT_init_58 : decode prog_1_method_1_code 58 = .ok (.invokespecial 37, 3) := by decide +kernel
theorem d_RT_init_61 : decode prog_1_method_1_code 61 = .ok (.putfield 38, 3) := by decide +kernel
theorem d_RT_init_64 : decode prog_1_method_1_code 64 = .ok (.aload_n 0, 1) := by decide +kernel
theorem d_RT_init_65 : decode prog_1_method_1_code 65 = .ok (.new 42, 3) := by decide +kernel
theorem d_RT_init_68 : decode prog_1_method_1_code 68 = .ok (.dup, 1) := by decide +kernel
theorem d_RT_init_69 : decode prog_1_method_1_code 69 = .ok (.invokespecial 44, 3) := by decide +kernel
theorem d_RT_init_72 : decode prog_1_method_1_code 72 = .ok (.putfield 45, 3) := by decide +kernel
theorem d_RT_init_75 : decode prog_1_method_1_code 75 = .ok (.return_, 1) := by decide +kernel
set_option maxHeartbeats 4000000 in
set_option maxRecDepth 100000 in
theorem c_RT_init (l : Launch) (dC : Nat → ClassId) (dI : Nat → Nat → Nat) (cI cC cB cJ : ClassId) (adF : Nat → Nat) (tp : Nat) (adK adV : Nat → Nat) (sz : Nat) (h : Nat) : Met l y_RT_init ws_RT_init rm_RT_init (zz_P (zx_E adF tp adK adV) (dC, dI) vwCl (zz_tys cI cC cB cJ) [.ref h] [(h, .inr (6, [.null, .null, .null, .null, .null, .null, .int 0, .int 0, .int 0]))] sz) (va_Qv (S := Nat × Nat × Nat × Nat × Nat × Nat × Nat × Nat × Nat × Nat × Nat × Nat × Nat × Nat × Nat × Nat × Nat × Nat × Nat × Nat × Nat × Nat) (fun _ => True) (fun u t => zz_B (dC, dI) vwCl (va_A [(h, .inr (6, [.null, .null, .null, .null, .null, .null, .int 0, .int 0, .int 0]))] sz) [(h, .inr (6, [.ref u.1, .ref u.2.2.1, .ref u.2.2.2.2.1, .ref u.2.2.2.2.2.2.1, .ref u.2.2.2.2.2.2.2.2.2.2.2.1, .ref u.2.2.2.2.2.2.2.2.2.2.2.2.2.2.2.2.2.2.2.2.1, .int 0, .int 0, .int 0])), (u.1, .inr (4, [.ref u.2.1, .int 0, .int 0])), (u.2.1, .inl (cC, 1200, .inl (fun _ => 0))), (u.2.2.1, .inr (4, [.ref u.2.2.2.1, .int 0, .int 0])), (u.2.2.2.1, .inl (cC, 32, .inl (fun _ => 0))), (u.2.2.2.2.1, .inr (2, [.ref u.2.2.2.2.2.1, .int 0, .int 0, .int 0, .int 0])), (u.2.2.2.2.2.1, .inl (cB, 1200, .inl (fun _ => 0))), (u.2.2.2.2.2.2.1, .inr (3, [.ref u.2.2.2.2.2.2.2.1, .ref u.2.2.2.2.2.2.2.2.2.1, .long 0, .int 0, .int 0])), (u.2.2.2.2.2.2.2.1, .inr (0, [.ref u.2.2.2.2.2.2.2.2.1, .int 0])), (u.2.2.2.2.2.2.2.2.1, .inl (cI, 128, .inl (fun _ => 0))), (u.2.2.2.2.2.2.2.2.2.1, .inr (0, [.ref u.2.2.2.2.2.2.2.2.2.2.1, .int 0])), (u.2.2.2.2.2.2.2.2.2.2.1, .inl (cI, 128, .inl (fun _ => 0))), (u.2.2.2.2.2.2.2.2.2.2.2.1, .inr (5, [.ref u.2.2.2.2.2.2.2.2.2.2.2.2.1, .ref u.2.2.2.2.2.2.2.2.2.2.2.2.2.2.1, .ref u.2.2.2.2.2.2.2.2.2.2.2.2.2.2.2.2.1, .ref u.2.2.2.2.2.2.2.2.2.2.2.2.2.2.2.2.2.2.1, .int 0, .int 0, .long 0, .int 0])), (u.2.2.2.2.2.2.2.2.2.2.2.2.1, .inr (0, [.ref u.2.2.2.2.2.2.2.2.2.2.2.2.2.1, .int 0])), (u.2.2.2.2.2.2.2.2.2.2.2.2.2.1, .inl (cI, 40, .inl (fun _ => 0))), (u.2.2.2.2.2.2.2.2.2.2.2.2.2.2.1, .inr (0, [.ref u.2.2.2.2.2.2.2.2.2.2.2.2.2.2.2.1, .int 0])), (u.2.2.2.2.2.2.2.2.2.2.2.2.2.2.2.1, .inl (cI, 40, .inl (fun _ => 0))), (u.2.2.2.2.2.2.2.2.2.2.2.2.2.2.2.2.1, .inr (0, [.ref u.2.2.2.2.2.2.2.2.2.2.2.2.2.2.2.2.2.1, .int 0])), (u.2.2.2.2.2.2.2.2.2.2.2.2.2.2.2.2.2.1, .inl (cI, 40, .inl (fun _ => 0))), (u.2.2.2.2.2.2.2.2.2.2.2.2.2.2.2.2.2.2.1, .inr (0, [.ref u.2.2.2.2.2.2.2.2.2.2.2.2.2.2.2.2.2.2.2.1, .int 0])), (u.2.2.2.2.2.2.2.2.2.2.2.2.2.2.2.2.2.2.2.1, .inl (cI, 40, .inl (fun _ => 0))), (u.2.2.2.2.2.2.2.2.2.2.2.2.2.2.2.2.2.2.2.2.1, .inr (1, [.ref u.2.2.2.2.2.2.2.2.2.2.2.2.2.2.2.2.2.2.2.2.2, .int 0, .int 0])), (u.2.2.2.2.2.2.2.2.2.2.2.2.2.2.2.2.2.2.2.2.2, .inl (cB, 20, .inl (fun _ => 0)))] t) (va_A [(h, .inr (6, [.null, .null, .null, .null, .null, .null, .int 0, .int 0, .int 0]))] sz)) 22 (2907) (va_A [(h, .inr (6, [.null, .null, .null, .null, .null, .null, .int 0, .int 0, .int 0]))] sz) := by
  refine Met.ofW (cc := prog_1_method_1_code) (maxL := 1) (ret := none) (by decide +kernel) rfl ?_
  intro p e s m args below meth c s₁ B hml hv
  obtain ⟨rfl, hsz, hP, hK, hD0, hX⟩ := hv
  have hx := B.exec
  have hb := B.bytes
  have hr := B.returns
  have hts := atoms_spec (ws := ws_RT_init) B.pre
  have hw : ∀ w ∈ zw, w.before [.ref h].toArray s = true := fun w h => hts w (List.mem_cons_of_mem _ h)
  have hown : s.vm.findClass R_RT = some m.cls := findClass_of_methodNamed B.named
  have hlocks := B.notSynchronized
  have hin : meth.name = "<init>" := (name_of_methodNamed B.named B.method).1
  subst hsz
  have hD := hD0.self (sz := s.heap.size)
  generalize hAe : va_A [(h, .inr (6, [.null, .null, .null, .null, .null, .null, .int 0, .int 0, .int 0]))] s.heap.size = A at hD hX ⊢
  have hA : ∀ q : Nat, s.heap.size ≤ q → A q := fun q h => by rw [← hAe]; exact Or.inr h
  have hS : va_S A s.heap s.heap [] := va_S.rf
  have hl := lv_entry [.ref h] (n := 1) (Nat.le_of_ble_eq_true rfl)
  rw [lg_entry_eq]
  generalize (lg_sl [.ref h] ++ List.replicate (1 - (lg_sl [.ref h]).length) Slot.unset).toArray = ls at hl ⊢
  have hl : lv_has ls 1 [(0, .ref h)] := hl
  refine lv_aload_n hx hb d_RT_init_0 rfl (lv_at hl 0 rfl) ?_
  refine W.objInit hx hb hown (hw _ wd_28) (hw _ wd_29) (hw _ wd_30) rfl (by rw [hml]; exact hl.1) rfl d_RT_init_1 (Nat.le_of_ble_eq_true rfl) (Nat.le_of_ble_eq_true rfl) ?_
  refine W.eq (g2 := F0 m 4 ls []) rfl ?_
  refine lv_aload_n hx hb d_RT_init_4 rfl (lv_at hl 0 rfl) ?_
  have hsl : 0 + 3 ≤ 2907 := by omega
  refine va_new (ci := 4) (fs := [.null, .int 0, .int 0]) (C := R_Row) (T := T_Row) (N := 3) hx hb hw in_Row ty_Row tyok_Row hown (hw _ wd_31) (hw _ wd_32) (hw _ wd_2) hK hP hD hS hA rfl (fun j hj => by rcases (show j = 0 ∨ j = 1 ∨ j = 2 by omega) with rfl | rfl | rfl <;> rfl) (Nat.le_of_ble_eq_true rfl) hsl d_RT_init_5 (fun q5 H hP hD hS => ?_)
  have hP : va_P (dC, dI) vwCl [(h, .inr (6, [.null, .null, .null, .null, .null, .null, .int 0, .int 0, .int 0])), (q5, .inr (4, [.null, .int 0, .int 0]))] H := hP
  have hD : va_D A [(h, .inr (6, [.null, .null, .null, .null, .null, .null, .int 0, .int 0, .int 0])), (q5, .inr (4, [.null, .int 0, .int 0]))] := hD
  refine lv_dup hx hb d_RT_init_8 rfl ?_
  refine lv_sipush (v := 1200) hx hb d_RT_init_9 (by decide) ?_
  have hsl : 0 + 3 + 1200 ≤ 2907 := by omega
  refine zz_cn (S := Nat) (ws' := fun u12 => [(h, .inr (6, [.null, .null, .null, .null, .null, .null, .int 0, .int 0, .int 0])), (q5, .inr (4, [.ref u12, .int 0, .int 0])), (u12, .inl (cC, 1200, .inl (fun _ => 0)))]) (wc := [(q5, .inr (4, [.null, .int 0, .int 0]))]) (w' := fun u12 => [(q5, .inr (4, [.ref u12, .int 0, .int 0])), (u12, .inl (cC, 1200, .inl (fun _ => 0)))]) hP hD hS hA [1] [0] [0, 1, 2] rfl rfl (by decide) (by decide) (fun _ => rfl) (by decide) (va_runI (As := [.int 1200]) (rest := [.ref q5, .ref h]) ⟨hx, hb, hml, hown, hw⟩ (c_Row_init l dC dI cI cC cB cJ _ q5 1200 (by decide)) (cwI 1 hw (zg_C wd_35) rfl rfl rfl (hw _ wd_2) (hw _ wd_33) (hw _ wd_34) rfl hd_Row_init ⟨Nat.le_of_ble_eq_true rfl, Nat.le_of_ble_eq_true rfl⟩) (zz_preS zz_TE hP hD hK hS hA trivial [1] rfl (by decide)) rfl rfl hl.1 rfl (lv_room (Nat.le_of_ble_eq_true rfl)) d_RT_init_12 ⟨Nat.le_of_ble_eq_true rfl, hsl⟩) (fun u12 H locs hP hD hS => ?_)
  refine va_putF (D := (dC, dI)) (ci := 6) (v := .ref q5) (ty := .object "RealText$Row") (C := R_RT) (T := T_RT) (N := 9) hx hb hw in_RT ty_RT tyok_RT nm_RT hown hK hP hD hS 0 rfl rfl 0 (by decide) (hw _ wd_168) (fun _ h9 => h9) rfl hin rfl (tyok_RT 0 (by decide)) rfl rfl (Nat.le_of_ble_eq_true rfl) d_RT_init_15 (fun H locs hP hD hS => ?_)
  have hP : va_P (dC, dI) vwCl [(h, .inr (6, [.ref q5, .null, .null, .null, .null, .null, .int 0, .int 0, .int 0])), (q5, .inr (4, [.ref u12, .int 0, .int 0])), (u12, .inl (cC, 1200, .inl (fun _ => 0)))] H := hP
  have hD : va_D A [(h, .inr (6, [.ref q5, .null, .null, .null, .null, .null, .int 0, .int 0, .int 0])), (q5, .inr (4, [.ref u12, .int 0, .int 0])), (u12, .inl (cC, 1200, .inl (fun _ => 0)))] := hD
  refine lv_aload_n hx hb d_RT_init_18 rfl (lv_at hl 0 rfl) ?_
  have hsl : 0 + 3 + 1200 + 3 ≤ 2907 := by omega
  refine va_new (ci := 4) (fs := [.null, .int 0, .int 0]) (C := R_Row) (T := T_Row) (N := 3) hx hb hw in_Row ty_Row tyok_Row hown (hw _ wd_31) (hw _ wd_32) (hw _ wd_2) hK hP hD hS hA rfl (fun j hj => by rcases (show j = 0 ∨ j = 1 ∨ j = 2 by omega) with rfl | rfl | rfl <;> rfl) (Nat.le_of_ble_eq_true rfl) hsl d_RT_init_19 (fun q19 H hP hD hS => ?_)
  have hP : va_P (dC, dI) vwCl [(h, .inr (6, [.ref q5, .null, .null, .null, .null, .null, .int 0, .int 0, .int 0])), (q5, .inr (4, [.ref u12, .int 0, .int 0])), (u12, .inl (cC, 1200, .inl (fun _ => 0))), (q19, .inr (4, [.null, .int 0, .int 0]))] H := hP
  have hD : va_D A [(h, .inr (6, [.ref q5, .null, .null, .null, .null, .null, .int 0, .int 0, .int 0])), (q5, .inr (4, [.ref u12, .int 0, .int 0])), (u12, .inl (cC, 1200, .inl (fun _ => 0))), (q19, .inr (4, [.null, .int 0, .int 0]))] := hD
  refine lv_dup hx hb d_RT_init_22 rfl ?_
  refine lv_bipush (v := 32) hx hb d_RT_init_23 (by decide) ?_
  have hsl : 0 + 3 + 1200 + 3 + 32 ≤ 2907 := by omega
  refine zz_cn (S := Nat) (ws' := fun u25 => [(h, .inr (6, [.ref q5, .null, .null, .null, .null, .null, .int 0, .int 0, .int 0])), (q5, .inr (4, [.ref u12, .int 0, .int 0])), (u12, .inl (cC, 1200, .inl (fun _ => 0))), (q19, .inr (4, [.ref u25, .int 0, .int 0])), (u25, .inl (cC, 32, .inl (fun _ => 0)))]) (wc := [(q19, .inr (4, [.null, .int 0, .int 0]))]) (w' := fun u25 => [(q19, .inr (4, [.ref u25, .int 0, .int 0])), (u25, .inl (cC, 32, .inl (fun _ => 0)))]) hP hD hS hA [3] [0, 1, 2] [0, 1, 2, 3, 4] rfl rfl (by decide) (by decide) (fun _ => rfl) (by decide) (va_runI (As := [.int 32]) (rest := [.ref q19, .ref h]) ⟨hx, hb, hml, hown, hw⟩ (c_Row_init l dC dI cI cC cB cJ _ q19 32 (by decide)) (cwI 1 hw (zg_C wd_35) rfl rfl rfl (hw _ wd_2) (hw _ wd_33) (hw _ wd_34) rfl hd_Row_init ⟨Nat.le_of_ble_eq_true rfl, Nat.le_of_ble_eq_true rfl⟩) (zz_preS zz_TE hP hD hK hS hA trivial [3] rfl (by decide)) rfl rfl hl.1 rfl (lv_room (Nat.le_of_ble_eq_true rfl)) d_RT_init_25 ⟨Nat.le_of_ble_eq_true rfl, hsl⟩) (fun u25 H locs hP hD hS => ?_)
  refine va_putF (D := (dC, dI)) (ci := 6) (v := .ref q19) (ty := .object "RealText$Row") (C := R_RT) (T := T_RT) (N := 9) hx hb hw in_RT ty_RT tyok_RT nm_RT hown hK hP hD hS 0 rfl rfl 1 (by decide) (hw _ wd_169) (fun _ h9 => h9) rfl hin rfl (tyok_RT 1 (by decide)) rfl rfl (Nat.le_of_ble_eq_true rfl) d_RT_init_28 (fun H locs hP hD hS => ?_)
  have hP : va_P (dC, dI) vwCl [(h, .inr (6, [.ref q5, .ref q19, .null, .null, .null, .null, .int 0, .int 0, .int 0])), (q5, .inr (4, [.ref u12, .int 0, .int 0])), (u12, .inl (cC, 1200, .inl (fun _ => 0))), (q19, .inr (4, [.ref u25, .int 0, .int 0])), (u25, .inl (cC, 32, .inl (fun _ => 0)))] H := hP
  have hD : va_D A [(h, .inr (6, [.ref q5, .ref q19, .null, .null, .null, .null, .int 0, .int 0, .int 0])), (q5, .inr (4, [.ref u12, .int 0, .int 0])), (u12, .inl (cC, 1200, .inl (fun _ => 0))), (q19, .inr (4, [.ref u25, .int 0, .int 0])), (u25, .inl (cC, 32, .inl (fun _ => 0)))] := hD
  refine lv_aload_n hx hb d_RT_init_31 rfl (lv_at hl 0 rfl) ?_
  have hsl : 0 + 3 + 1200 + 3 + 32 + 5 ≤ 2907 := by omega
  refine va_new (ci := 2) (fs := [.null, .int 0, .int 0, .int 0, .int 0]) (C := R_Lit) (T := T_Lit) (N := 5) hx hb hw in_Lit ty_Lit tyok_Lit hown (hw _ wd_48) (hw _ wd_49) (hw _ wd_3) hK hP hD hS hA rfl (fun j hj => by rcases (show j = 0 ∨ j = 1 ∨ j = 2 ∨ j = 3 ∨ j = 4 by omega) with rfl | rfl | rfl | rfl | rfl <;> rfl) (Nat.le_of_ble_eq_true rfl) hsl d_RT_init_32 (fun q32 H hP hD hS => ?_)
  have hP : va_P (dC, dI) vwCl [(h, .inr (6, [.ref q5, .ref q19, .null, .null, .null, .null, .int 0, .int 0, .int 0])), (q5, .inr (4, [.ref u12, .int 0, .int 0])), (u12, .inl (cC, 1200, .inl (fun _ => 0))), (q19, .inr (4, [.ref u25, .int 0, .int 0])), (u25, .inl (cC, 32, .inl (fun _ => 0))), (q32, .inr (2, [.null, .int 0, .int 0, .int 0, .int 0]))] H := hP
  have hD : va_D A [(h, .inr (6, [.ref q5, .ref q19, .null, .null, .null, .null, .int 0, .int 0, .int 0])), (q5, .inr (4, [.ref u12, .int 0, .int 0])), (u12, .inl (cC, 1200, .inl (fun _ => 0))), (q19, .inr (4, [.ref u25, .int 0, .int 0])), (u25, .inl (cC, 32, .inl (fun _ => 0))), (q32, .inr (2, [.null, .int 0, .int 0, .int 0, .int 0]))] := hD
  refine lv_dup hx hb d_RT_init_35 rfl ?_
  have hsl : 0 + 3 + 1200 + 3 + 32 + 5 + 1200 ≤ 2907 := by omega
  refine zz_cn (S := Nat) (ws' := fun u36 => [(h, .inr (6, [.ref q5, .ref q19, .null, .null, .null, .null, .int 0, .int 0, .int 0])), (q5, .inr (4, [.ref u12, .int 0, .int 0])), (u12, .inl (cC, 1200, .inl (fun _ => 0))), (q19, .inr (4, [.ref u25, .int 0, .int 0])), (u25, .inl (cC, 32, .inl (fun _ => 0))), (q32, .inr (2, [.ref u36, .int 0, .int 0, .int 0, .int 0])), (u36, .inl (cB, 1200, .inl (fun _ => 0)))]) (wc := [(q32, .inr (2, [.null, .int 0, .int 0, .int 0, .int 0]))]) (w' := fun u36 => [(q32, .inr (2, [.ref u36, .int 0, .int 0, .int 0, .int 0])), (u36, .inl (cB, 1200, .inl (fun _ => 0)))]) hP hD hS hA [5] [0, 1, 2, 3, 4] [0, 1, 2, 3, 4, 5, 6] rfl rfl (by decide) (by decide) (fun _ => rfl) (by decide) (va_runIN (As := []) (rest := [.ref q32, .ref h]) ⟨hx, hb, hml, hown, hw⟩ (c_Lit_init l dC dI cI cC cB cJ _ q32) ⟨va_cnB 0 hw (zg_C wd_52) rfl rfl rfl hX.2.2.2.2.2.2.2.2.2.2.2.2.2.2.1 (hw _ wd_3) hd_Lit_init ⟨Nat.le_of_ble_eq_true rfl, Nat.le_of_ble_eq_true rfl⟩, rfl, hw _ wd_51⟩ (zz_preS zz_TE hP hD hK hS hA trivial [5] rfl (by decide)) rfl rfl hl.1 rfl (lv_room (Nat.le_of_ble_eq_true rfl)) d_RT_init_36 ⟨Nat.le_of_ble_eq_true rfl, hsl⟩) (fun u36 H locs hP hD hS => ?_)
  refine va_putF (D := (dC, dI)) (ci := 6) (v := .ref q32) (ty := .object "RealText$Literal") (C := R_RT) (T := T_RT) (N := 9) hx hb hw in_RT ty_RT tyok_RT nm_RT hown hK hP hD hS 0 rfl rfl 2 (by decide) (hw _ wd_170) (fun _ h9 => h9) rfl hin rfl (tyok_RT 2 (by decide)) rfl rfl (Nat.le_of_ble_eq_true rfl) d_RT_init_39 (fun H locs hP hD hS => ?_)
  have hP : va_P (dC, dI) vwCl [(h, .inr (6, [.ref q5, .ref q19, .ref q32, .null, .null, .null, .int 0, .int 0, .int 0])), (q5, .inr (4, [.ref u12, .int 0, .int 0])), (u12, .inl (cC, 1200, .inl (fun _ => 0))), (q19, .inr (4, [.ref u25, .int 0, .int 0])), (u25, .inl (cC, 32, .inl (fun _ => 0))), (q32, .inr (2, [.ref u36, .int 0, .int 0, .int 0, .int 0])), (u36, .inl (cB, 1200, .inl (fun _ => 0)))] H := hP
  have hD : va_D A [(h, .inr (6, [.ref q5, .ref q19, .ref q32, .null, .null, .null, .int 0, .int 0, .int 0])), (q5, .inr (4, [.ref u12, .int 0, .int 0])), (u12, .inl (cC, 1200, .inl (fun _ => 0))), (q19, .inr (4, [.ref u25, .int 0, .int 0])), (u25, .inl (cC, 32, .inl (fun _ => 0))), (q32, .inr (2, [.ref u36, .int 0, .int 0, .int 0, .int 0])), (u36, .inl (cB, 1200, .inl (fun _ => 0)))] := hD
  refine lv_aload_n hx hb d_RT_init_42 rfl (lv_at hl 0 rfl) ?_
  have hsl : 0 + 3 + 1200 + 3 + 32 + 5 + 1200 + 5 ≤ 2907 := by omega
  refine va_new (ci := 3) (fs := [.null, .null, .long 0, .int 0, .int 0]) (C := R_Quo) (T := T_Quo) (N := 5) hx hb hw in_Quo ty_Quo tyok_Quo hown (hw _ wd_78) (hw _ wd_79) (hw _ wd_4) hK hP hD hS hA rfl (fun j hj => by rcases (show j = 0 ∨ j = 1 ∨ j = 2 ∨ j = 3 ∨ j = 4 by omega) with rfl | rfl | rfl | rfl | rfl <;> rfl) (Nat.le_of_ble_eq_true rfl) hsl d_RT_init_43 (fun q43 H hP hD hS => ?_)
  have hP : va_P (dC, dI) vwCl [(h, .inr (6, [.ref q5, .ref q19, .ref q32, .null, .null, .null, .int 0, .int 0, .int 0])), (q5, .inr (4, [.ref u12, .int 0, .int 0])), (u12, .inl (cC, 1200, .inl (fun _ => 0))), (q19, .inr (4, [.ref u25, .int 0, .int 0])), (u25, .inl (cC, 32, .inl (fun _ => 0))), (q32, .inr (2, [.ref u36, .int 0, .int 0, .int 0, .int 0])), (u36, .inl (cB, 1200, .inl (fun _ => 0))), (q43, .inr (3, [.null, .null, .long 0, .int 0, .int 0]))] H := hP
  have hD : va_D A [(h, .inr (6, [.ref q5, .ref q19, .ref q32, .null, .null, .null, .int 0, .int 0, .int 0])), (q5, .inr (4, [.ref u12, .int 0, .int 0])), (u12, .inl (cC, 1200, .inl (fun _ => 0))), (q19, .inr (4, [.ref u25, .int 0, .int 0])), (u25, .inl (cC, 32, .inl (fun _ => 0))), (q32, .inr (2, [.ref u36, .int 0, .int 0, .int 0, .int 0])), (u36, .inl (cB, 1200, .inl (fun _ => 0))), (q43, .inr (3, [.null, .null, .long 0, .int 0, .int 0]))] := hD
  refine lv_dup hx hb d_RT_init_46 rfl ?_
  have hsl : 0 + 3 + 1200 + 3 + 32 + 5 + 1200 + 5 + 260 ≤ 2907 := by omega
  refine zz_cn (S := Nat × Nat × Nat × Nat) (ws' := fun u47 => [(h, .inr (6, [.ref q5, .ref q19, .ref q32, .null, .null, .null, .int 0, .int 0, .int 0])), (q5, .inr (4, [.ref u12, .int 0, .int 0])), (u12, .inl (cC, 1200, .inl (fun _ => 0))), (q19, .inr (4, [.ref u25, .int 0, .int 0])), (u25, .inl (cC, 32, .inl (fun _ => 0))), (q32, .inr (2, [.ref u36, .int 0, .int 0, .int 0, .int 0])), (u36, .inl (cB, 1200, .inl (fun _ => 0))), (q43, .inr (3, [.ref u47.1, .ref u47.2.2.1, .long 0, .int 0, .int 0])), (u47.1, .inr (0, [.ref u47.2.1, .int 0])), (u47.2.1, .inl (cI, 128, .inl (fun _ => 0))), (u47.2.2.1, .inr (0, [.ref u47.2.2.2, .int 0])), (u47.2.2.2, .inl (cI, 128, .inl (fun _ => 0)))]) (wc := [(q43, .inr (3, [.null, .null, .long 0, .int 0, .int 0]))]) (w' := fun u47 => [(q43, .inr (3, [.ref u47.1, .ref u47.2.2.1, .long 0, .int 0, .int 0])), (u47.1, .inr (0, [.ref u47.2.1, .int 0])), (u47.2.1, .inl (cI, 128, .inl (fun _ => 0))), (u47.2.2.1, .inr (0, [.ref u47.2.2.2, .int 0])), (u47.2.2.2, .inl (cI, 128, .inl (fun _ => 0)))]) hP hD hS hA [7] [0, 1, 2, 3, 4, 5, 6] [0, 1, 2, 3, 4, 5, 6, 7, 8, 9, 10, 11] rfl rfl (by decide) (by decide) (fun _ => rfl) (by decide) (va_runIN (As := []) (rest := [.ref q43, .ref h]) ⟨hx, hb, hml, hown, hw⟩ (c_Quo_init l dC dI cI cC cB cJ _ q43) ⟨va_cnB 0 hw (zg_C wd_82) rfl rfl rfl hX.2.2.2.2.2.2.2.2.2.2.2.2.2.2.2.1 (hw _ wd_4) hd_Quo_init ⟨Nat.le_of_ble_eq_true rfl, Nat.le_of_ble_eq_true rfl⟩, rfl, hw _ wd_81⟩ (zz_preS zz_TE hP hD hK hS hA trivial [7] rfl (by decide)) rfl rfl hl.1 rfl (lv_room (Nat.le_of_ble_eq_true rfl)) d_RT_init_47 ⟨Nat.le_of_ble_eq_true rfl, hsl⟩) (fun u47 H locs hP hD hS => ?_)
  refine va_putF (D := (dC, dI)) (ci := 6) (v := .ref q43) (ty := .object "RealText$Quotient") (C := R_RT) (T := T_RT) (N := 9) hx hb hw in_RT ty_RT tyok_RT nm_RT hown hK hP hD hS 0 rfl rfl 3 (by decide) (hw _ wd_171) (fun _ h9 => h9) rfl hin rfl (tyok_RT 3 (by decide)) rfl rfl (Nat.le_of_ble_eq_true rfl) d_RT_init_50 (fun H locs hP hD hS => ?_)
  have hP : va_P (dC, dI) vwCl [(h, .inr (6, [.ref q5, .ref q19, .ref q32, .ref q43, .null, .null, .int 0, .int 0, .int 0])), (q5, .inr (4, [.ref u12, .int 0, .int 0])), (u12, .inl (cC, 1200, .inl (fun _ => 0))), (q19, .inr (4, [.ref u25, .int 0, .int 0])), (u25, .inl (cC, 32, .inl (fun _ => 0))), (q32, .inr (2, [.ref u36, .int 0, .int 0, .int 0, .int 0])), (u36, .inl (cB, 1200, .inl (fun _ => 0))), (q43, .inr (3, [.ref u47.1, .ref u47.2.2.1, .long 0, .int 0, .int 0])), (u47.1, .inr (0, [.ref u47.2.1, .int 0])), (u47.2.1, .inl (cI, 128, .inl (fun _ => 0))), (u47.2.2.1, .inr (0, [.ref u47.2.2.2, .int 0])), (u47.2.2.2, .inl (cI, 128, .inl (fun _ => 0)))] H := hP
  have hD : va_D A [(h, .inr (6, [.ref q5, .ref q19, .ref q32, .ref q43, .null, .null, .int 0, .int 0, .int 0])), (q5, .inr (4, [.ref u12, .int 0, .int 0])), (u12, .inl (cC, 1200, .inl (fun _ => 0))), (q19, .inr (4, [.ref u25, .int 0, .int 0])), (u25, .inl (cC, 32, .inl (fun _ => 0))), (q32, .inr (2, [.ref u36, .int 0, .int 0, .int 0, .int 0])), (u36, .inl (cB, 1200, .inl (fun _ => 0))), (q43, .inr (3, [.ref u47.1, .ref u47.2.2.1, .long 0, .int 0, .int 0])), (u47.1, .inr (0, [.ref u47.2.1, .int 0])), (u47.2.1, .inl (cI, 128, .inl (fun _ => 0))), (u47.2.2.1, .inr (0, [.ref u47.2.2.2, .int 0])), (u47.2.2.2, .inl (cI, 128, .inl (fun _ => 0)))] := hD
  refine lv_aload_n hx hb d_RT_init_53 rfl (lv_at hl 0 rfl) ?_
  have hsl : 0 + 3 + 1200 + 3 + 32 + 5 + 1200 + 5 + 260 + 8 ≤ 2907 := by omega
  refine va_new (ci := 5) (fs := [.null, .null, .null, .null, .int 0, .int 0, .long 0, .int 0]) (C := R_Sho) (T := T_Sho) (N := 8) hx hb hw in_Sho ty_Sho tyok_Sho hown (hw _ wd_117) (hw _ wd_118) (hw _ wd_6) hK hP hD hS hA rfl (fun j hj => by rcases (show j = 0 ∨ j = 1 ∨ j = 2 ∨ j = 3 ∨ j = 4 ∨ j = 5 ∨ j = 6 ∨ j = 7 by omega) with rfl | rfl | rfl | rfl | rfl | rfl | rfl | rfl <;> rfl) (Nat.le_of_ble_eq_true rfl) hsl d_RT_init_54 (fun q54 H hP hD hS => ?_)
  have hP : va_P (dC, dI) vwCl [(h, .inr (6, [.ref q5, .ref q19, .ref q32, .ref q43, .null, .null, .int 0, .int 0, .int 0])), (q5, .inr (4, [.ref u12, .int 0, .int 0])), (u12, .inl (cC, 1200, .inl (fun _ => 0))), (q19, .inr (4, [.ref u25, .int 0, .int 0])), (u25, .inl (cC, 32, .inl (fun _ => 0))), (q32, .inr (2, [.ref u36, .int 0, .int 0, .int 0, .int 0])), (u36, .inl (cB, 1200, .inl (fun _ => 0))), (q43, .inr (3, [.ref u47.1, .ref u47.2.2.1, .long 0, .int 0, .int 0])), (u47.1, .inr (0, [.ref u47.2.1, .int 0])), (u47.2.1, .inl (cI, 128, .inl (fun _ => 0))), (u47.2.2.1, .inr (0, [.ref u47.2.2.2, .int 0])), (u47.2.2.2, .inl (cI, 128, .inl (fun _ => 0))), (q54, .inr (5, [.null, .null, .null, .null, .int 0, .int 0, .long 0, .int 0]))] H := hP
  have hD : va_D A [(h, .inr (6, [.ref q5, .ref q19, .ref q32, .ref q43, .null, .null, .int 0, .int 0, .int 0])), (q5, .inr (4, [.ref u12, .int 0, .int 0])), (u12, .inl (cC, 1200, .inl (fun _ => 0))), (q19, .inr (4, [.ref u25, .int 0, .int 0])), (u25, .inl (cC, 32, .inl (fun _ => 0))), (q32, .inr (2, [.ref u36, .int 0, .int 0, .int 0, .int 0])), (u36, .inl (cB, 1200, .inl (fun _ => 0))), (q43, .inr (3, [.ref u47.1, .ref u47.2.2.1, .long 0, .int 0, .int 0])), (u47.1, .inr (0, [.ref u47.2.1, .int 0])), (u47.2.1, .inl (cI, 128, .inl (fun _ => 0))), (u47.2.2.1, .inr (0, [.ref u47.2.2.2, .int 0])), (u47.2.2.2, .inl (cI, 128, .inl (fun _ => 0))), (q54, .inr (5, [.null, .null, .null, .null, .int 0, .int 0, .long 0, .int 0]))] := hD
  refine lv_dup hx hb d_RT_init_57 rfl ?_
  have hsl : 0 + 3 + 1200 + 3 + 32 + 5 + 1200 + 5 + 260 + 8 + 168 ≤ 2907 := by omega
  refine zz_cn (S := Nat × Nat × Nat × Nat × Nat × Nat × Nat × Nat) (ws' := fun u58 => [(h, .inr (6, [.ref q5, .ref q19, .ref q32, .ref q43, .null, .null, .int 0, .int 0, .int 0])), (q5, .inr (4, [.ref u12, .int 0, .int 0])), (u12, .inl (cC, 1200, .inl (fun _ => 0))), (q19, .inr (4, [.ref u25, .int 0, .int 0])), (u25, .inl (cC, 32, .inl (fun _ => 0))), (q32, .inr (2, [.ref u36, .int 0, .int 0, .int 0, .int 0])), (u36, .inl (cB, 1200, .inl (fun _ => 0))), (q43, .inr (3, [.ref u47.1, .ref u47.2.2.1, .long 0, .int 0, .int 0])), (u47.1, .inr (0, [.ref u47.2.1, .int 0])), (u47.2.1, .inl (cI, 128, .inl (fun _ => 0))), (u47.2.2.1, .inr (0, [.ref u47.2.2.2, .int 0])), (u47.2.2.2, .inl (cI, 128, .inl (fun _ => 0))), (q54, .inr (5, [.ref u58.1, .ref u58.2.2.1, .ref u58.2.2.2.2.1, .ref u58.2.2.2.2.2.2.1, .int 0, .int 0, .long 0, .int 0])), (u58.1, .inr (0, [.ref u58.2.1, .int 0])), (u58.2.1, .inl (cI, 40, .inl (fun _ => 0))), (u58.2.2.1, .inr (0, [.ref u58.2.2.2.1, .int 0])), (u58.2.2.2.1, .inl (cI, 40, .inl (fun _ => 0))), (u58.2.2.2.2.1, .inr (0, [.ref u58.2.2.2.2.2.1, .int 0])), (u58.2.2.2.2.2.1, .inl (cI, 40, .inl (fun _ => 0))), (u58.2.2.2.2.2.2.1, .inr (0, [.ref u58.2.2.2.2.2.2.2, .int 0])), (u58.2.2.2.2.2.2.2, .inl (cI, 40, .inl (fun _ => 0)))]) (wc := [(q54, .inr (5, [.null, .null, .null, .null, .int 0, .int 0, .long 0, .int 0]))]) (w' := fun u58 => [(q54, .inr (5, [.ref u58.1, .ref u58.2.2.1, .ref u58.2.2.2.2.1, .ref u58.2.2.2.2.2.2.1, .int 0, .int 0, .long 0, .int 0])), (u58.1, .inr (0, [.ref u58.2.1, .int 0])), (u58.2.1, .inl (cI, 40, .inl (fun _ => 0))), (u58.2.2.1, .inr (0, [.ref u58.2.2.2.1, .int 0])), (u58.2.2.2.1, .inl (cI, 40, .inl (fun _ => 0))), (u58.2.2.2.2.1, .inr (0, [.ref u58.2.2.2.2.2.1, .int 0])), (u58.2.2.2.2.2.1, .inl (cI, 40, .inl (fun _ => 0))), (u58.2.2.2.2.2.2.1, .inr (0, [.ref u58.2.2.2.2.2.2.2, .int 0])), (u58.2.2.2.2.2.2.2, .inl (cI, 40, .inl (fun _ => 0)))]) hP hD hS hA [12] [0, 1, 2, 3, 4, 5, 6, 7, 8, 9, 10, 11] [0, 1, 2, 3, 4, 5, 6, 7, 8, 9, 10, 11, 12, 13, 14, 15, 16, 17, 18, 19, 20] rfl rfl (by decide) (by decide) (fun _ => rfl) (by decide) (va_runIN (As := []) (rest := [.ref q54, .ref h]) ⟨hx, hb, hml, hown, hw⟩ (c_Sho_init l dC dI cI cC cB cJ _ q54) ⟨va_cnB 0 hw (zg_C wd_121) rfl rfl rfl hX.2.2.2.2.2.2.2.2.2.2.2.2.2.2.2.2.1 (hw _ wd_6) hd_Sho_init ⟨Nat.le_of_ble_eq_true rfl, Nat.le_of_ble_eq_true rfl⟩, rfl, hw _ wd_120⟩ (zz_preS zz_TE hP hD hK hS hA trivial [12] rfl (by decide)) rfl rfl hl.1 rfl (lv_room (Nat.le_of_ble_eq_true rfl)) d_RT_init_58 ⟨Nat.le_of_ble_eq_true rfl, hsl⟩) (fun u58 H locs hP hD hS => ?_)
  refine va_putF (D := (dC, dI)) (ci := 6) (v := .ref q54) (ty := .object "RealText$Shortest") (C := R_RT) (T := T_RT) (N := 9) hx hb hw in_RT ty_RT tyok_RT nm_RT hown hK hP hD hS 0 rfl rfl 4 (by decide) (hw _ wd_172) (fun _ h9 => h9) rfl hin rfl (tyok_RT 4 (by decide)) rfl rfl (Nat.le_of_ble_eq_true rfl) d_RT_init_61 (fun H locs hP hD hS => ?_)
  have hP : va_P (dC, dI) vwCl [(h, .inr (6, [.ref q5, .ref q19, .ref q32, .ref q43, .ref q54, .null, .int 0, .int 0, .int 0])), (q5, .inr (4, [.ref u12, .int 0, .int 0])), (u12, .inl (cC, 1200, .inl (fun _ => 0))), (q19, .inr (4, [.ref u25, .int 0, .int 0])), (u25, .inl (cC, 32, .inl (fun _ => 0))), (q32, .inr (2, [.ref u36, .int 0, .int 0, .int 0, .int 0])), (u36, .inl (cB, 1200, .inl (fun _ => 0))), (q43, .inr (3, [.ref u47.1, .ref u47.2.2.1, .long 0, .int 0, .int 0])), (u47.1, .inr (0, [.ref u47.2.1, .int 0])), (u47.2.1, .inl (cI, 128, .inl (fun _ => 0))), (u47.2.2.1, .inr (0, [.ref u47.2.2.2, .int 0])), (u47.2.2.2, .inl (cI, 128, .inl (fun _ => 0))), (q54, .inr (5, [.ref u58.1, .ref u58.2.2.1, .ref u58.2.2.2.2.1, .ref u58.2.2.2.2.2.2.1, .int 0, .int 0, .long 0, .int 0])), (u58.1, .inr (0, [.ref u58.2.1, .int 0])), (u58.2.1, .inl (cI, 40, .inl (fun _ => 0))), (u58.2.2.1, .inr (0, [.ref u58.2.2.2.1, .int 0])), (u58.2.2.2.1, .inl (cI, 40, .inl (fun _ => 0))), (u58.2.2.2.2.1, .inr (0, [.ref u58.2.2.2.2.2.1, .int 0])), (u58.2.2.2.2.2.1, .inl (cI, 40, .inl (fun _ => 0))), (u58.2.2.2.2.2.2.1, .inr (0, [.ref u58.2.2.2.2.2.2.2, .int 0])), (u58.2.2.2.2.2.2.2, .inl (cI, 40, .inl (fun _ => 0)))] H := hP
  have hD : va_D A [(h, .inr (6, [.ref q5, .ref q19, .ref q32, .ref q43, .ref q54, .null, .int 0, .int 0, .int 0])), (q5, .inr (4, [.ref u12, .int 0, .int 0])), (u12, .inl (cC, 1200, .inl (fun _ => 0))), (q19, .inr (4, [.ref u25, .int 0, .int 0])), (u25, .inl (cC, 32, .inl (fun _ => 0))), (q32, .inr (2, [.ref u36, .int 0, .int 0, .int 0, .int 0])), (u36, .inl (cB, 1200, .inl (fun _ => 0))), (q43, .inr (3, [.ref u47.1, .ref u47.2.2.1, .long 0, .int 0, .int 0])), (u47.1, .inr (0, [.ref u47.2.1, .int 0])), (u47.2.1, .inl (cI, 128, .inl (fun _ => 0))), (u47.2.2.1, .inr (0, [.ref u47.2.2.2, .int 0])), (u47.2.2.2, .inl (cI, 128, .inl (fun _ => 0))), (q54, .inr (5, [.ref u58.1, .ref u58.2.2.1, .ref u58.2.2.2.2.1, .ref u58.2.2.2.2.2.2.1, .int 0, .int 0, .long 0, .int 0])), (u58.1, .inr (0, [.ref u58.2.1, .int 0])), (u58.2.1, .inl (cI, 40, .inl (fun _ => 0))), (u58.2.2.1, .inr (0, [.ref u58.2.2.2.1, .int 0])), (u58.2.2.2.1, .inl (cI, 40, .inl (fun _ => 0))), (u58.2.2.2.2.1, .inr (0, [.ref u58.2.2.2.2.2.1, .int 0])), (u58.2.2.2.2.2.1, .inl (cI, 40, .inl (fun _ => 0))), (u58.2.2.2.2.2.2.1, .inr (0, [.ref u58.2.2.2.2.2.2.2, .int 0])), (u58.2.2.2.2.2.2.2, .inl (cI, 40, .inl (fun _ => 0)))] := hD
  refine lv_aload_n hx hb d_RT_init_64 rfl (lv_at hl 0 rfl) ?_
  have hsl : 0 + 3 + 1200 + 3 + 32 + 5 + 1200 + 5 + 260 + 8 + 168 + 3 ≤ 2907 := by omega
  refine va_new (ci := 1) (fs := [.null, .int 0, .int 0]) (C := R_Dec) (T := T_Dec) (N := 3) hx hb hw in_Dec ty_Dec tyok_Dec hown (hw _ wd_152) (hw _ wd_153) (hw _ wd_7) hK hP hD hS hA rfl (fun j hj => by rcases (show j = 0 ∨ j = 1 ∨ j = 2 by omega) with rfl | rfl | rfl <;> rfl) (Nat.le_of_ble_eq_true rfl) hsl d_RT_init_65 (fun q65 H hP hD hS => ?_)
  have hP : va_P (dC, dI) vwCl [(h, .inr (6, [.ref q5, .ref q19, .ref q32, .ref q43, .ref q54, .null, .int 0, .int 0, .int 0])), (q5, .inr (4, [.ref u12, .int 0, .int 0])), (u12, .inl (cC, 1200, .inl (fun _ => 0))), (q19, .inr (4, [.ref u25, .int 0, .int 0])), (u25, .inl (cC, 32, .inl (fun _ => 0))), (q32, .inr (2, [.ref u36, .int 0, .int 0, .int 0, .int 0])), (u36, .inl (cB, 1200, .inl (fun _ => 0))), (q43, .inr (3, [.ref u47.1, .ref u47.2.2.1, .long 0, .int 0, .int 0])), (u47.1, .inr (0, [.ref u47.2.1, .int 0])), (u47.2.1, .inl (cI, 128, .inl (fun _ => 0))), (u47.2.2.1, .inr (0, [.ref u47.2.2.2, .int 0])), (u47.2.2.2, .inl (cI, 128, .inl (fun _ => 0))), (q54, .inr (5, [.ref u58.1, .ref u58.2.2.1, .ref u58.2.2.2.2.1, .ref u58.2.2.2.2.2.2.1, .int 0, .int 0, .long 0, .int 0])), (u58.1, .inr (0, [.ref u58.2.1, .int 0])), (u58.2.1, .inl (cI, 40, .inl (fun _ => 0))), (u58.2.2.1, .inr (0, [.ref u58.2.2.2.1, .int 0])), (u58.2.2.2.1, .inl (cI, 40, .inl (fun _ => 0))), (u58.2.2.2.2.1, .inr (0, [.ref u58.2.2.2.2.2.1, .int 0])), (u58.2.2.2.2.2.1, .inl (cI, 40, .inl (fun _ => 0))), (u58.2.2.2.2.2.2.1, .inr (0, [.ref u58.2.2.2.2.2.2.2, .int 0])), (u58.2.2.2.2.2.2.2, .inl (cI, 40, .inl (fun _ => 0))), (q65, .inr (1, [.null, .int 0, .int 0]))] H := hP
  have hD : va_D A [(h, .inr (6, [.ref q5, .ref q19, .ref q32, .ref q43, .ref q54, .null, .int 0, .int 0, .int 0])), (q5, .inr (4, [.ref u12, .int 0, .int 0])), (u12, .inl (cC, 1200, .inl (fun _ => 0))), (q19, .inr (4, [.ref u25, .int 0, .int 0])), (u25, .inl (cC, 32, .inl (fun _ => 0))), (q32, .inr (2, [.ref u36, .int 0, .int 0, .int 0, .int 0])), (u36, .inl (cB, 1200, .inl (fun _ => 0))), (q43, .inr (3, [.ref u47.1, .ref u47.2.2.1, .long 0, .int 0, .int 0])), (u47.1, .inr (0, [.ref u47.2.1, .int 0])), (u47.2.1, .inl (cI, 128, .inl (fun _ => 0))), (u47.2.2.1, .inr (0, [.ref u47.2.2.2, .int 0])), (u47.2.2.2, .inl (cI, 128, .inl (fun _ => 0))), (q54, .inr (5, [.ref u58.1, .ref u58.2.2.1, .ref u58.2.2.2.2.1, .ref u58.2.2.2.2.2.2.1, .int 0, .int 0, .long 0, .int 0])), (u58.1, .inr (0, [.ref u58.2.1, .int 0])), (u58.2.1, .inl (cI, 40, .inl (fun _ => 0))), (u58.2.2.1, .inr (0, [.ref u58.2.2.2.1, .int 0])), (u58.2.2.2.1, .inl (cI, 40, .inl (fun _ => 0))), (u58.2.2.2.2.1, .inr (0, [.ref u58.2.2.2.2.2.1, .int 0])), (u58.2.2.2.2.2.1, .inl (cI, 40, .inl (fun _ => 0))), (u58.2.2.2.2.2.2.1, .inr (0, [.ref u58.2.2.2.2.2.2.2, .int 0])), (u58.2.2.2.2.2.2.2, .inl (cI, 40, .inl (fun _ => 0))), (q65, .inr (1, [.null, .int 0, .int 0]))] := hD
  refine lv_dup hx hb d_RT_init_68 rfl ?_
  have hsl : 0 + 3 + 1200 + 3 + 32 + 5 + 1200 + 5 + 260 + 8 + 168 + 3 + 20 ≤ 2907 := by omega
  refine zz_cn (S := Nat) (ws' := fun u69 => [(h, .inr (6, [.ref q5, .ref q19, .ref q32, .ref q43, .ref q54, .null, .int 0, .int 0, .int 0])), (q5, .inr (4, [.ref u12, .int 0, .int 0])), (u12, .inl (cC, 1200, .inl (fun _ => 0))), (q19, .inr (4, [.ref u25, .int 0, .int 0])), (u25, .inl (cC, 32, .inl (fun _ => 0))), (q32, .inr (2, [.ref u36, .int 0, .int 0, .int 0, .int 0])), (u36, .inl (cB, 1200, .inl (fun _ => 0))), (q43, .inr (3, [.ref u47.1, .ref u47.2.2.1, .long 0, .int 0, .int 0])), (u47.1, .inr (0, [.ref u47.2.1, .int 0])), (u47.2.1, .inl (cI, 128, .inl (fun _ => 0))), (u47.2.2.1, .inr (0, [.ref u47.2.2.2, .int 0])), (u47.2.2.2, .inl (cI, 128, .inl (fun _ => 0))), (q54, .inr (5, [.ref u58.1, .ref u58.2.2.1, .ref u58.2.2.2.2.1, .ref u58.2.2.2.2.2.2.1, .int 0, .int 0, .long 0, .int 0])), (u58.1, .inr (0, [.ref u58.2.1, .int 0])), (u58.2.1, .inl (cI, 40, .inl (fun _ => 0))), (u58.2.2.1, .inr (0, [.ref u58.2.2.2.1, .int 0])), (u58.2.2.2.1, .inl (cI, 40, .inl (fun _ => 0))), (u58.2.2.2.2.1, .inr (0, [.ref u58.2.2.2.2.2.1, .int 0])), (u58.2.2.2.2.2.1, .inl (cI, 40, .inl (fun _ => 0))), (u58.2.2.2.2.2.2.1, .inr (0, [.ref u58.2.2.2.2.2.2.2, .int 0])), (u58.2.2.2.2.2.2.2, .inl (cI, 40, .inl (fun _ => 0))), (q65, .inr (1, [.ref u69, .int 0, .int 0])), (u69, .inl (cB, 20, .inl (fun _ => 0)))]) (wc := [(q65, .inr (1, [.null, .int 0, .int 0]))]) (w' := fun u69 => [(q65, .inr (1, [.ref u69, .int 0, .int 0])), (u69, .inl (cB, 20, .inl (fun _ => 0)))]) hP hD hS hA [21] [0, 1, 2, 3, 4, 5, 6, 7, 8, 9, 10, 11, 12, 13, 14, 15, 16, 17, 18, 19, 20] [0, 1, 2, 3, 4, 5, 6, 7, 8, 9, 10, 11, 12, 13, 14, 15, 16, 17, 18, 19, 20, 21, 22] rfl rfl (by decide) (by decide) (fun _ => rfl) (by decide) (va_runIN (As := []) (rest := [.ref q65, .ref h]) ⟨hx, hb, hml, hown, hw⟩ (c_Dec_init l dC dI cI cC cB cJ _ q65) ⟨va_cnB 0 hw (zg_C wd_156) rfl rfl rfl hX.2.2.2.2.2.2.2.2.2.2.2.2.2.2.2.2.2.1 (hw _ wd_7) hd_Dec_init ⟨Nat.le_of_ble_eq_true rfl, Nat.le_of_ble_eq_true rfl⟩, rfl, hw _ wd_155⟩ (zz_preS zz_TE hP hD hK hS hA trivial [21] rfl (by decide)) rfl rfl hl.1 rfl (lv_room (Nat.le_of_ble_eq_true rfl)) d_RT_init_69 ⟨Nat.le_of_ble_eq_true rfl, hsl⟩) (fun u69 H locs hP hD hS => ?_)
  refine va_putF (D := (dC, dI)) (ci := 6) (v := .ref q65) (ty := .object "RealText$Decimal") (C := R_RT) (T := T_RT) (N := 9) hx hb hw in_RT ty_RT tyok_RT nm_RT hown hK hP hD hS 0 rfl rfl 5 (by decide) (hw _ wd_173) (fun _ h9 => h9) rfl hin rfl (tyok_RT 5 (by decide)) rfl rfl (Nat.le_of_ble_eq_true rfl) d_RT_init_72 (fun H locs hP hD hS => ?_)
  have hP : va_P (dC, dI) vwCl [(h, .inr (6, [.ref q5, .ref q19, .ref q32, .ref q43, .ref q54, .ref q65, .int 0, .int 0, .int 0])), (q5, .inr (4, [.ref u12, .int 0, .int 0])), (u12, .inl (cC, 1200, .inl (fun _ => 0))), (q19, .inr (4, [.ref u25, .int 0, .int 0])), (u25, .inl (cC, 32, .inl (fun _ => 0))), (q32, .inr (2, [.ref u36, .int 0, .int 0, .int 0, .int 0])), (u36, .inl (cB, 1200, .inl (fun _ => 0))), (q43, .inr (3, [.ref u47.1, .ref u47.2.2.1, .long 0, .int 0, .int 0])), (u47.1, .inr (0, [.ref u47.2.1, .int 0])), (u47.2.1, .inl (cI, 128, .inl (fun _ => 0))), (u47.2.2.1, .inr (0, [.ref u47.2.2.2, .int 0])), (u47.2.2.2, .inl (cI, 128, .inl (fun _ => 0))), (q54, .inr (5, [.ref u58.1, .ref u58.2.2.1, .ref u58.2.2.2.2.1, .ref u58.2.2.2.2.2.2.1, .int 0, .int 0, .long 0, .int 0])), (u58.1, .inr (0, [.ref u58.2.1, .int 0])), (u58.2.1, .inl (cI, 40, .inl (fun _ => 0))), (u58.2.2.1, .inr (0, [.ref u58.2.2.2.1, .int 0])), (u58.2.2.2.1, .inl (cI, 40, .inl (fun _ => 0))), (u58.2.2.2.2.1, .inr (0, [.ref u58.2.2.2.2.2.1, .int 0])), (u58.2.2.2.2.2.1, .inl (cI, 40, .inl (fun _ => 0))), (u58.2.2.2.2.2.2.1, .inr (0, [.ref u58.2.2.2.2.2.2.2, .int 0])), (u58.2.2.2.2.2.2.2, .inl (cI, 40, .inl (fun _ => 0))), (q65, .inr (1, [.ref u69, .int 0, .int 0])), (u69, .inl (cB, 20, .inl (fun _ => 0)))] H := hP
  have hD : va_D A [(h, .inr (6, [.ref q5, .ref q19, .ref q32, .ref q43, .ref q54, .ref q65, .int 0, .int 0, .int 0])), (q5, .inr (4, [.ref u12, .int 0, .int 0])), (u12, .inl (cC, 1200, .inl (fun _ => 0))), (q19, .inr (4, [.ref u25, .int 0, .int 0])), (u25, .inl (cC, 32, .inl (fun _ => 0))), (q32, .inr (2, [.ref u36, .int 0, .int 0, .int 0, .int 0])), (u36, .inl (cB, 1200, .inl (fun _ => 0))), (q43, .inr (3, [.ref u47.1, .ref u47.2.2.1, .long 0, .int 0, .int 0])), (u47.1, .inr (0, [.ref u47.2.1, .int 0])), (u47.2.1, .inl (cI, 128, .inl (fun _ => 0))), (u47.2.2.1, .inr (0, [.ref u47.2.2.2, .int 0])), (u47.2.2.2, .inl (cI, 128, .inl (fun _ => 0))), (q54, .inr (5, [.ref u58.1, .ref u58.2.2.1, .ref u58.2.2.2.2.1, .ref u58.2.2.2.2.2.2.1, .int 0, .int 0, .long 0, .int 0])), (u58.1, .inr (0, [.ref u58.2.1, .int 0])), (u58.2.1, .inl (cI, 40, .inl (fun _ => 0))), (u58.2.2.1, .inr (0, [.ref u58.2.2.2.1, .int 0])), (u58.2.2.2.1, .inl (cI, 40, .inl (fun _ => 0))), (u58.2.2.2.2.1, .inr (0, [.ref u58.2.2.2.2.2.1, .int 0])), (u58.2.2.2.2.2.1, .inl (cI, 40, .inl (fun _ => 0))), (u58.2.2.2.2.2.2.1, .inr (0, [.ref u58.2.2.2.2.2.2.2, .int 0])), (u58.2.2.2.2.2.2.2, .inl (cI, 40, .inl (fun _ => 0))), (q65, .inr (1, [.ref u69, .int 0, .int 0])), (u69, .inl (cB, 20, .inl (fun _ => 0)))] := hD
  refine W.widen (k := 22) (n := 2907) (by omega) (by omega) ?_
  exact W.vret hx hb hr (fun t ht hW => ⟨⟨(q5, u12, q19, u25, q32, u36, q43, u47.1, u47.2.1, u47.2.2.1, u47.2.2.2, q54, u58.1, u58.2.1, u58.2.2.1, u58.2.2.2.1, u58.2.2.2.2.1, u58.2.2.2.2.2.1, u58.2.2.2.2.2.2.1, u58.2.2.2.2.2.2.2, q65, u69), rfl, trivial, by rw [ht]; exact hP, hD⟩, hS.F ht⟩) hS.2.2 d_RT_init_75
