-- what constructors use: arrays of the known kinds, a call that makes cells
section Zn
variable {p : Program} {l : Launch} {e : Env} {R : Room} {s : State} {m : MethodId} {args : Array Value} {below : List Frame} {meth : Method} {c : Code} {H : Heap} {locs : List Loc} {cells slots : Nat} {Q : State → Prop}
variable {D : va_G} {cl : List vw_C} {tys : List (ClassId × FieldType)} {ws wc : va_W} {A : Nat → Prop} {H0 : Heap} {cc : ByteArray} {pc : Nat} {ls : Array Slot} {rest st0 : List Value} {a : Array Value}
theorem zz_newa (hexec : p.tables.exec = Jvm.exec) (hb : c.code = cc) {atype : ArrayType} (harr : (Cond.arrayClass (newarray.typeOf atype)).before args s = true) {ty : FieldType} (hty : newarray.typeOf atype = ty) (hra : ∀ cX : ClassId, va_RA s cX ty → s.vm.findClass ("[" ++ ty.toString) = some cX) (hK : va_K D cl tys s) (t0 : Nat) {cT : ClassId} (ht : tys[t0]? = some (cT, ty)) (hP : va_P D cl ws H) (hD : va_D A ws) (hS : va_S A H0 H locs) (hA : ∀ q, H0.size ≤ q → A q)
    {n : Int32} {N' : Nat} {a0 : vp_A} (ha : ∀ cA : ClassId, vp_cell cA a0 = arrV cA N' (fun _ => defaultValue ty)) (hn : ¬ n < 0) (hN : n.toNatClampNeg = N') (hbytes : N' * componentBytes ty ≤ 536870912) (hcells : cells + 1 ≤ R.cells) (hslots : slots + N' ≤ R.slots) (hdg : decode cc pc = .ok (.newarray atype, 2))
    (kk : ∀ (q : Nat) (H1 : Heap), va_P D cl (ws ++ [(q, .inl (cT, a0))]) H1 → va_D A (ws ++ [(q, .inl (cT, a0))]) → va_S A H0 H1 locs →
      W p l e R s m args below meth c H1 locs (cells + 1) (slots + N') Q (F0 m (pc + 2) ls (.ref q :: rest))) : W p l e R s m args below meth c H locs cells slots Q (F0 m pc ls (.int n :: rest)) := by
  refine va_newa hexec hb harr hty hK hP hD hS hA ha hn hN hbytes hcells hslots hdg (fun q cA H1 hK1 hP1 hD1 hS1 => ?_)
  have e1 := hra cA (hK1.2 tys.length (cA, ty) (by simp)).2
  have e2 := hra cT (hK.2 t0 _ ht).2
  have e3 : cA = cT := Option.some.inj (e1.symm.trans e2)
  subst e3
  exact kk q H1 hP1 hD1 hS1
theorem zz_cn {S : Type} {w' ws' : S → va_W} {mc ms : Nat} (hP : va_P D cl ws H) (hD : va_D A ws) (hS : va_S A s.heap H locs) (hA : ∀ q, s.heap.size ≤ q → A q) (isC isR perm : List Nat) (hC : isC.map (fun i => ws[i]?) = wc.map some) (hR : isR.map (fun i => ws[i]?) = (isR.filterMap (fun i => ws[i]?)).map some) (hn : va_nd isR = true) (hdis : ∀ i ∈ isR, i ∉ isC)
    (hp : ∀ u : S, perm.map (fun i => (isR.filterMap (fun i => ws[i]?) ++ w' u)[i]?) = (ws' u).map some) (hpn : va_nd perm = true) (hr : va_Run p l e R s m args below meth c H locs cells slots mc ms (F0 m pc ls st0) rest (va_Qv (S := S) (fun _ => True) (fun u t => zz_B D cl (va_A wc H.size) (w' u) t) (va_A wc H.size) a) (va_A wc H.size))
    (kk : ∀ (u : S) (H1 : Heap) (locs1 : List Loc), va_P D cl (ws' u) H1 → va_D A (ws' u) → va_S A s.heap H1 locs1 → W p l e R s m args below meth c H1 locs1 (cells + mc) (slots + ms) Q (F0 m (pc + 3) ls rest)) : W p l e R s m args below meth c H locs cells slots Q (F0 m pc ls st0) := by
  have hF := va_free hD hS hA isC hC
  refine va_callv hr hS (fun q _ h => hF q h) hF (fun u t H1 locs1 ht hvm hw hB hz1 hk1 hS1 => ?_)
  have hB1 : va_P D cl (w' u) H1 := by rw [← ht]; exact hB.1
  obtain ⟨g1, g2⟩ := zz_back hP hD hS hA isC isR perm hC hR hn hdis (hp u) hpn hk1 hB1 hB.2
  exact kk u H1 locs1 g1 g2 hS1
end Zn
theorem zg_C {n : Nat} {y : MethodName} {c : ByteArray} {r : Option FieldType} (h5 : Cond.code y c n r ∈ zw) : GoodIn zw (.code y c n r :: zw) := by
  intro w hw
  have hm : w ∈ zw := by
    rcases List.mem_cons.mp hw with rfl | hw
    · exact h5
    · exact hw
  exact ⟨hm, zw_good w hm⟩
abbrev ws_Row_init : List Cond := .code y_Row_init prog_7_method_1_code 2 none :: zw
abbrev rm_Row_init (n : Nat) : Room := { frames := 1, cells := 1, slots := n, locals := 20 }
theorem hd_Row_init : y_Row_init.cls ≠ "java/lang/invoke/MethodHandle" ∧ y_Row_init.cls ≠ "java/lang/invoke/VarHandle" ∧ (parseMethodDescriptor y_Row_init.desc).map (fun d => d.parameters.length) = some 1 := by decide +kernel
theorem d_Row_init_0 : decode prog_7_method_1_code 0 = .ok (.aload_n 0, 1) := by decide +kernel
theorem d_Row_init_1 : decode prog_7_method_1_code 1 = .ok (.invokespecial 1, 3) := by decide +kernel
theorem d_Row_init_4 : decode prog_7_method_1_code 4 = .ok (.aload_n 0, 1) := by decide +kernel
theorem d_Row_init_5 : decode prog_7_method_1_code 5 = .ok (.iload_n 1, 1) := by decide +kernel
theorem d_Row_init_6 : decode prog_7_method_1_code 6 = .ok (.newarray .char, 2) := by decide +kernel
theorem d_Row_init_8 : decode prog_7_method_1_code 8 = .ok (.putfield 7, 3) := by decide +kernel
theorem d_Row_init_11 : decode prog_7_method_1_code 11 = .ok (.return_, 1) := by decide +kernel
set_option maxHeartbeats 4000000 in
set_option maxRecDepth 100000 in
theorem c_Row_init (l : Launch) (dC : Nat → ClassId) (dI : Nat → Nat → Nat) (cI cC cB cJ : ClassId) (sz : Nat) (h : Nat) (n : Nat) (hn : n < 4000) : Met l y_Row_init ws_Row_init (rm_Row_init n) (zz_P zz_T (dC, dI) vwCl (zz_tys cI cC cB cJ) [.ref h, .int (nI n)] [(h, .inr (4, [.null, .int 0, .int 0]))] sz) (va_Qv (S := Nat) (fun _ => True) (fun u t => zz_B (dC, dI) vwCl (va_A [(h, .inr (4, [.null, .int 0, .int 0]))] sz) [(h, .inr (4, [.ref u, .int 0, .int 0])), (u, .inl (cC, n, .inl (fun _ => 0)))] t) (va_A [(h, .inr (4, [.null, .int 0, .int 0]))] sz)) 1 (n) (va_A [(h, .inr (4, [.null, .int 0, .int 0]))] sz) := by
  refine Met.ofW (cc := prog_7_method_1_code) (maxL := 2) (ret := none) (by decide +kernel) rfl ?_
  intro p e s m args below meth c s₁ B hml hv
  obtain ⟨rfl, hsz, hP, hK, hD0, hX⟩ := hv
  have hx := B.exec
  have hb := B.bytes
  have hr := B.returns
  have hts := atoms_spec (ws := ws_Row_init) B.pre
  have hw : ∀ w ∈ zw, w.before [.ref h, .int (nI n)].toArray s = true := fun w h => hts w (List.mem_cons_of_mem _ h)
  have hown : s.vm.findClass R_Row = some m.cls := findClass_of_methodNamed B.named
  have hlocks := B.notSynchronized
  have hin : meth.name = "<init>" := (name_of_methodNamed B.named B.method).1
  subst hsz
  have hD := hD0.self (sz := s.heap.size)
  generalize hAe : va_A [(h, .inr (4, [.null, .int 0, .int 0]))] s.heap.size = A at hD hX ⊢
  have hA : ∀ q : Nat, s.heap.size ≤ q → A q := fun q h => by rw [← hAe]; exact Or.inr h
  have hS : va_S A s.heap s.heap [] := va_S.rf
  have hl := lv_entry [.ref h, .int (nI n)] (n := 2) (Nat.le_of_ble_eq_true rfl)
  rw [lg_entry_eq]
  generalize (lg_sl [.ref h, .int (nI n)] ++ List.replicate (2 - (lg_sl [.ref h, .int (nI n)]).length) Slot.unset).toArray = ls at hl ⊢
  have hl : lv_has ls 2 [(0, .ref h), (1, .int (nI n))] := hl
  refine lv_aload_n hx hb d_Row_init_0 rfl (lv_at hl 0 rfl) ?_
  refine W.objInit hx hb hown (hw _ wd_36) (hw _ wd_29) (hw _ wd_30) rfl (by rw [hml]; exact hl.1) rfl d_Row_init_1 (Nat.le_of_ble_eq_true rfl) (Nat.le_of_ble_eq_true rfl) ?_
  refine W.eq (g2 := F0 m 4 ls []) rfl ?_
  refine lv_aload_n hx hb d_Row_init_4 rfl (lv_at hl 0 rfl) ?_
  refine lv_iload_n hx hb d_Row_init_5 rfl (lv_at hl 1 rfl) ?_
  have hsl : 0 + n ≤ n := by omega
  refine zz_newa (atype := .char) (ty := .char) (N' := n) (a0 := (n, .inl (fun _ => 0))) hx hb (hw _ wd_47) rfl (fun _ h => h) hK 1 rfl hP hD hS hA (fun _ => rfl) (nI_pos (by omega)) (nI_clamp (by omega)) (by show n * 2 ≤ 536870912; omega) (Nat.le_of_ble_eq_true rfl) hsl d_Row_init_6 (fun q6 H hP hD hS => ?_)
  have hP : va_P (dC, dI) vwCl [(h, .inr (4, [.null, .int 0, .int 0])), (q6, .inl (cC, n, .inl (fun _ => 0)))] H := hP
  have hD : va_D A [(h, .inr (4, [.null, .int 0, .int 0])), (q6, .inl (cC, n, .inl (fun _ => 0)))] := hD
  refine va_putF (D := (dC, dI)) (ci := 4) (v := .ref q6) (ty := .array .char) (C := R_Row) (T := T_Row) (N := 3) hx hb hw in_Row ty_Row tyok_Row nm_Row hown hK hP hD hS 0 rfl rfl 0 (by decide) (hw _ wd_37) (fun _ h9 => h9) rfl hin rfl (tyok_Row 0 (by decide)) rfl rfl (Nat.le_of_ble_eq_true rfl) d_Row_init_8 (fun H locs hP hD hS => ?_)
  have hP : va_P (dC, dI) vwCl [(h, .inr (4, [.ref q6, .int 0, .int 0])), (q6, .inl (cC, n, .inl (fun _ => 0)))] H := hP
  have hD : va_D A [(h, .inr (4, [.ref q6, .int 0, .int 0])), (q6, .inl (cC, n, .inl (fun _ => 0)))] := hD
  refine W.widen (k := 1) (n := n) (by omega) (by omega) ?_
  exact W.vret hx hb hr (fun t ht hW => ⟨⟨(q6), rfl, trivial, by rw [ht]; exact hP, hD⟩, hS.F ht⟩) hS.2.2 d_Row_init_11
abbrev ws_Big_init : List Cond := .code y_Big_init prog_2_method_1_code 2 none :: zw
abbrev rm_Big_init (n : Nat) : Room := { frames := 1, cells := 1, slots := n, locals := 20 }
theorem hd_Big_init : y_Big_init.cls ≠ "java/lang/invoke/MethodHandle" ∧ y_Big_init.cls ≠ "java/lang/invoke/VarHandle" ∧ (parseMethodDescriptor y_Big_init.desc).map (fun d => d.parameters.length) = some 1 := by decide +kernel
theorem d_Big_init_0 : decode prog_2_method_1_code 0 = .ok (.aload_n 0, 1) := by decide +kernel
theorem d_Big_init_1 : decode prog_2_method_1_code 1 = .ok (.invokespecial 1, 3) := by decide +kernel
theorem d_Big_init_4 : decode prog_2_method_1_code 4 = .ok (.aload_n 0, 1) := by decide +kernel
theorem d_Big_init_5 : decode prog_2_method_1_code 5 = .ok (.iload_n 1, 1) := by decide +kernel
theorem d_Big_init_6 : decode prog_2_method_1_code 6 = .ok (.newarray .int, 2) := by decide +kernel
theorem d_Big_init_8 : decode prog_2_method_1_code 8 = .ok (.putfield 7, 3) := by decide +kernel
theorem d_Big_init_11 : decode prog_2_method_1_code 11 = .ok (.return_, 1) := by decide +kernel
set_option maxHeartbeats 4000000 in
set_option maxRecDepth 100000 in
theorem c_Big_init (l : Launch) (dC : Nat → ClassId) (dI : Nat → Nat → Nat) (cI cC cB cJ : ClassId) (sz : Nat) (h : Nat) (n : Nat) (hn : n < 4000) : Met l y_Big_init ws_Big_init (rm_Big_init n) (zz_P zz_T (dC, dI) vwCl (zz_tys cI cC cB cJ) [.ref h, .int (nI n)] [(h, .inr (0, [.null, .int 0]))] sz) (va_Qv (S := Nat) (fun _ => True) (fun u t => zz_B (dC, dI) vwCl (va_A [(h, .inr (0, [.null, .int 0]))] sz) [(h, .inr (0, [.ref u, .int 0])), (u, .inl (cI, n, .inl (fun _ => 0)))] t) (va_A [(h, .inr (0, [.null, .int 0]))] sz)) 1 (n) (va_A [(h, .inr (0, [.null, .int 0]))] sz) := by
  refine Met.ofW (cc := prog_2_method_1_code) (maxL := 2) (ret := none) (by decide +kernel) rfl ?_
  intro p e s m args below meth c s₁ B hml hv
  obtain ⟨rfl, hsz, hP, hK, hD0, hX⟩ := hv
  have hx := B.exec
  have hb := B.bytes
  have hr := B.returns
  have hts := atoms_spec (ws := ws_Big_init) B.pre
  have hw : ∀ w ∈ zw, w.before [.ref h, .int (nI n)].toArray s = true := fun w h => hts w (List.mem_cons_of_mem _ h)
  have hown : s.vm.findClass R_Big = some m.cls := findClass_of_methodNamed B.named
  have hlocks := B.notSynchronized
  have hin : meth.name = "<init>" := (name_of_methodNamed B.named B.method).1
  subst hsz
  have hD := hD0.self (sz := s.heap.size)
  generalize hAe : va_A [(h, .inr (0, [.null, .int 0]))] s.heap.size = A at hD hX ⊢
  have hA : ∀ q : Nat, s.heap.size ≤ q → A q := fun q h => by rw [← hAe]; exact Or.inr h
  have hS : va_S A s.heap s.heap [] := va_S.rf
  have hl := lv_entry [.ref h, .int (nI n)] (n := 2) (Nat.le_of_ble_eq_true rfl)
  rw [lg_entry_eq]
  generalize (lg_sl [.ref h, .int (nI n)] ++ List.replicate (2 - (lg_sl [.ref h, .int (nI n)]).length) Slot.unset).toArray = ls at hl ⊢
  have hl : lv_has ls 2 [(0, .ref h), (1, .int (nI n))] := hl
  refine lv_aload_n hx hb d_Big_init_0 rfl (lv_at hl 0 rfl) ?_
  refine W.objInit hx hb hown (hw _ wd_89) (hw _ wd_29) (hw _ wd_30) rfl (by rw [hml]; exact hl.1) rfl d_Big_init_1 (Nat.le_of_ble_eq_true rfl) (Nat.le_of_ble_eq_true rfl) ?_
  refine W.eq (g2 := F0 m 4 ls []) rfl ?_
  refine lv_aload_n hx hb d_Big_init_4 rfl (lv_at hl 0 rfl) ?_
  refine lv_iload_n hx hb d_Big_init_5 rfl (lv_at hl 1 rfl) ?_
  have hsl : 0 + n ≤ n := by omega
  refine zz_newa (atype := .int) (ty := .int) (N' := n) (a0 := (n, .inl (fun _ => 0))) hx hb (hw _ wd_97) rfl (fun _ h => h) hK 0 rfl hP hD hS hA (fun _ => rfl) (nI_pos (by omega)) (nI_clamp (by omega)) (by show n * 4 ≤ 536870912; omega) (Nat.le_of_ble_eq_true rfl) hsl d_Big_init_6 (fun q6 H hP hD hS => ?_)
  have hP : va_P (dC, dI) vwCl [(h, .inr (0, [.null, .int 0])), (q6, .inl (cI, n, .inl (fun _ => 0)))] H := hP
  have hD : va_D A [(h, .inr (0, [.null, .int 0])), (q6, .inl (cI, n, .inl (fun _ => 0)))] := hD
  refine va_putF (D := (dC, dI)) (ci := 0) (v := .ref q6) (ty := .array .int) (C := R_Big) (T := T_Big) (N := 2) hx hb hw in_Big ty_Big tyok_Big nm_Big hown hK hP hD hS 0 rfl rfl 0 (by decide) (hw _ wd_90) (fun _ h9 => h9) rfl hin rfl (tyok_Big 0 (by decide)) rfl rfl (Nat.le_of_ble_eq_true rfl) d_Big_init_8 (fun H locs hP hD hS => ?_)
  have hP : va_P (dC, dI) vwCl [(h, .inr (0, [.ref q6, .int 0])), (q6, .inl (cI, n, .inl (fun _ => 0)))] H := hP
  have hD : va_D A [(h, .inr (0, [.ref q6, .int 0])), (q6, .inl (cI, n, .inl (fun _ => 0)))] := hD
  refine W.widen (k := 1) (n := n) (by omega) (by omega) ?_
  exact W.vret hx hb hr (fun t ht hW => ⟨⟨(q6), rfl, trivial, by rw [ht]; exact hP, hD⟩, hS.F ht⟩) hS.2.2 d_Big_init_11
abbrev ws_Lit_init : List Cond := .code y_Lit_init prog_5_method_1_code 1 none :: zw
abbrev rm_Lit_init : Room := { frames := 1, cells := 1, slots := 1200, locals := 20 }
theorem hd_Lit_init : y_Lit_init.cls ≠ "java/lang/invoke/MethodHandle" ∧ y_Lit_init.cls ≠ "java/lang/invoke/VarHandle" ∧ (parseMethodDescriptor y_Lit_init.desc).map (fun d => d.parameters.length) = some 0 := by decide +kernel
theorem d_Lit_init_0 : decode prog_5_method_1_code 0 = .ok (.aload_n 0, 1) := by decide +kernel
theorem d_Lit_init_1 : decode prog_5_method_1_code 1 = .ok (.invokespecial 3, 3) := by decide +kernel
theorem d_Lit_init_4 : decode prog_5_method_1_code 4 = .ok (.aload_n 0, 1) := by decide +kernel
theorem d_Lit_init_5 : decode prog_5_method_1_code 5 = .ok (.sipush 1200, 3) := by decide +kernel
theorem d_Lit_init_8 : decode prog_5_method_1_code 8 = .ok (.newarray .byte, 2) := by decide +kernel
theorem d_Lit_init_10 : decode prog_5_method_1_code 10 = .ok (.putfield 9, 3) := by decide +kernel
theorem d_Lit_init_13 : decode prog_5_method_1_code 13 = .ok (.return_, 1) := by decide +kernel
set_option maxHeartbeats 4000000 in
set_option maxRecDepth 100000 in
theorem c_Lit_init (l : Launch) (dC : Nat → ClassId) (dI : Nat → Nat → Nat) (cI cC cB cJ : ClassId) (sz : Nat) (h : Nat) : Met l y_Lit_init ws_Lit_init rm_Lit_init (zz_P zz_T (dC, dI) vwCl (zz_tys cI cC cB cJ) [.ref h] [(h, .inr (2, [.null, .int 0, .int 0, .int 0, .int 0]))] sz) (va_Qv (S := Nat) (fun _ => True) (fun u t => zz_B (dC, dI) vwCl (va_A [(h, .inr (2, [.null, .int 0, .int 0, .int 0, .int 0]))] sz) [(h, .inr (2, [.ref u, .int 0, .int 0, .int 0, .int 0])), (u, .inl (cB, 1200, .inl (fun _ => 0)))] t) (va_A [(h, .inr (2, [.null, .int 0, .int 0, .int 0, .int 0]))] sz)) 1 (1200) (va_A [(h, .inr (2, [.null, .int 0, .int 0, .int 0, .int 0]))] sz) := by
  refine Met.ofW (cc := prog_5_method_1_code) (maxL := 1) (ret := none) (by decide +kernel) rfl ?_
  intro p e s m args below meth c s₁ B hml hv
  obtain ⟨rfl, hsz, hP, hK, hD0, hX⟩ := hv
  have hx := B.exec
  have hb := B.bytes
  have hr := B.returns
  have hts := atoms_spec (ws := ws_Lit_init) B.pre
  have hw : ∀ w ∈ zw, w.before [.ref h].toArray s = true := fun w h => hts w (List.mem_cons_of_mem _ h)
  have hown : s.vm.findClass R_Lit = some m.cls := findClass_of_methodNamed B.named
  have hlocks := B.notSynchronized
  have hin : meth.name = "<init>" := (name_of_methodNamed B.named B.method).1
  subst hsz
  have hD := hD0.self (sz := s.heap.size)
  generalize hAe : va_A [(h, .inr (2, [.null, .int 0, .int 0, .int 0, .int 0]))] s.heap.size = A at hD hX ⊢
  have hA : ∀ q : Nat, s.heap.size ≤ q → A q := fun q h => by rw [← hAe]; exact Or.inr h
  have hS : va_S A s.heap s.heap [] := va_S.rf
  have hl := lv_entry [.ref h] (n := 1) (Nat.le_of_ble_eq_true rfl)
  rw [lg_entry_eq]
  generalize (lg_sl [.ref h] ++ List.replicate (1 - (lg_sl [.ref h]).length) Slot.unset).toArray = ls at hl ⊢
  have hl : lv_has ls 1 [(0, .ref h)] := hl
  refine lv_aload_n hx hb d_Lit_init_0 rfl (lv_at hl 0 rfl) ?_
  refine W.objInit hx hb hown (hw _ wd_53) (hw _ wd_29) (hw _ wd_30) rfl (by rw [hml]; exact hl.1) rfl d_Lit_init_1 (Nat.le_of_ble_eq_true rfl) (Nat.le_of_ble_eq_true rfl) ?_
  refine W.eq (g2 := F0 m 4 ls []) rfl ?_
  refine lv_aload_n hx hb d_Lit_init_4 rfl (lv_at hl 0 rfl) ?_
  refine lv_sipush (v := 1200) hx hb d_Lit_init_5 (by decide) ?_
  have hsl : 0 + 1200 ≤ 1200 := by omega
  refine zz_newa (atype := .byte) (ty := .byte) (N' := 1200) (a0 := (1200, .inl (fun _ => 0))) hx hb (hw _ wd_77) rfl (fun _ h => h) hK 2 rfl hP hD hS hA (fun _ => rfl) (nI_pos (n := 1200) (by decide)) (nI_clamp (n := 1200) (by decide)) (Nat.le_of_ble_eq_true rfl) (Nat.le_of_ble_eq_true rfl) hsl d_Lit_init_8 (fun q8 H hP hD hS => ?_)
  have hP : va_P (dC, dI) vwCl [(h, .inr (2, [.null, .int 0, .int 0, .int 0, .int 0])), (q8, .inl (cB, 1200, .inl (fun _ => 0)))] H := hP
  have hD : va_D A [(h, .inr (2, [.null, .int 0, .int 0, .int 0, .int 0])), (q8, .inl (cB, 1200, .inl (fun _ => 0)))] := hD
  refine va_putF (D := (dC, dI)) (ci := 2) (v := .ref q8) (ty := .array .byte) (C := R_Lit) (T := T_Lit) (N := 5) hx hb hw in_Lit ty_Lit tyok_Lit nm_Lit hown hK hP hD hS 0 rfl rfl 0 (by decide) (hw _ wd_54) (fun _ h9 => h9) rfl hin rfl (tyok_Lit 0 (by decide)) rfl rfl (Nat.le_of_ble_eq_true rfl) d_Lit_init_10 (fun H locs hP hD hS => ?_)
  have hP : va_P (dC, dI) vwCl [(h, .inr (2, [.ref q8, .int 0, .int 0, .int 0, .int 0])), (q8, .inl (cB, 1200, .inl (fun _ => 0)))] H := hP
  have hD : va_D A [(h, .inr (2, [.ref q8, .int 0, .int 0, .int 0, .int 0])), (q8, .inl (cB, 1200, .inl (fun _ => 0)))] := hD
  refine W.widen (k := 1) (n := 1200) (by omega) (by omega) ?_
  exact W.vret hx hb hr (fun t ht hW => ⟨⟨(q8), rfl, trivial, by rw [ht]; exact hP, hD⟩, hS.F ht⟩) hS.2.2 d_Lit_init_13
abbrev ws_Dec_init : List Cond := .code y_Dec_init prog_3_method_1_code 1 none :: zw
abbrev rm_Dec_init : Room := { frames := 1, cells := 1, slots := 20, locals := 20 }
theorem hd_Dec_init : y_Dec_init.cls ≠ "java/lang/invoke/MethodHandle" ∧ y_Dec_init.cls ≠ "java/lang/invoke/VarHandle" ∧ (parseMethodDescriptor y_Dec_init.desc).map (fun d => d.parameters.length) = some 0 := by decide +kernel
theorem d_Dec_init_0 : decode prog_3_method_1_code 0 = .ok (.aload_n 0, 1) := by decide +kernel
theorem d_Dec_init_1 : decode prog_3_method_1_code 1 = .ok (.invokespecial 1, 3) := by decide +kernel
theorem d_Dec_init_4 : decode prog_3_method_1_code 4 = .ok (.aload_n 0, 1) := by decide +kernel
theorem d_Dec_init_5 : decode prog_3_method_1_code 5 = .ok (.bipush 20, 2) := by decide +kernel
theorem d_Dec_init_7 : decode prog_3_method_1_code 7 = .ok (.newarray .byte, 2) := by decide +kernel
theorem d_Dec_init_9 : decode prog_3_method_1_code 9 = .ok (.putfield 9, 3) := by decide +kernel
theorem d_Dec_init_12 : decode prog_3_method_1_code 12 = .ok (.return_, 1) := by decide +kernel
set_option maxHeartbeats 4000000 in
set_option maxRecDepth 100000 in
theorem c_Dec_init (l : Launch) (dC : Nat → ClassId) (dI : Nat → Nat → Nat) (cI cC cB cJ : ClassId) (sz : Nat) (h : Nat) : Met l y_Dec_init ws_Dec_init rm_Dec_init (zz_P zz_T (dC, dI) vwCl (zz_tys cI cC cB cJ) [.ref h] [(h, .inr (1, [.null, .int 0, .int 0]))] sz) (va_Qv (S := Nat) (fun _ => True) (fun u t => zz_B (dC, dI) vwCl (va_A [(h, .inr (1, [.null, .int 0, .int 0]))] sz) [(h, .inr (1, [.ref u, .int 0, .int 0])), (u, .inl (cB, 20, .inl (fun _ => 0)))] t) (va_A [(h, .inr (1, [.null, .int 0, .int 0]))] sz)) 1 (20) (va_A [(h, .inr (1, [.null, .int 0, .int 0]))] sz) := by
  refine Met.ofW (cc := prog_3_method_1_code) (maxL := 1) (ret := none) (by decide +kernel) rfl ?_
  intro p e s m args below meth c s₁ B hml hv
  obtain ⟨rfl, hsz, hP, hK, hD0, hX⟩ := hv
  have hx := B.exec
  have hb := B.bytes
  have hr := B.returns
  have hts := atoms_spec (ws := ws_Dec_init) B.pre
  have hw : ∀ w ∈ zw, w.before [.ref h].toArray s = true := fun w h => hts w (List.mem_cons_of_mem _ h)
  have hown : s.vm.findClass R_Dec = some m.cls := findClass_of_methodNamed B.named
  have hlocks := B.notSynchronized
  have hin : meth.name = "<init>" := (name_of_methodNamed B.named B.method).1
  subst hsz
  have hD := hD0.self (sz := s.heap.size)
  generalize hAe : va_A [(h, .inr (1, [.null, .int 0, .int 0]))] s.heap.size = A at hD hX ⊢
  have hA : ∀ q : Nat, s.heap.size ≤ q → A q := fun q h => by rw [← hAe]; exact Or.inr h
  have hS : va_S A s.heap s.heap [] := va_S.rf
  have hl := lv_entry [.ref h] (n := 1) (Nat.le_of_ble_eq_true rfl)
  rw [lg_entry_eq]
  generalize (lg_sl [.ref h] ++ List.replicate (1 - (lg_sl [.ref h]).length) Slot.unset).toArray = ls at hl ⊢
  have hl : lv_has ls 1 [(0, .ref h)] := hl
  refine lv_aload_n hx hb d_Dec_init_0 rfl (lv_at hl 0 rfl) ?_
  refine W.objInit hx hb hown (hw _ wd_157) (hw _ wd_29) (hw _ wd_30) rfl (by rw [hml]; exact hl.1) rfl d_Dec_init_1 (Nat.le_of_ble_eq_true rfl) (Nat.le_of_ble_eq_true rfl) ?_
  refine W.eq (g2 := F0 m 4 ls []) rfl ?_
  refine lv_aload_n hx hb d_Dec_init_4 rfl (lv_at hl 0 rfl) ?_
  refine lv_bipush (v := 20) hx hb d_Dec_init_5 (by decide) ?_
  have hsl : 0 + 20 ≤ 20 := by omega
  refine zz_newa (atype := .byte) (ty := .byte) (N' := 20) (a0 := (20, .inl (fun _ => 0))) hx hb (hw _ wd_77) rfl (fun _ h => h) hK 2 rfl hP hD hS hA (fun _ => rfl) (nI_pos (n := 20) (by decide)) (nI_clamp (n := 20) (by decide)) (Nat.le_of_ble_eq_true rfl) (Nat.le_of_ble_eq_true rfl) hsl d_Dec_init_7 (fun q7 H hP hD hS => ?_)
  have hP : va_P (dC, dI) vwCl [(h, .inr (1, [.null, .int 0, .int 0])), (q7, .inl (cB, 20, .inl (fun _ => 0)))] H := hP
  have hD : va_D A [(h, .inr (1, [.null, .int 0, .int 0])), (q7, .inl (cB, 20, .inl (fun _ => 0)))] := hD
  refine va_putF (D := (dC, dI)) (ci := 1) (v := .ref q7) (ty := .array .byte) (C := R_Dec) (T := T_Dec) (N := 3) hx hb hw in_Dec ty_Dec tyok_Dec nm_Dec hown hK hP hD hS 0 rfl rfl 0 (by decide) (hw _ wd_158) (fun _ h9 => h9) rfl hin rfl (tyok_Dec 0 (by decide)) rfl rfl (Nat.le_of_ble_eq_true rfl) d_Dec_init_9 (fun H locs hP hD hS => ?_)
  have hP : va_P (dC, dI) vwCl [(h, .inr (1, [.ref q7, .int 0, .int 0])), (q7, .inl (cB, 20, .inl (fun _ => 0)))] H := hP
  have hD : va_D A [(h, .inr (1, [.ref q7, .int 0, .int 0])), (q7, .inl (cB, 20, .inl (fun _ => 0)))] := hD
  refine W.widen (k := 1) (n := 20) (by omega) (by omega) ?_
  exact W.vret hx hb hr (fun t ht hW => ⟨⟨(q7), rfl, trivial, by rw [ht]; exact hP, hD⟩, hS.F ht⟩) hS.2.2 d_Dec_init_12
