theorem zl_1 {w : Cond} (h : w ∈ tables_1_1) : w ∈ lw_tbl := List.mem_append_right _ (List.mem_append_left _ h)
theorem zl_2 {w : Cond} (h : w ∈ tables_1_2) : w ∈ lw_tbl := List.mem_append_right _ (List.mem_append_right _ (List.mem_append_left _ h))
theorem zl_3 {w : Cond} (h : w ∈ tables_1_3) : w ∈ lw_tbl := List.mem_append_right _ (List.mem_append_right _ (List.mem_append_right _ (List.mem_append_left _ h)))
theorem zl_4 {w : Cond} (h : w ∈ tables_1_4) : w ∈ lw_tbl := List.mem_append_right _ (List.mem_append_right _ (List.mem_append_right _ (List.mem_append_right _ (h))))
theorem zs_arr {args : Array Value} {s : State} {ty : FieldType} (h : (Cond.arrayClass ty).before args s = true) : ∃ cA : ClassId, ArrOfT s cA ty ∧ s.vm.findClass ("[" ++ ty.toString) = some cA := by
  obtain ⟨cB, kB, comp, hcB, hkB, hkind⟩ := Cond.arrayClass_spec h
  exact ⟨cB, fun n z => ⟨fun k h => (by cases h), kB, hkB, comp, hkind⟩, hcB⟩
theorem zs_K {args : Array Value} {s : State} (hw : ∀ w ∈ zw, w.before args s = true) : ∃ (dC : Nat → ClassId) (dI : Nat → Nat → Nat) (cI cC cB cJ : ClassId), va_K (dC, dI) vwCl (zz_tys cI cC cB cJ) s := by
  obtain ⟨k0, i0, h0⟩ := u_known hw in_Big (hw _ wd_85)
  obtain ⟨k1, i1, h1⟩ := u_known hw in_Dec (hw _ wd_153)
  obtain ⟨k2, i2, h2⟩ := u_known hw in_Lit (hw _ wd_49)
  obtain ⟨k3, i3, h3⟩ := u_known hw in_Quo (hw _ wd_79)
  obtain ⟨k4, i4, h4⟩ := u_known hw in_Row (hw _ wd_32)
  obtain ⟨k5, i5, h5⟩ := u_known hw in_Sho (hw _ wd_118)
  obtain ⟨k6, i6, h6⟩ := u_known hw in_RT (hw _ wd_24)
  obtain ⟨k7, i7, h7⟩ := u_known hw in_Mod (hw _ wd_669)
  obtain ⟨c_int, a_int, r_int⟩ := zs_arr (hw _ wd_97)
  obtain ⟨c_char, a_char, r_char⟩ := zs_arr (hw _ wd_47)
  obtain ⟨c_byte, a_byte, r_byte⟩ := zs_arr (hw _ wd_77)
  obtain ⟨c_long, a_long, r_long⟩ := zs_arr (hw _ wd_914)
  refine ⟨fun c => match c with | 0 => k0 | 1 => k1 | 2 => k2 | 3 => k3 | 4 => k4 | 5 => k5 | 6 => k6 | _ => k7, fun c => match c with | 0 => i0 | 1 => i1 | 2 => i2 | 3 => i3 | 4 => i4 | 5 => i5 | 6 => i6 | _ => i7, c_int, c_char, c_byte, c_long, fun c q hq => ?_, fun k q hk => ?_⟩
  · match c, hq with
    | 0, hq => cases hq; exact h0
    | 1, hq => cases hq; exact h1
    | 2, hq => cases hq; exact h2
    | 3, hq => cases hq; exact h3
    | 4, hq => cases hq; exact h4
    | 5, hq => cases hq; exact h5
    | 6, hq => cases hq; exact h6
    | 7, hq => cases hq; exact h7
    | c + 8, hq => exact absurd hq (by simp)
  · match k, hk with
    | 0, hk => cases hk; exact ⟨a_int, r_int⟩
    | 1, hk => cases hk; exact ⟨a_char, r_char⟩
    | 2, hk => cases hk; exact ⟨a_byte, r_byte⟩
    | 3, hk => cases hk; exact ⟨a_long, r_long⟩
    | k + 4, hk => exact absurd hk (by simp)
set_option maxHeartbeats 4000000 in
set_option maxRecDepth 100000 in
theorem zs_E {args : Array Value} {s : State} (hw : ∀ w ∈ zw, w.before args s = true) (hlt : ∀ w ∈ lw_tbl, w.before args s = true) (hs : ∀ c ∈ flatC (Jvm.Cond.and given_1 narrow_1), c.before args s = true) : ∃ (adF : Nat → Nat) (tp : Nat) (adK adV : Nat → Nat), zx_E adF tp adK adV (fun q => s.heap.size ≤ q) s s.heap := by
  have hA : ∀ a : Nat, a < s.heap.size → ¬ (fun q => s.heap.size ≤ q) a := fun a h q => absurd q (Nat.not_le.mpr h)
  obtain ⟨adF, hF⟩ := va_Enof (args := args) (s := s) (E := "RealText$Format") (d := "LRealText$Format;") (nm := ["FLOAT", "DOUBLE"]) (F := zx_F) (A := fun q => s.heap.size ≤ q)
    (fun i hi => by
      rcases (show i = 0 ∨ i = 1 by simp at hi; omega) with rfl | rfl
      · exact hlt _ (zl_1 (List.mem_of_getElem? (i := 201) rfl))
      · exact hlt _ (zl_1 (List.mem_of_getElem? (i := 203) rfl))) (hw _ wd_15)
    (fun i hi => by
      rcases (show i = 0 ∨ i = 1 by simp at hi; omega) with rfl | rfl
      · exact hs (.exactly (.static "RealText$Format" "FLOAT" "LRealText$Format;") "RealText$Format") (by decide +kernel)
      · exact hs (.exactly (.static "RealText$Format" "DOUBLE" "LRealText$Format;") "RealText$Format") (by decide +kernel))
    (fun q hq i hi => by
      simp only [zx_F, List.mem_cons, List.not_mem_nil, or_false] at hq
      rcases hq with rfl | rfl | rfl <;> rcases (show i = 0 ∨ i = 1 by simp at hi; omega) with rfl | rfl
      · exact hs (.eq (.field (.static "RealText$Format" "FLOAT" "LRealText$Format;") "RealText$Format" "fractionBits" "I") (.int (23))) (by decide +kernel)
      · exact hs (.eq (.field (.static "RealText$Format" "DOUBLE" "LRealText$Format;") "RealText$Format" "fractionBits" "I") (.int (52))) (by decide +kernel)
      · exact hs (.eq (.field (.static "RealText$Format" "FLOAT" "LRealText$Format;") "RealText$Format" "exponentMask" "I") (.int (255))) (by decide +kernel)
      · exact hs (.eq (.field (.static "RealText$Format" "DOUBLE" "LRealText$Format;") "RealText$Format" "exponentMask" "I") (.int (2047))) (by decide +kernel)
      · exact hs (.eq (.field (.static "RealText$Format" "FLOAT" "LRealText$Format;") "RealText$Format" "leastPower" "I") (.int (-149))) (by decide +kernel)
      · exact hs (.eq (.field (.static "RealText$Format" "DOUBLE" "LRealText$Format;") "RealText$Format" "leastPower" "I") (.int (-1074))) (by decide +kernel))
    (fun i j hi hj hij => by
      rcases (show i = 0 ∨ i = 1 by simp at hi; omega) with rfl | rfl <;> rcases (show j = 0 ∨ j = 1 by simp at hj; omega) with rfl | rfl
      · exact absurd rfl hij
      · exact Or.inl (hs (.not (.eq (.static "RealText$Format" "FLOAT" "LRealText$Format;") (.static "RealText$Format" "DOUBLE" "LRealText$Format;"))) (by decide +kernel))
      · exact Or.inr (hs (.not (.eq (.static "RealText$Format" "FLOAT" "LRealText$Format;") (.static "RealText$Format" "DOUBLE" "LRealText$Format;"))) (by decide +kernel))
      · exact absurd rfl hij) hA
  obtain ⟨tp, ht, hT⟩ := va_Tof (args := args) (s := s) (tm := .static "RealText$Big" "POWERS_OF_FIVE" "[I") (ty := .int) (N := 14) (f := fun j => .int (zx_pw j)) (A := fun q => s.heap.size ≤ q) (by decide) (hs (.arrayOf (.static "RealText$Big" "POWERS_OF_FIVE" "[I") .int) (by decide +kernel)) (va_eqt (hs (.eq (.length (.static "RealText$Big" "POWERS_OF_FIVE" "[I")) (.int 14)) (by decide +kernel))) (fun j hj => by
    match j, hj with
    | 0, _ => exact va_eqt (hs (.eq (.elem (.static "RealText$Big" "POWERS_OF_FIVE" "[I") (.int 0)) (.int 1)) (by decide +kernel))
    | 1, _ => exact va_eqt (hs (.eq (.elem (.static "RealText$Big" "POWERS_OF_FIVE" "[I") (.int 1)) (.int 5)) (by decide +kernel))
    | 2, _ => exact va_eqt (hs (.eq (.elem (.static "RealText$Big" "POWERS_OF_FIVE" "[I") (.int 2)) (.int 25)) (by decide +kernel))
    | 3, _ => exact va_eqt (hs (.eq (.elem (.static "RealText$Big" "POWERS_OF_FIVE" "[I") (.int 3)) (.int 125)) (by decide +kernel))
    | 4, _ => exact va_eqt (hs (.eq (.elem (.static "RealText$Big" "POWERS_OF_FIVE" "[I") (.int 4)) (.int 625)) (by decide +kernel))
    | 5, _ => exact va_eqt (hs (.eq (.elem (.static "RealText$Big" "POWERS_OF_FIVE" "[I") (.int 5)) (.int 3125)) (by decide +kernel))
    | 6, _ => exact va_eqt (hs (.eq (.elem (.static "RealText$Big" "POWERS_OF_FIVE" "[I") (.int 6)) (.int 15625)) (by decide +kernel))
    | 7, _ => exact va_eqt (hs (.eq (.elem (.static "RealText$Big" "POWERS_OF_FIVE" "[I") (.int 7)) (.int 78125)) (by decide +kernel))
    | 8, _ => exact va_eqt (hs (.eq (.elem (.static "RealText$Big" "POWERS_OF_FIVE" "[I") (.int 8)) (.int 390625)) (by decide +kernel))
    | 9, _ => exact va_eqt (hs (.eq (.elem (.static "RealText$Big" "POWERS_OF_FIVE" "[I") (.int 9)) (.int 1953125)) (by decide +kernel))
    | 10, _ => exact va_eqt (hs (.eq (.elem (.static "RealText$Big" "POWERS_OF_FIVE" "[I") (.int 10)) (.int 9765625)) (by decide +kernel))
    | 11, _ => exact va_eqt (hs (.eq (.elem (.static "RealText$Big" "POWERS_OF_FIVE" "[I") (.int 11)) (.int 48828125)) (by decide +kernel))
    | 12, _ => exact va_eqt (hs (.eq (.elem (.static "RealText$Big" "POWERS_OF_FIVE" "[I") (.int 12)) (.int 244140625)) (by decide +kernel))
    | 13, _ => exact va_eqt (hs (.eq (.elem (.static "RealText$Big" "POWERS_OF_FIVE" "[I") (.int 13)) (.int 1220703125)) (by decide +kernel))
    | j + 14, hj => exact absurd hj (by omega)) hA
  have hZ := va_Zref (hlt _ (zl_2 (List.mem_of_getElem? (i := 122) rfl))) (hw _ wd_5) ht hA
  obtain ⟨adK, adV, hSt, hK⟩ := vk_Sof (args := args) (s := s) (N := 3) (tm := fun i => .string "RealText" ([115, 124, 126].getD i 0)) (len := zx_len) (byt := zx_byt) (A := fun q => s.heap.size ≤ q)
    (fun i hi => by
      rcases (show i = 0 ∨ i = 1 ∨ i = 2 by omega) with rfl | rfl | rfl
      · decide
      · decide
      · decide)
    (fun i hi => by
      rcases (show i = 0 ∨ i = 1 ∨ i = 2 by omega) with rfl | rfl | rfl
      · exact hs (.exactly (.string "RealText" 115) "java/lang/String") (by decide +kernel)
      · exact hs (.exactly (.string "RealText" 124) "java/lang/String") (by decide +kernel)
      · exact hs (.exactly (.string "RealText" 126) "java/lang/String") (by decide +kernel))
    (fun i hi => by
      rcases (show i = 0 ∨ i = 1 ∨ i = 2 by omega) with rfl | rfl | rfl
      · exact hs (.eq (.field (.string "RealText" 115) "java/lang/String" "coder" "B") (.int 0)) (by decide +kernel)
      · exact hs (.eq (.field (.string "RealText" 124) "java/lang/String" "coder" "B") (.int 0)) (by decide +kernel)
      · exact hs (.eq (.field (.string "RealText" 126) "java/lang/String" "coder" "B") (.int 0)) (by decide +kernel))
    (fun i hi => by
      rcases (show i = 0 ∨ i = 1 ∨ i = 2 by omega) with rfl | rfl | rfl
      · exact hs (.arrayOf (.field (.string "RealText" 115) "java/lang/String" "value" "[B") .byte) (by decide +kernel)
      · exact hs (.arrayOf (.field (.string "RealText" 124) "java/lang/String" "value" "[B") .byte) (by decide +kernel)
      · exact hs (.arrayOf (.field (.string "RealText" 126) "java/lang/String" "value" "[B") .byte) (by decide +kernel))
    (fun i hi => by
      rcases (show i = 0 ∨ i = 1 ∨ i = 2 by omega) with rfl | rfl | rfl
      · exact hs (.eq (.length (.field (.string "RealText" 115) "java/lang/String" "value" "[B")) (.int 3)) (by decide +kernel)
      · exact hs (.eq (.length (.field (.string "RealText" 124) "java/lang/String" "value" "[B")) (.int 8)) (by decide +kernel)
      · exact hs (.eq (.length (.field (.string "RealText" 126) "java/lang/String" "value" "[B")) (.int 3)) (by decide +kernel))
    (fun i hi j hj => by
      rcases (show i = 0 ∨ i = 1 ∨ i = 2 by omega) with rfl | rfl | rfl
      · match j, hj with
        | 0, _ => exact hs (.eq (.elem (.field (.string "RealText" 115) "java/lang/String" "value" "[B") (.int 0)) (.int 78)) (by decide +kernel)
        | 1, _ => exact hs (.eq (.elem (.field (.string "RealText" 115) "java/lang/String" "value" "[B") (.int 1)) (.int 97)) (by decide +kernel)
        | 2, _ => exact hs (.eq (.elem (.field (.string "RealText" 115) "java/lang/String" "value" "[B") (.int 2)) (.int 78)) (by decide +kernel)
        | j + 3, hj => exact absurd hj (by simp [zx_len])
      · match j, hj with
        | 0, _ => exact hs (.eq (.elem (.field (.string "RealText" 124) "java/lang/String" "value" "[B") (.int 0)) (.int 73)) (by decide +kernel)
        | 1, _ => exact hs (.eq (.elem (.field (.string "RealText" 124) "java/lang/String" "value" "[B") (.int 1)) (.int 110)) (by decide +kernel)
        | 2, _ => exact hs (.eq (.elem (.field (.string "RealText" 124) "java/lang/String" "value" "[B") (.int 2)) (.int 102)) (by decide +kernel)
        | 3, _ => exact hs (.eq (.elem (.field (.string "RealText" 124) "java/lang/String" "value" "[B") (.int 3)) (.int 105)) (by decide +kernel)
        | 4, _ => exact hs (.eq (.elem (.field (.string "RealText" 124) "java/lang/String" "value" "[B") (.int 4)) (.int 110)) (by decide +kernel)
        | 5, _ => exact hs (.eq (.elem (.field (.string "RealText" 124) "java/lang/String" "value" "[B") (.int 5)) (.int 105)) (by decide +kernel)
        | 6, _ => exact hs (.eq (.elem (.field (.string "RealText" 124) "java/lang/String" "value" "[B") (.int 6)) (.int 116)) (by decide +kernel)
        | 7, _ => exact hs (.eq (.elem (.field (.string "RealText" 124) "java/lang/String" "value" "[B") (.int 7)) (.int 121)) (by decide +kernel)
        | j + 8, hj => exact absurd hj (by simp [zx_len])
      · match j, hj with
        | 0, _ => exact hs (.eq (.elem (.field (.string "RealText" 126) "java/lang/String" "value" "[B") (.int 0)) (.int 48)) (by decide +kernel)
        | 1, _ => exact hs (.eq (.elem (.field (.string "RealText" 126) "java/lang/String" "value" "[B") (.int 1)) (.int 46)) (by decide +kernel)
        | 2, _ => exact hs (.eq (.elem (.field (.string "RealText" 126) "java/lang/String" "value" "[B") (.int 2)) (.int 48)) (by decide +kernel)
        | j + 3, hj => exact absurd hj (by simp [zx_len]))
    (fun i j hi hj hij => by
      rcases (show i = 0 ∨ i = 1 ∨ i = 2 by omega) with rfl | rfl | rfl <;> rcases (show j = 0 ∨ j = 1 ∨ j = 2 by omega) with rfl | rfl | rfl
      · exact absurd rfl hij
      · exact Or.inl (hs (.not (.eq (.string "RealText" 115) (.string "RealText" 124))) (by decide +kernel))
      · exact Or.inl (hs (.not (.eq (.string "RealText" 115) (.string "RealText" 126))) (by decide +kernel))
      · exact Or.inr (hs (.not (.eq (.string "RealText" 115) (.string "RealText" 124))) (by decide +kernel))
      · exact absurd rfl hij
      · exact Or.inl (hs (.not (.eq (.string "RealText" 124) (.string "RealText" 126))) (by decide +kernel))
      · exact Or.inr (hs (.not (.eq (.string "RealText" 115) (.string "RealText" 126))) (by decide +kernel))
      · exact Or.inr (hs (.not (.eq (.string "RealText" 124) (.string "RealText" 126))) (by decide +kernel))
      · exact absurd rfl hij) hA
  refine ⟨adF, tp, adK, adV, hF, hZ, hT, hSt, ⟨vk_R.of (hlt _ (zl_1 (List.mem_of_getElem? (i := 226) rfl))) (hK 0 (by decide)), vk_R.of (hlt _ (zl_2 (List.mem_of_getElem? (i := 53) rfl))) (hK 1 (by decide)), vk_R.of (hlt _ (zl_2 (List.mem_of_getElem? (i := 54) rfl))) (hK 2 (by decide))⟩, va_Zof (hlt _ (zl_2 (List.mem_of_getElem? (i := 0) rfl))) (hw _ wd_18) (va_eqi (hs (.eq (.static "java/lang/String" "COMPACT_STRINGS" "Z") (.int 1)) (by decide +kernel))) hA, va_Zqof (hlt _ (zl_2 (List.mem_of_getElem? (i := 16) rfl))) (hw _ wd_20) (hs (.isRef (.static "jdk/internal/util/Preconditions" "SIOOBE_FORMATTER" "Ljava/util/function/BiFunction;")) (by decide +kernel)) hA, zs_of (hlt _ (zl_3 (List.mem_of_getElem? (i := 18) rfl))) (hs (.isRef (.static "java/lang/Throwable" "UNASSIGNED_STACK" "[Ljava/lang/StackTraceElement;")) (by decide +kernel)) hA, zs_of (hlt _ (zl_3 (List.mem_of_getElem? (i := 20) rfl))) (hs (.isRef (.static "java/lang/Throwable" "SUPPRESSED_SENTINEL" "Ljava/util/List;")) (by decide +kernel)) hA, ?_⟩
  exact ⟨va_Nw.of rfl (hlt _ (zl_2 (List.mem_of_getElem? (i := 233) rfl))), va_Nw.of rfl (hlt _ (zl_3 (List.mem_of_getElem? (i := 59) rfl))), va_Nw.of rfl (hlt _ (zl_3 (List.mem_of_getElem? (i := 168) rfl))), va_Nc.of (hs (.not (.castable "java/lang/IllegalStateException" "java/lang/IllegalArgumentException")) (by decide +kernel)), va_Nc.of (hs (.not (.castable "java/lang/ArithmeticException" "java/lang/IllegalArgumentException")) (by decide +kernel)), va_Nw.of rfl (hlt _ (zl_1 (List.mem_of_getElem? (i := 50) rfl))), va_Nw.of rfl (hlt _ (zl_1 (List.mem_of_getElem? (i := 80) rfl))), va_Nw.of rfl (hlt _ (zl_1 (List.mem_of_getElem? (i := 119) rfl))), va_Nw.of rfl (hlt _ (zl_1 (List.mem_of_getElem? (i := 154) rfl))), va_Nw.of rfl (hlt _ (zl_2 (List.mem_of_getElem? (i := 234) rfl))), va_Nw.of rfl (hlt _ (zl_2 (List.mem_of_getElem? (i := 236) rfl))), va_Nw.of rfl (hlt _ (zl_2 (List.mem_of_getElem? (i := 238) rfl)))⟩
