-- the statics: the two sizes of numbers, the powers of five, the three texts, what the library's own code reads
abbrev zx_q0 : String × String × String × List Int32 := ("RealText$Format", "fractionBits", "I", [23, 52])
abbrev zx_q1 : String × String × String × List Int32 := ("RealText$Format", "exponentMask", "I", [255, 2047])
abbrev zx_q2 : String × String × String × List Int32 := ("RealText$Format", "leastPower", "I", [-149, -1074])
abbrev zx_F : List (String × String × String × List Int32) := [zx_q0, zx_q1, zx_q2]
theorem zx_m0 : zx_q0 ∈ zx_F := List.mem_cons_self
theorem zx_m1 : zx_q1 ∈ zx_F := List.mem_cons_of_mem _ List.mem_cons_self
theorem zx_m2 : zx_q2 ∈ zx_F := List.mem_cons_of_mem _ (List.mem_cons_of_mem _ List.mem_cons_self)
abbrev zx_fractionBits (i : Nat) : Int32 := ([23, 52] : List Int32).getD i 0
abbrev zx_exponentMask (i : Nat) : Int32 := ([255, 2047] : List Int32).getD i 0
abbrev zx_leastPower (i : Nat) : Int32 := ([-149, -1074] : List Int32).getD i 0
abbrev zx_pw (j : Nat) : Int32 := ([1, 5, 25, 125, 625, 3125, 15625, 78125, 390625, 1953125, 9765625, 48828125, 244140625, 1220703125] : List Int32).getD j 0
abbrev zx_len : List Nat := [3, 8, 3]
abbrev zx_byt : List (List Int32) := [[78, 97, 78], [73, 110, 102, 105, 110, 105, 116, 121], [48, 46, 48]]
abbrev zx_E (adF : Nat → Nat) (tp : Nat) (adK adV : Nat → Nat) : (Nat → Prop) → State → Heap → Prop := fun A U H =>
  va_En "RealText$Format" "LRealText$Format;" ["FLOAT", "DOUBLE"] zx_F adF A U H ∧
  va_Z "RealText$Big" "POWERS_OF_FIVE" "[I" (.ref tp) A U H ∧
  va_T .int tp 14 (fun j => .int (zx_pw j)) A U H ∧
  vk_S 3 zx_len zx_byt adK adV A U H ∧
  (vk_R "RealText" 115 "NaN" (adK 0) U ∧ vk_R "RealText" 124 "Infinity" (adK 1) U ∧ vk_R "RealText" 126 "0.0" (adK 2) U) ∧
  va_Z "java/lang/String" "COMPACT_STRINGS" "Z" (.int 1) A U H ∧
  va_Zq "jdk/internal/util/Preconditions" "SIOOBE_FORMATTER" "Ljava/util/function/BiFunction;" A U H ∧
  va_Zq "java/lang/Throwable" "UNASSIGNED_STACK" "[Ljava/lang/StackTraceElement;" A U H ∧
  va_Zq "java/lang/Throwable" "SUPPRESSED_SENTINEL" "Ljava/util/List;" A U H
theorem zx_ok (adF : Nat → Nat) (tp : Nat) (adK adV : Nat → Nat) : zz_E (zx_E adF tp adK adV) := by
  refine ⟨fun A u U H hW h => ?_, fun A U H H1 h hq => ?_, fun A B U H h hAB => ?_⟩
  · obtain ⟨h1, h2, h3, h4, ⟨h5, h6, h7⟩, h8, h9, h10, h11⟩ := h
    exact ⟨va_En.moved hW.alike h1, va_Z.moved hW.alike h2, va_T.moved hW.alike h3, vk_S.moved hW.alike h4, ⟨vk_R.warm hW h5, vk_R.warm hW h6, vk_R.warm hW h7⟩, va_Z.moved hW.alike h8, va_Zq.moved hW.alike h9, va_Zq.moved hW.alike h10, va_Zq.moved hW.alike h11⟩
  · obtain ⟨h1, h2, h3, h4, h5, h8, h9, h10, h11⟩ := h
    exact ⟨h1.kept hq, h2.kept hq, h3.kept hq, h4.kept hq, h5, h8.kept hq, h9.kept hq, h10.kept hq, h11.kept hq⟩
  · obtain ⟨h1, h2, h3, h4, h5, h8, h9, h10, h11⟩ := h
    exact ⟨h1.narrow hAB, h2.narrow hAB, h3.narrow hAB, h4.narrow hAB, h5, h8.narrow hAB, h9.narrow hAB, h10.narrow hAB, h11.narrow hAB⟩
