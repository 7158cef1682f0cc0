/-! the words: all of the tables that bear warming; by place -/
def zw : List Cond := lw_tbl.filter goodWord
theorem zw_t {w : Cond} (h : w ∈ tables_1) (hg : goodWord w = true) : w ∈ zw := List.mem_filter.mpr ⟨List.mem_append_right _ h, hg⟩
theorem zw_s {w : Cond} (h : w ∈ k2_sels lw_privs) (hg : goodWord w = true) : w ∈ zw := List.mem_filter.mpr ⟨List.mem_append_left _ h, hg⟩
theorem zw_1 {w : Cond} (h : w ∈ tables_1_1) (hg : goodWord w = true) : w ∈ zw := zw_t (List.mem_append_left _ h) hg
theorem zw_2 {w : Cond} (h : w ∈ tables_1_2) (hg : goodWord w = true) : w ∈ zw := zw_t (List.mem_append_right _ (List.mem_append_left _ h)) hg
theorem zw_3 {w : Cond} (h : w ∈ tables_1_3) (hg : goodWord w = true) : w ∈ zw := zw_t (List.mem_append_right _ (List.mem_append_right _ (List.mem_append_left _ h))) hg
theorem zw_4 {w : Cond} (h : w ∈ tables_1_4) (hg : goodWord w = true) : w ∈ zw := zw_t (List.mem_append_right _ (List.mem_append_right _ (List.mem_append_right _ h))) hg
abbrev y_RT_init : MethodName := ⟨"RealText", "<init>", "()V"⟩
abbrev y_Obj_init : MethodName := ⟨"java/lang/Object", "<init>", "()V"⟩
abbrev y_Row_init : MethodName := ⟨"RealText$Row", "<init>", "(I)V"⟩
abbrev y_Lit_init : MethodName := ⟨"RealText$Literal", "<init>", "()V"⟩
abbrev y_Quo_init : MethodName := ⟨"RealText$Quotient", "<init>", "()V"⟩
abbrev y_Big_init : MethodName := ⟨"RealText$Big", "<init>", "(I)V"⟩
abbrev y_Sho_init : MethodName := ⟨"RealText$Shortest", "<init>", "()V"⟩
abbrev y_Dec_init : MethodName := ⟨"RealText$Decimal", "<init>", "()V"⟩
abbrev y_RT_write : MethodName := ⟨"RealText", "write", "(JZ)I"⟩
abbrev y_Fmt_magnitudeMask : MethodName := ⟨"RealText$Format", "magnitudeMask", "()J"⟩
abbrev y_Fmt_infinity : MethodName := ⟨"RealText$Format", "infinity", "()J"⟩
abbrev y_Fmt_fractionMask : MethodName := ⟨"RealText$Format", "fractionMask", "()J"⟩
abbrev y_Fmt_hiddenBit : MethodName := ⟨"RealText$Format", "hiddenBit", "()J"⟩
abbrev y_Row_clear : MethodName := ⟨"RealText$Row", "clear", "()V"⟩
abbrev y_Row_putAll : MethodName := ⟨"RealText$Row", "putAll", "(Ljava/lang/String;)V"⟩
abbrev y_Str_length : MethodName := ⟨"java/lang/String", "length", "()I"⟩
abbrev y_Str_coder : MethodName := ⟨"java/lang/String", "coder", "()B"⟩
abbrev y_Str_charAt : MethodName := ⟨"java/lang/String", "charAt", "(I)C"⟩
abbrev y_Str_isLatin1 : MethodName := ⟨"java/lang/String", "isLatin1", "()Z"⟩
abbrev y_Lat_charAt : MethodName := ⟨"java/lang/StringLatin1", "charAt", "([BI)C"⟩
abbrev y_Str_checkIndex : MethodName := ⟨"java/lang/String", "checkIndex", "(II)V"⟩
abbrev y_Pre_checkIndex : MethodName := ⟨"jdk/internal/util/Preconditions", "checkIndex", "(IILjava/util/function/BiFunction;)I"⟩
abbrev y_U16_charAt : MethodName := ⟨"java/lang/StringUTF16", "charAt", "([BI)C"⟩
abbrev y_U16_checkIndex : MethodName := ⟨"java/lang/StringUTF16", "checkIndex", "(I[B)V"⟩
abbrev y_U16_length : MethodName := ⟨"java/lang/StringUTF16", "length", "([B)I"⟩
abbrev y_U16_getChar : MethodName := ⟨"java/lang/StringUTF16", "getChar", "([BI)C"⟩
abbrev y_Row_put : MethodName := ⟨"RealText$Row", "put", "(C)V"⟩
abbrev y_Row_length : MethodName := ⟨"RealText$Row", "length", "()I"⟩
abbrev y_Fmt_signMask : MethodName := ⟨"RealText$Format", "signMask", "()J"⟩
abbrev y_Sho_find : MethodName := ⟨"RealText$Shortest", "find", "(JLRealText$Format;)V"⟩
abbrev y_Fmt_significandOf : MethodName := ⟨"RealText$Format", "significandOf", "(J)J"⟩
abbrev y_Fmt_exponentOf : MethodName := ⟨"RealText$Format", "exponentOf", "(J)I"⟩
abbrev y_Fmt_isNarrowBelow : MethodName := ⟨"RealText$Format", "isNarrowBelow", "(J)Z"⟩
abbrev y_Fmt_powerOf : MethodName := ⟨"RealText$Format", "powerOf", "(J)I"⟩
abbrev y_Mat_max : MethodName := ⟨"java/lang/Math", "max", "(II)I"⟩
abbrev y_Sho_start : MethodName := ⟨"RealText$Shortest", "start", "(JI)V"⟩
abbrev y_Big_set : MethodName := ⟨"RealText$Big", "set", "(J)V"⟩
abbrev y_Big_addLimb : MethodName := ⟨"RealText$Big", "addLimb", "(J)V"⟩
abbrev y_Big_trim : MethodName := ⟨"RealText$Big", "trim", "()V"⟩
abbrev y_Big_shiftLeft : MethodName := ⟨"RealText$Big", "shiftLeft", "(I)V"⟩
abbrev y_Big_limbAt : MethodName := ⟨"RealText$Big", "limbAt", "(I)J"⟩
abbrev y_Big_bitLength : MethodName := ⟨"RealText$Big", "bitLength", "()I"⟩
abbrev y_Mat_floorDiv : MethodName := ⟨"java/lang/Math", "floorDiv", "(II)I"⟩
abbrev y_Big_multiplyByTens : MethodName := ⟨"RealText$Big", "multiplyByTens", "(I)V"⟩
abbrev y_Big_multiplyByFives : MethodName := ⟨"RealText$Big", "multiplyByFives", "(I)V"⟩
abbrev y_Mat_min : MethodName := ⟨"java/lang/Math", "min", "(II)I"⟩
abbrev y_Big_multiplyAndAdd : MethodName := ⟨"RealText$Big", "multiplyAndAdd", "(II)V"⟩
abbrev y_Big_compare : MethodName := ⟨"RealText$Big", "compare", "(LRealText$Big;)I"⟩
abbrev y_Sho_nextDigit : MethodName := ⟨"RealText$Shortest", "nextDigit", "()I"⟩
abbrev y_Big_subtract : MethodName := ⟨"RealText$Big", "subtract", "(LRealText$Big;)V"⟩
abbrev y_Sho_isReadBelow : MethodName := ⟨"RealText$Shortest", "isReadBelow", "()Z"⟩
abbrev y_Sho_isReadAbove : MethodName := ⟨"RealText$Shortest", "isReadAbove", "()Z"⟩
abbrev y_Big_copy : MethodName := ⟨"RealText$Big", "copy", "(LRealText$Big;)V"⟩
abbrev y_Sys_arraycopy : MethodName := ⟨"java/lang/System", "arraycopy", "(Ljava/lang/Object;ILjava/lang/Object;II)V"⟩
abbrev y_Big_add : MethodName := ⟨"RealText$Big", "add", "(LRealText$Big;)V"⟩
abbrev y_Big_setLimb : MethodName := ⟨"RealText$Big", "setLimb", "(IJ)V"⟩
abbrev y_Sho_isNearerAbove : MethodName := ⟨"RealText$Shortest", "isNearerAbove", "()Z"⟩
abbrev y_Dec_set : MethodName := ⟨"RealText$Decimal", "set", "(JI)V"⟩
abbrev y_Dec_putOn : MethodName := ⟨"RealText$Decimal", "putOn", "(LRealText$Row;)V"⟩
abbrev y_Dec_putDigits : MethodName := ⟨"RealText$Decimal", "putDigits", "(LRealText$Row;II)V"⟩
abbrev y_Dec_digitAt : MethodName := ⟨"RealText$Decimal", "digitAt", "(I)I"⟩
abbrev y_Dec_putExponent : MethodName := ⟨"RealText$Decimal", "putExponent", "(LRealText$Row;I)V"⟩
abbrev y_Mat_abs : MethodName := ⟨"java/lang/Math", "abs", "(I)I"⟩
abbrev y_RT_take : MethodName := ⟨"RealText", "take", "()J"⟩
abbrev y_Row_takeFirst : MethodName := ⟨"RealText$Row", "takeFirst", "()C"⟩
abbrev y_Row_at : MethodName := ⟨"RealText$Row", "at", "(I)C"⟩
abbrev y_RT_back : MethodName := ⟨"RealText", "back", "()I"⟩
abbrev y_Law_text : MethodName := ⟨"RealTextLaw", "text", "(LRealText;J[J)I"⟩
abbrev y_RT_text : MethodName := ⟨"RealText", "text", "(J)I"⟩
abbrev y_RT_hasOnlyCharacters : MethodName := ⟨"RealText", "hasOnlyCharacters", "(J)Z"⟩
abbrev y_RT_byteAt : MethodName := ⟨"RealText", "byteAt", "(JI)I"⟩
abbrev y_RuntimeException_init_0 : MethodName := ⟨"java/lang/RuntimeException", "<init>", "()V"⟩
abbrev y_RuntimeException_init_1 : MethodName := ⟨"java/lang/RuntimeException", "<init>", "(Ljava/lang/String;)V"⟩
abbrev y_Exception_init_0 : MethodName := ⟨"java/lang/Exception", "<init>", "()V"⟩
abbrev y_Exception_init_1 : MethodName := ⟨"java/lang/Exception", "<init>", "(Ljava/lang/String;)V"⟩
abbrev y_Thr_init_0 : MethodName := ⟨"java/lang/Throwable", "<init>", "()V"⟩
abbrev y_Thr_init_1 : MethodName := ⟨"java/lang/Throwable", "<init>", "(Ljava/lang/String;)V"⟩
abbrev y_Thr_fillInStackTrace_0 : MethodName := ⟨"java/lang/Throwable", "fillInStackTrace", "(I)Ljava/lang/Throwable;"⟩
abbrev y_Thr_fillInStackTrace_1 : MethodName := ⟨"java/lang/Throwable", "fillInStackTrace", "()Ljava/lang/Throwable;"⟩
abbrev y_IllegalArgumentException_init : MethodName := ⟨"java/lang/IllegalArgumentException", "<init>", "()V"⟩
abbrev y_RT_charactersIn : MethodName := ⟨"RealText", "charactersIn", "(J)I"⟩
abbrev y_IllegalStateException_init : MethodName := ⟨"java/lang/IllegalStateException", "<init>", "()V"⟩
abbrev y_Law_read : MethodName := ⟨"RealTextLaw", "read", "(LRealText;Z[J)I"⟩
abbrev y_RT_read : MethodName := ⟨"RealText", "read", "(Z)J"⟩
abbrev y_RT_bitsOfText : MethodName := ⟨"RealText", "bitsOfText", "(LRealText$Format;)J"⟩
abbrev y_Lit_scan : MethodName := ⟨"RealText$Literal", "scan", "(LRealText$Row;)Z"⟩
abbrev y_Lit_isEither : MethodName := ⟨"RealText$Literal", "isEither", "(CCC)Z"⟩
abbrev y_Lit_endOfDigits : MethodName := ⟨"RealText$Literal", "endOfDigits", "(LRealText$Row;II)I"⟩
abbrev y_Lit_digitOf : MethodName := ⟨"RealText$Literal", "digitOf", "(CI)I"⟩
abbrev y_Lit_addDigits : MethodName := ⟨"RealText$Literal", "addDigits", "(LRealText$Row;III)I"⟩
abbrev y_Lit_addDigit : MethodName := ⟨"RealText$Literal", "addDigit", "(I)V"⟩
abbrev y_Lit_dropZerosBehind : MethodName := ⟨"RealText$Literal", "dropZerosBehind", "()V"⟩
abbrev y_Lit_scanExponent : MethodName := ⟨"RealText$Literal", "scanExponent", "(LRealText$Row;I)Z"⟩
abbrev y_Lit_exponentIn : MethodName := ⟨"RealText$Literal", "exponentIn", "(LRealText$Row;II)I"⟩
abbrev y_RT_bitsOfHex : MethodName := ⟨"RealText", "bitsOfHex", "(LRealText$Format;)J"⟩
abbrev y_Fmt_nearest : MethodName := ⟨"RealText$Format", "nearest", "(JIZ)J"⟩
abbrev y_Fmt_rounded : MethodName := ⟨"RealText$Format", "rounded", "(JIZ)J"⟩
abbrev y_Fmt_join : MethodName := ⟨"RealText$Format", "join", "(JI)J"⟩
abbrev y_RT_bitsOfDecimal : MethodName := ⟨"RealText", "bitsOfDecimal", "(LRealText$Format;)J"⟩
abbrev y_Quo_divide : MethodName := ⟨"RealText$Quotient", "divide", "(LRealText$Literal;I)V"⟩
abbrev y_Quo_setNumerator : MethodName := ⟨"RealText$Quotient", "setNumerator", "(LRealText$Literal;)V"⟩
abbrev y_Quo_divideBits : MethodName := ⟨"RealText$Quotient", "divideBits", "()V"⟩
abbrev y_Big_isZero : MethodName := ⟨"RealText$Big", "isZero", "()Z"⟩
abbrev y_ArithmeticException_init : MethodName := ⟨"java/lang/ArithmeticException", "<init>", "()V"⟩
abbrev y_Law_count : MethodName := ⟨"RealTextLaw", "count", "(LRealText;I[J)I"⟩
abbrev y_RT_count : MethodName := ⟨"RealText", "count", "(I)I"⟩
abbrev y_Mod_init : MethodName := ⟨"RealTextModel", "<init>", "()V"⟩
abbrev y_Mod_thrown : MethodName := ⟨"RealTextModel", "thrown", "()I"⟩
abbrev y_Mod_text : MethodName := ⟨"RealTextModel", "text", "(J)I"⟩
abbrev y_Mod_in : MethodName := ⟨"RealTextModel", "in", "(III)Z"⟩
abbrev y_Mod_fail : MethodName := ⟨"RealTextModel", "fail", "(I)I"⟩
abbrev y_Mod_read : MethodName := ⟨"RealTextModel", "read", "(Z)J"⟩
abbrev y_Mod_isBinary : MethodName := ⟨"RealTextModel", "isBinary", "()Z"⟩
abbrev y_Mod_literal : MethodName := ⟨"RealTextModel", "literal", "(Z)Z"⟩
abbrev y_Mod_row : MethodName := ⟨"RealTextModel", "row", "(Z)I"⟩
abbrev y_Mod_look : MethodName := ⟨"RealTextModel", "look", "()I"⟩
abbrev y_Mod_digit : MethodName := ⟨"RealTextModel", "digit", "(IZ)I"⟩
abbrev y_Mod_grow : MethodName := ⟨"RealTextModel", "grow", "([IIII)I"⟩
abbrev y_Mod_trimmed : MethodName := ⟨"RealTextModel", "trimmed", "([II)I"⟩
abbrev y_Mod_exponentRow : MethodName := ⟨"RealTextModel", "exponentRow", "()V"⟩
abbrev y_Mod_greatest : MethodName := ⟨"RealTextModel", "greatest", "(Z)J"⟩
abbrev y_Mod_found : MethodName := ⟨"RealTextModel", "found", "(ZZ)J"⟩
abbrev y_Mod_set : MethodName := ⟨"RealTextModel", "set", "([IJ)I"⟩
abbrev y_Mod_fives : MethodName := ⟨"RealTextModel", "fives", "([III)I"⟩
abbrev y_Mod_nearest : MethodName := ⟨"RealTextModel", "nearest", "(Z)J"⟩
abbrev y_Mod_mantissa : MethodName := ⟨"RealTextModel", "mantissa", "(JZ)J"⟩
abbrev y_Mod_exponent : MethodName := ⟨"RealTextModel", "exponent", "(JZ)I"⟩
abbrev y_Mod_compare : MethodName := ⟨"RealTextModel", "compare", "(JI)I"⟩
abbrev y_Mod_shifted : MethodName := ⟨"RealTextModel", "shifted", "([III)I"⟩
abbrev y_Mod_times : MethodName := ⟨"RealTextModel", "times", "([IIJ[I)I"⟩
abbrev y_Mod_above : MethodName := ⟨"RealTextModel", "above", "(JZ)I"⟩
abbrev y_Mod_write : MethodName := ⟨"RealTextModel", "write", "(JZ)I"⟩
abbrev y_Mod_layWord : MethodName := ⟨"RealTextModel", "layWord", "(JI)V"⟩
abbrev y_Mod_lay : MethodName := ⟨"RealTextModel", "lay", "(I)V"⟩
abbrev y_Mod_layDecimal : MethodName := ⟨"RealTextModel", "layDecimal", "(JZ)V"⟩
abbrev y_Mod_shortest : MethodName := ⟨"RealTextModel", "shortest", "(JZ)J"⟩
abbrev y_Mod_tens : MethodName := ⟨"RealTextModel", "tens", "(JI)I"⟩
abbrev y_Mod_scale : MethodName := ⟨"RealTextModel", "scale", "(I)V"⟩
abbrev y_Mod_compareDigits : MethodName := ⟨"RealTextModel", "compareDigits", "(JJI)I"⟩
abbrev y_Mod_most : MethodName := ⟨"RealTextModel", "most", "(JIJ)J"⟩
abbrev y_Mod_isRead : MethodName := ⟨"RealTextModel", "isRead", "(JJZ)Z"⟩
abbrev y_Mod_layDigits : MethodName := ⟨"RealTextModel", "layDigits", "(JIII)V"⟩
abbrev y_Mod_layNumber : MethodName := ⟨"RealTextModel", "layNumber", "(I)V"⟩
abbrev y_Mod_take : MethodName := ⟨"RealTextModel", "take", "()J"⟩
abbrev y_Mod_back : MethodName := ⟨"RealTextModel", "back", "()I"⟩
abbrev y_Mod_count : MethodName := ⟨"RealTextModel", "count", "(I)I"⟩
theorem wd_0 : Cond.initialized "RealTextLaw" ∈ zw := zw_1 (List.mem_of_getElem? (i := 0) rfl) rfl
theorem wd_1 : Cond.initialized "RealText" ∈ zw := zw_1 (List.mem_of_getElem? (i := 1) rfl) rfl
theorem wd_2 : Cond.initialized "RealText$Row" ∈ zw := zw_1 (List.mem_of_getElem? (i := 2) rfl) rfl
theorem wd_3 : Cond.initialized "RealText$Literal" ∈ zw := zw_1 (List.mem_of_getElem? (i := 3) rfl) rfl
theorem wd_4 : Cond.initialized "RealText$Quotient" ∈ zw := zw_1 (List.mem_of_getElem? (i := 4) rfl) rfl
theorem wd_5 : Cond.initialized "RealText$Big" ∈ zw := zw_1 (List.mem_of_getElem? (i := 5) rfl) rfl
theorem wd_6 : Cond.initialized "RealText$Shortest" ∈ zw := zw_1 (List.mem_of_getElem? (i := 6) rfl) rfl
theorem wd_7 : Cond.initialized "RealText$Decimal" ∈ zw := zw_1 (List.mem_of_getElem? (i := 7) rfl) rfl
theorem wd_8 : Cond.initialized "RealTextModel" ∈ zw := zw_1 (List.mem_of_getElem? (i := 8) rfl) rfl
theorem wd_9 : Cond.initialized "java/lang/Throwable" ∈ zw := zw_1 (List.mem_of_getElem? (i := 9) rfl) rfl
theorem wd_10 : Cond.initialized "java/lang/Exception" ∈ zw := zw_1 (List.mem_of_getElem? (i := 10) rfl) rfl
theorem wd_11 : Cond.initialized "java/lang/RuntimeException" ∈ zw := zw_1 (List.mem_of_getElem? (i := 11) rfl) rfl
theorem wd_12 : Cond.initialized "java/lang/IllegalArgumentException" ∈ zw := zw_1 (List.mem_of_getElem? (i := 12) rfl) rfl
theorem wd_13 : Cond.initialized "java/lang/IllegalStateException" ∈ zw := zw_1 (List.mem_of_getElem? (i := 13) rfl) rfl
theorem wd_14 : Cond.initialized "java/lang/Enum" ∈ zw := zw_1 (List.mem_of_getElem? (i := 14) rfl) rfl
theorem wd_15 : Cond.initialized "RealText$Format" ∈ zw := zw_1 (List.mem_of_getElem? (i := 15) rfl) rfl
theorem wd_16 : Cond.initialized "java/lang/Math" ∈ zw := zw_1 (List.mem_of_getElem? (i := 16) rfl) rfl
theorem wd_17 : Cond.initialized "java/lang/ArithmeticException" ∈ zw := zw_1 (List.mem_of_getElem? (i := 17) rfl) rfl
theorem wd_18 : Cond.initialized "java/lang/String" ∈ zw := zw_1 (List.mem_of_getElem? (i := 18) rfl) rfl
theorem wd_19 : Cond.initialized "java/lang/StringLatin1" ∈ zw := zw_1 (List.mem_of_getElem? (i := 19) rfl) rfl
theorem wd_20 : Cond.initialized "jdk/internal/util/Preconditions" ∈ zw := zw_1 (List.mem_of_getElem? (i := 20) rfl) rfl
theorem wd_21 : Cond.initialized "java/lang/StringUTF16" ∈ zw := zw_1 (List.mem_of_getElem? (i := 21) rfl) rfl
theorem wd_22 : Cond.initialized "java/lang/System" ∈ zw := zw_1 (List.mem_of_getElem? (i := 22) rfl) rfl
theorem wd_23 : Cond.classLink "RealTextLaw" 8 "RealText" ∈ zw := zw_1 (List.mem_of_getElem? (i := 23) rfl) rfl
theorem wd_24 : Cond.instantiable "RealText" 9 ∈ zw := zw_1 (List.mem_of_getElem? (i := 24) rfl) rfl
theorem wd_25 : Cond.methodLink "RealTextLaw" 27 y_RT_init ∈ zw := zw_1 (List.mem_of_getElem? (i := 25) rfl) rfl
theorem wd_26 : Cond.instanceMethod y_RT_init ∈ zw := zw_1 (List.mem_of_getElem? (i := 26) rfl) rfl
theorem wd_27 : Cond.code y_RT_init prog_1_method_1_code 1 none ∈ zw := zw_1 (List.mem_of_getElem? (i := 27) rfl) rfl
theorem wd_28 : Cond.methodLink "RealText" 1 y_Obj_init ∈ zw := zw_1 (List.mem_of_getElem? (i := 28) rfl) rfl
theorem wd_29 : Cond.instanceMethod y_Obj_init ∈ zw := zw_1 (List.mem_of_getElem? (i := 29) rfl) rfl
theorem wd_30 : Cond.code y_Obj_init object_method_1_code 1 none ∈ zw := zw_1 (List.mem_of_getElem? (i := 30) rfl) rfl
theorem wd_31 : Cond.classLink "RealText" 7 "RealText$Row" ∈ zw := zw_1 (List.mem_of_getElem? (i := 31) rfl) rfl
theorem wd_32 : Cond.instantiable "RealText$Row" 3 ∈ zw := zw_1 (List.mem_of_getElem? (i := 32) rfl) rfl
theorem wd_33 : Cond.methodLink "RealText" 11 y_Row_init ∈ zw := zw_1 (List.mem_of_getElem? (i := 33) rfl) rfl
theorem wd_34 : Cond.instanceMethod y_Row_init ∈ zw := zw_1 (List.mem_of_getElem? (i := 34) rfl) rfl
theorem wd_35 : Cond.code y_Row_init prog_7_method_1_code 2 none ∈ zw := zw_1 (List.mem_of_getElem? (i := 35) rfl) rfl
theorem wd_36 : Cond.methodLink "RealText$Row" 1 y_Obj_init ∈ zw := zw_1 (List.mem_of_getElem? (i := 36) rfl) rfl
theorem wd_37 : Cond.fieldLink "RealText$Row" 7 "RealText$Row" "letters" "[C" ∈ zw := zw_1 (List.mem_of_getElem? (i := 37) rfl) rfl
theorem wd_38 : Cond.fieldLink "RealText$Row" 17 "RealText$Row" "start" "I" ∈ zw := zw_1 (List.mem_of_getElem? (i := 38) rfl) rfl
theorem wd_39 : Cond.fieldLink "RealText$Row" 13 "RealText$Row" "end" "I" ∈ zw := zw_1 (List.mem_of_getElem? (i := 39) rfl) rfl
theorem wd_40 : Cond.laysFinal "RealText$Row" "RealText$Row" "letters" "[C" ∈ zw := zw_1 (List.mem_of_getElem? (i := 40) rfl) rfl
theorem wd_42 : Cond.lays "RealText$Row" "RealText$Row" "start" "I" ∈ zw := zw_1 (List.mem_of_getElem? (i := 42) rfl) rfl
theorem wd_44 : Cond.lays "RealText$Row" "RealText$Row" "end" "I" ∈ zw := zw_1 (List.mem_of_getElem? (i := 44) rfl) rfl
theorem wd_47 : Cond.arrayClass .char ∈ zw := zw_1 (List.mem_of_getElem? (i := 47) rfl) rfl
theorem wd_48 : Cond.classLink "RealText" 21 "RealText$Literal" ∈ zw := zw_1 (List.mem_of_getElem? (i := 48) rfl) rfl
theorem wd_49 : Cond.instantiable "RealText$Literal" 5 ∈ zw := zw_1 (List.mem_of_getElem? (i := 49) rfl) rfl
theorem wd_51 : Cond.instanceMethod y_Lit_init ∈ zw := zw_1 (List.mem_of_getElem? (i := 51) rfl) rfl
theorem wd_52 : Cond.code y_Lit_init prog_5_method_1_code 1 none ∈ zw := zw_1 (List.mem_of_getElem? (i := 52) rfl) rfl
theorem wd_53 : Cond.methodLink "RealText$Literal" 3 y_Obj_init ∈ zw := zw_1 (List.mem_of_getElem? (i := 53) rfl) rfl
theorem wd_54 : Cond.fieldLink "RealText$Literal" 9 "RealText$Literal" "digits" "[B" ∈ zw := zw_1 (List.mem_of_getElem? (i := 54) rfl) rfl
theorem wd_55 : Cond.fieldLink "RealText$Quotient" 61 "RealText$Literal" "digits" "[B" ∈ zw := zw_1 (List.mem_of_getElem? (i := 55) rfl) rfl
theorem wd_56 : Cond.fieldLink "RealText" 178 "RealText$Literal" "digits" "[B" ∈ zw := zw_1 (List.mem_of_getElem? (i := 56) rfl) rfl
theorem wd_57 : Cond.fieldLink "RealText$Literal" 33 "RealText$Literal" "digitCount" "I" ∈ zw := zw_1 (List.mem_of_getElem? (i := 57) rfl) rfl
theorem wd_58 : Cond.fieldLink "RealText$Quotient" 56 "RealText$Literal" "digitCount" "I" ∈ zw := zw_1 (List.mem_of_getElem? (i := 58) rfl) rfl
theorem wd_59 : Cond.fieldLink "RealText" 159 "RealText$Literal" "digitCount" "I" ∈ zw := zw_1 (List.mem_of_getElem? (i := 59) rfl) rfl
theorem wd_60 : Cond.fieldLink "RealText$Literal" 41 "RealText$Literal" "fraction" "I" ∈ zw := zw_1 (List.mem_of_getElem? (i := 60) rfl) rfl
theorem wd_61 : Cond.fieldLink "RealText" 175 "RealText$Literal" "fraction" "I" ∈ zw := zw_1 (List.mem_of_getElem? (i := 61) rfl) rfl
theorem wd_62 : Cond.fieldLink "RealText$Literal" 51 "RealText$Literal" "exponent" "I" ∈ zw := zw_1 (List.mem_of_getElem? (i := 62) rfl) rfl
theorem wd_63 : Cond.fieldLink "RealText" 172 "RealText$Literal" "exponent" "I" ∈ zw := zw_1 (List.mem_of_getElem? (i := 63) rfl) rfl
theorem wd_64 : Cond.fieldLink "RealText$Literal" 25 "RealText$Literal" "isHex" "Z" ∈ zw := zw_1 (List.mem_of_getElem? (i := 64) rfl) rfl
theorem wd_65 : Cond.fieldLink "RealText" 162 "RealText$Literal" "isHex" "Z" ∈ zw := zw_1 (List.mem_of_getElem? (i := 65) rfl) rfl
theorem wd_66 : Cond.laysFinal "RealText$Literal" "RealText$Literal" "digits" "[B" ∈ zw := zw_1 (List.mem_of_getElem? (i := 66) rfl) rfl
theorem wd_68 : Cond.lays "RealText$Literal" "RealText$Literal" "digitCount" "I" ∈ zw := zw_1 (List.mem_of_getElem? (i := 68) rfl) rfl
theorem wd_70 : Cond.lays "RealText$Literal" "RealText$Literal" "fraction" "I" ∈ zw := zw_1 (List.mem_of_getElem? (i := 70) rfl) rfl
theorem wd_72 : Cond.lays "RealText$Literal" "RealText$Literal" "exponent" "I" ∈ zw := zw_1 (List.mem_of_getElem? (i := 72) rfl) rfl
theorem wd_74 : Cond.lays "RealText$Literal" "RealText$Literal" "isHex" "Z" ∈ zw := zw_1 (List.mem_of_getElem? (i := 74) rfl) rfl
theorem wd_77 : Cond.arrayClass .byte ∈ zw := zw_1 (List.mem_of_getElem? (i := 77) rfl) rfl
theorem wd_78 : Cond.classLink "RealText" 28 "RealText$Quotient" ∈ zw := zw_1 (List.mem_of_getElem? (i := 78) rfl) rfl
theorem wd_79 : Cond.instantiable "RealText$Quotient" 5 ∈ zw := zw_1 (List.mem_of_getElem? (i := 79) rfl) rfl
theorem wd_81 : Cond.instanceMethod y_Quo_init ∈ zw := zw_1 (List.mem_of_getElem? (i := 81) rfl) rfl
theorem wd_82 : Cond.code y_Quo_init prog_6_method_1_code 1 none ∈ zw := zw_1 (List.mem_of_getElem? (i := 82) rfl) rfl
theorem wd_83 : Cond.methodLink "RealText$Quotient" 1 y_Obj_init ∈ zw := zw_1 (List.mem_of_getElem? (i := 83) rfl) rfl
theorem wd_84 : Cond.classLink "RealText$Quotient" 7 "RealText$Big" ∈ zw := zw_1 (List.mem_of_getElem? (i := 84) rfl) rfl
theorem wd_85 : Cond.instantiable "RealText$Big" 2 ∈ zw := zw_1 (List.mem_of_getElem? (i := 85) rfl) rfl
theorem wd_86 : Cond.methodLink "RealText$Quotient" 11 y_Big_init ∈ zw := zw_1 (List.mem_of_getElem? (i := 86) rfl) rfl
theorem wd_87 : Cond.instanceMethod y_Big_init ∈ zw := zw_1 (List.mem_of_getElem? (i := 87) rfl) rfl
theorem wd_88 : Cond.code y_Big_init prog_2_method_1_code 2 none ∈ zw := zw_1 (List.mem_of_getElem? (i := 88) rfl) rfl
theorem wd_89 : Cond.methodLink "RealText$Big" 1 y_Obj_init ∈ zw := zw_1 (List.mem_of_getElem? (i := 89) rfl) rfl
theorem wd_90 : Cond.fieldLink "RealText$Big" 7 "RealText$Big" "limbs" "[I" ∈ zw := zw_1 (List.mem_of_getElem? (i := 90) rfl) rfl
theorem wd_91 : Cond.fieldLink "RealText$Big" 13 "RealText$Big" "size" "I" ∈ zw := zw_1 (List.mem_of_getElem? (i := 91) rfl) rfl
theorem wd_92 : Cond.laysFinal "RealText$Big" "RealText$Big" "limbs" "[I" ∈ zw := zw_1 (List.mem_of_getElem? (i := 92) rfl) rfl
theorem wd_94 : Cond.lays "RealText$Big" "RealText$Big" "size" "I" ∈ zw := zw_1 (List.mem_of_getElem? (i := 94) rfl) rfl
theorem wd_97 : Cond.arrayClass .int ∈ zw := zw_1 (List.mem_of_getElem? (i := 97) rfl) rfl
theorem wd_98 : Cond.fieldLink "RealText$Quotient" 14 "RealText$Quotient" "numerator" "LRealText$Big;" ∈ zw := zw_1 (List.mem_of_getElem? (i := 98) rfl) rfl
theorem wd_99 : Cond.fieldLink "RealText$Quotient" 18 "RealText$Quotient" "denominator" "LRealText$Big;" ∈ zw := zw_1 (List.mem_of_getElem? (i := 99) rfl) rfl
theorem wd_100 : Cond.fieldLink "RealText$Quotient" 69 "RealText$Quotient" "lead" "J" ∈ zw := zw_1 (List.mem_of_getElem? (i := 100) rfl) rfl
theorem wd_101 : Cond.fieldLink "RealText" 190 "RealText$Quotient" "lead" "J" ∈ zw := zw_1 (List.mem_of_getElem? (i := 101) rfl) rfl
theorem wd_102 : Cond.fieldLink "RealText$Quotient" 44 "RealText$Quotient" "power" "I" ∈ zw := zw_1 (List.mem_of_getElem? (i := 102) rfl) rfl
theorem wd_103 : Cond.fieldLink "RealText" 193 "RealText$Quotient" "power" "I" ∈ zw := zw_1 (List.mem_of_getElem? (i := 103) rfl) rfl
theorem wd_104 : Cond.fieldLink "RealText$Quotient" 52 "RealText$Quotient" "more" "Z" ∈ zw := zw_1 (List.mem_of_getElem? (i := 104) rfl) rfl
theorem wd_105 : Cond.fieldLink "RealText" 194 "RealText$Quotient" "more" "Z" ∈ zw := zw_1 (List.mem_of_getElem? (i := 105) rfl) rfl
theorem wd_106 : Cond.laysFinal "RealText$Quotient" "RealText$Quotient" "numerator" "LRealText$Big;" ∈ zw := zw_1 (List.mem_of_getElem? (i := 106) rfl) rfl
theorem wd_108 : Cond.laysFinal "RealText$Quotient" "RealText$Quotient" "denominator" "LRealText$Big;" ∈ zw := zw_1 (List.mem_of_getElem? (i := 108) rfl) rfl
theorem wd_110 : Cond.lays "RealText$Quotient" "RealText$Quotient" "lead" "J" ∈ zw := zw_1 (List.mem_of_getElem? (i := 110) rfl) rfl
theorem wd_112 : Cond.lays "RealText$Quotient" "RealText$Quotient" "power" "I" ∈ zw := zw_1 (List.mem_of_getElem? (i := 112) rfl) rfl
theorem wd_114 : Cond.lays "RealText$Quotient" "RealText$Quotient" "more" "Z" ∈ zw := zw_1 (List.mem_of_getElem? (i := 114) rfl) rfl
theorem wd_117 : Cond.classLink "RealText" 35 "RealText$Shortest" ∈ zw := zw_1 (List.mem_of_getElem? (i := 117) rfl) rfl
theorem wd_118 : Cond.instantiable "RealText$Shortest" 8 ∈ zw := zw_1 (List.mem_of_getElem? (i := 118) rfl) rfl
theorem wd_120 : Cond.instanceMethod y_Sho_init ∈ zw := zw_1 (List.mem_of_getElem? (i := 120) rfl) rfl
theorem wd_121 : Cond.code y_Sho_init prog_8_method_1_code 1 none ∈ zw := zw_1 (List.mem_of_getElem? (i := 121) rfl) rfl
theorem wd_122 : Cond.methodLink "RealText$Shortest" 1 y_Obj_init ∈ zw := zw_1 (List.mem_of_getElem? (i := 122) rfl) rfl
theorem wd_123 : Cond.classLink "RealText$Shortest" 7 "RealText$Big" ∈ zw := zw_1 (List.mem_of_getElem? (i := 123) rfl) rfl
theorem wd_124 : Cond.methodLink "RealText$Shortest" 11 y_Big_init ∈ zw := zw_1 (List.mem_of_getElem? (i := 124) rfl) rfl
theorem wd_125 : Cond.fieldLink "RealText$Shortest" 14 "RealText$Shortest" "rest" "LRealText$Big;" ∈ zw := zw_1 (List.mem_of_getElem? (i := 125) rfl) rfl
theorem wd_126 : Cond.fieldLink "RealText$Shortest" 18 "RealText$Shortest" "unit" "LRealText$Big;" ∈ zw := zw_1 (List.mem_of_getElem? (i := 126) rfl) rfl
theorem wd_127 : Cond.fieldLink "RealText$Shortest" 21 "RealText$Shortest" "halfGap" "LRealText$Big;" ∈ zw := zw_1 (List.mem_of_getElem? (i := 127) rfl) rfl
theorem wd_128 : Cond.fieldLink "RealText$Shortest" 24 "RealText$Shortest" "sum" "LRealText$Big;" ∈ zw := zw_1 (List.mem_of_getElem? (i := 128) rfl) rfl
theorem wd_129 : Cond.fieldLink "RealText$Shortest" 37 "RealText$Shortest" "isNarrowBelow" "Z" ∈ zw := zw_1 (List.mem_of_getElem? (i := 129) rfl) rfl
theorem wd_130 : Cond.fieldLink "RealText$Shortest" 40 "RealText$Shortest" "isEven" "Z" ∈ zw := zw_1 (List.mem_of_getElem? (i := 130) rfl) rfl
theorem wd_131 : Cond.fieldLink "RealText$Shortest" 51 "RealText$Shortest" "number" "J" ∈ zw := zw_1 (List.mem_of_getElem? (i := 131) rfl) rfl
theorem wd_132 : Cond.fieldLink "RealText" 132 "RealText$Shortest" "number" "J" ∈ zw := zw_1 (List.mem_of_getElem? (i := 132) rfl) rfl
theorem wd_133 : Cond.fieldLink "RealText$Shortest" 61 "RealText$Shortest" "power" "I" ∈ zw := zw_1 (List.mem_of_getElem? (i := 133) rfl) rfl
theorem wd_134 : Cond.fieldLink "RealText" 136 "RealText$Shortest" "power" "I" ∈ zw := zw_1 (List.mem_of_getElem? (i := 134) rfl) rfl
theorem wd_135 : Cond.laysFinal "RealText$Shortest" "RealText$Shortest" "rest" "LRealText$Big;" ∈ zw := zw_1 (List.mem_of_getElem? (i := 135) rfl) rfl
theorem wd_137 : Cond.laysFinal "RealText$Shortest" "RealText$Shortest" "unit" "LRealText$Big;" ∈ zw := zw_1 (List.mem_of_getElem? (i := 137) rfl) rfl
theorem wd_139 : Cond.laysFinal "RealText$Shortest" "RealText$Shortest" "halfGap" "LRealText$Big;" ∈ zw := zw_1 (List.mem_of_getElem? (i := 139) rfl) rfl
theorem wd_141 : Cond.laysFinal "RealText$Shortest" "RealText$Shortest" "sum" "LRealText$Big;" ∈ zw := zw_1 (List.mem_of_getElem? (i := 141) rfl) rfl
theorem wd_143 : Cond.lays "RealText$Shortest" "RealText$Shortest" "isNarrowBelow" "Z" ∈ zw := zw_1 (List.mem_of_getElem? (i := 143) rfl) rfl
theorem wd_145 : Cond.lays "RealText$Shortest" "RealText$Shortest" "isEven" "Z" ∈ zw := zw_1 (List.mem_of_getElem? (i := 145) rfl) rfl
theorem wd_147 : Cond.lays "RealText$Shortest" "RealText$Shortest" "number" "J" ∈ zw := zw_1 (List.mem_of_getElem? (i := 147) rfl) rfl
theorem wd_149 : Cond.lays "RealText$Shortest" "RealText$Shortest" "power" "I" ∈ zw := zw_1 (List.mem_of_getElem? (i := 149) rfl) rfl
theorem wd_152 : Cond.classLink "RealText" 42 "RealText$Decimal" ∈ zw := zw_1 (List.mem_of_getElem? (i := 152) rfl) rfl
theorem wd_153 : Cond.instantiable "RealText$Decimal" 3 ∈ zw := zw_1 (List.mem_of_getElem? (i := 153) rfl) rfl
theorem wd_155 : Cond.instanceMethod y_Dec_init ∈ zw := zw_1 (List.mem_of_getElem? (i := 155) rfl) rfl
theorem wd_156 : Cond.code y_Dec_init prog_3_method_1_code 1 none ∈ zw := zw_1 (List.mem_of_getElem? (i := 156) rfl) rfl
theorem wd_157 : Cond.methodLink "RealText$Decimal" 1 y_Obj_init ∈ zw := zw_1 (List.mem_of_getElem? (i := 157) rfl) rfl
theorem wd_158 : Cond.fieldLink "RealText$Decimal" 9 "RealText$Decimal" "reversed" "[B" ∈ zw := zw_1 (List.mem_of_getElem? (i := 158) rfl) rfl
theorem wd_159 : Cond.fieldLink "RealText$Decimal" 13 "RealText$Decimal" "digitCount" "I" ∈ zw := zw_1 (List.mem_of_getElem? (i := 159) rfl) rfl
theorem wd_160 : Cond.fieldLink "RealText$Decimal" 17 "RealText$Decimal" "point" "I" ∈ zw := zw_1 (List.mem_of_getElem? (i := 160) rfl) rfl
theorem wd_161 : Cond.laysFinal "RealText$Decimal" "RealText$Decimal" "reversed" "[B" ∈ zw := zw_1 (List.mem_of_getElem? (i := 161) rfl) rfl
theorem wd_163 : Cond.lays "RealText$Decimal" "RealText$Decimal" "digitCount" "I" ∈ zw := zw_1 (List.mem_of_getElem? (i := 163) rfl) rfl
theorem wd_165 : Cond.lays "RealText$Decimal" "RealText$Decimal" "point" "I" ∈ zw := zw_1 (List.mem_of_getElem? (i := 165) rfl) rfl
theorem wd_168 : Cond.fieldLink "RealText" 14 "RealText" "theText" "LRealText$Row;" ∈ zw := zw_1 (List.mem_of_getElem? (i := 168) rfl) rfl
theorem wd_169 : Cond.fieldLink "RealText" 18 "RealText" "written" "LRealText$Row;" ∈ zw := zw_1 (List.mem_of_getElem? (i := 169) rfl) rfl
theorem wd_170 : Cond.fieldLink "RealText" 24 "RealText" "literal" "LRealText$Literal;" ∈ zw := zw_1 (List.mem_of_getElem? (i := 170) rfl) rfl
theorem wd_171 : Cond.fieldLink "RealText" 31 "RealText" "quotient" "LRealText$Quotient;" ∈ zw := zw_1 (List.mem_of_getElem? (i := 171) rfl) rfl
theorem wd_172 : Cond.fieldLink "RealText" 38 "RealText" "shortest" "LRealText$Shortest;" ∈ zw := zw_1 (List.mem_of_getElem? (i := 172) rfl) rfl
theorem wd_173 : Cond.fieldLink "RealText" 45 "RealText" "decimal" "LRealText$Decimal;" ∈ zw := zw_1 (List.mem_of_getElem? (i := 173) rfl) rfl
theorem wd_174 : Cond.fieldLink "RealText" 105 "RealText" "readCount" "I" ∈ zw := zw_1 (List.mem_of_getElem? (i := 174) rfl) rfl
theorem wd_175 : Cond.fieldLink "RealText" 93 "RealText" "noLiteralCount" "I" ∈ zw := zw_1 (List.mem_of_getElem? (i := 175) rfl) rfl
theorem wd_176 : Cond.fieldLink "RealText" 99 "RealText" "outOfRangeCount" "I" ∈ zw := zw_1 (List.mem_of_getElem? (i := 176) rfl) rfl
theorem wd_177 : Cond.laysFinal "RealText" "RealText" "theText" "LRealText$Row;" ∈ zw := zw_1 (List.mem_of_getElem? (i := 177) rfl) rfl
theorem wd_179 : Cond.laysFinal "RealText" "RealText" "written" "LRealText$Row;" ∈ zw := zw_1 (List.mem_of_getElem? (i := 179) rfl) rfl
theorem wd_181 : Cond.laysFinal "RealText" "RealText" "literal" "LRealText$Literal;" ∈ zw := zw_1 (List.mem_of_getElem? (i := 181) rfl) rfl
theorem wd_183 : Cond.laysFinal "RealText" "RealText" "quotient" "LRealText$Quotient;" ∈ zw := zw_1 (List.mem_of_getElem? (i := 183) rfl) rfl
theorem wd_185 : Cond.laysFinal "RealText" "RealText" "shortest" "LRealText$Shortest;" ∈ zw := zw_1 (List.mem_of_getElem? (i := 185) rfl) rfl
theorem wd_187 : Cond.laysFinal "RealText" "RealText" "decimal" "LRealText$Decimal;" ∈ zw := zw_1 (List.mem_of_getElem? (i := 187) rfl) rfl
theorem wd_189 : Cond.lays "RealText" "RealText" "readCount" "I" ∈ zw := zw_1 (List.mem_of_getElem? (i := 189) rfl) rfl
theorem wd_191 : Cond.lays "RealText" "RealText" "noLiteralCount" "I" ∈ zw := zw_1 (List.mem_of_getElem? (i := 191) rfl) rfl
theorem wd_193 : Cond.lays "RealText" "RealText" "outOfRangeCount" "I" ∈ zw := zw_1 (List.mem_of_getElem? (i := 193) rfl) rfl
theorem wd_196 : Cond.methodLink "RealTextLaw" 47 y_RT_write ∈ zw := zw_1 (List.mem_of_getElem? (i := 196) rfl) rfl
theorem wd_197 : Cond.instanceMethod y_RT_write ∈ zw := zw_1 (List.mem_of_getElem? (i := 197) rfl) rfl
theorem wd_198 : Cond.selects "RealText" y_RT_write y_RT_write ∈ zw := zw_1 (List.mem_of_getElem? (i := 198) rfl) rfl
theorem wd_199 : Cond.code y_RT_write prog_1_method_4_code 7 (some .int) ∈ zw := zw_1 (List.mem_of_getElem? (i := 199) rfl) rfl
theorem wd_200 : Cond.fieldLink "RealText" 75 "RealText$Format" "FLOAT" "LRealText$Format;" ∈ zw := zw_1 (List.mem_of_getElem? (i := 200) rfl) rfl
theorem wd_202 : Cond.fieldLink "RealText" 81 "RealText$Format" "DOUBLE" "LRealText$Format;" ∈ zw := zw_1 (List.mem_of_getElem? (i := 202) rfl) rfl
theorem wd_204 : Cond.methodLink "RealText" 108 y_Fmt_magnitudeMask ∈ zw := zw_1 (List.mem_of_getElem? (i := 204) rfl) rfl
theorem wd_205 : Cond.instanceMethod y_Fmt_magnitudeMask ∈ zw := zw_1 (List.mem_of_getElem? (i := 205) rfl) rfl
theorem wd_206 : Cond.selects "RealText$Format" y_Fmt_magnitudeMask y_Fmt_magnitudeMask ∈ zw := zw_1 (List.mem_of_getElem? (i := 206) rfl) rfl
theorem wd_207 : Cond.code y_Fmt_magnitudeMask prog_4_method_5_code 1 (some .long) ∈ zw := zw_1 (List.mem_of_getElem? (i := 207) rfl) rfl
theorem wd_208 : Cond.methodLink "RealText$Format" 41 y_Fmt_infinity ∈ zw := zw_1 (List.mem_of_getElem? (i := 208) rfl) rfl
theorem wd_209 : Cond.instanceMethod y_Fmt_infinity ∈ zw := zw_1 (List.mem_of_getElem? (i := 209) rfl) rfl
theorem wd_210 : Cond.selects "RealText$Format" y_Fmt_infinity y_Fmt_infinity ∈ zw := zw_1 (List.mem_of_getElem? (i := 210) rfl) rfl
theorem wd_211 : Cond.code y_Fmt_infinity prog_4_method_4_code 1 (some .long) ∈ zw := zw_1 (List.mem_of_getElem? (i := 211) rfl) rfl
theorem wd_212 : Cond.methodLink "RealText$Format" 45 y_Fmt_fractionMask ∈ zw := zw_1 (List.mem_of_getElem? (i := 212) rfl) rfl
theorem wd_214 : Cond.instanceMethod y_Fmt_fractionMask ∈ zw := zw_1 (List.mem_of_getElem? (i := 214) rfl) rfl
theorem wd_215 : Cond.instantiable "RealText$Format" 6 ∈ zw := zw_1 (List.mem_of_getElem? (i := 215) rfl) rfl
theorem wd_216 : Cond.code y_Fmt_fractionMask prog_4_method_8_code 1 (some .long) ∈ zw := zw_1 (List.mem_of_getElem? (i := 216) rfl) rfl
theorem wd_217 : Cond.methodLink "RealText$Format" 51 y_Fmt_hiddenBit ∈ zw := zw_1 (List.mem_of_getElem? (i := 217) rfl) rfl
theorem wd_219 : Cond.instanceMethod y_Fmt_hiddenBit ∈ zw := zw_1 (List.mem_of_getElem? (i := 219) rfl) rfl
theorem wd_220 : Cond.code y_Fmt_hiddenBit prog_4_method_7_code 1 (some .long) ∈ zw := zw_1 (List.mem_of_getElem? (i := 220) rfl) rfl
theorem wd_221 : Cond.methodLink "RealText" 88 y_Row_clear ∈ zw := zw_1 (List.mem_of_getElem? (i := 221) rfl) rfl
theorem wd_222 : Cond.instanceMethod y_Row_clear ∈ zw := zw_1 (List.mem_of_getElem? (i := 222) rfl) rfl
theorem wd_223 : Cond.selects "RealText$Row" y_Row_clear y_Row_clear ∈ zw := zw_1 (List.mem_of_getElem? (i := 223) rfl) rfl
theorem wd_224 : Cond.code y_Row_clear prog_7_method_7_code 1 none ∈ zw := zw_1 (List.mem_of_getElem? (i := 224) rfl) rfl
theorem wd_225 : Cond.methodLink "RealText" 112 y_Fmt_infinity ∈ zw := zw_1 (List.mem_of_getElem? (i := 225) rfl) rfl
theorem wd_227 : Cond.methodLink "RealText" 117 y_Row_putAll ∈ zw := zw_1 (List.mem_of_getElem? (i := 227) rfl) rfl
theorem wd_228 : Cond.instanceMethod y_Row_putAll ∈ zw := zw_1 (List.mem_of_getElem? (i := 228) rfl) rfl
theorem wd_229 : Cond.selects "RealText$Row" y_Row_putAll y_Row_putAll ∈ zw := zw_1 (List.mem_of_getElem? (i := 229) rfl) rfl
theorem wd_230 : Cond.code y_Row_putAll prog_7_method_5_code 3 none ∈ zw := zw_1 (List.mem_of_getElem? (i := 230) rfl) rfl
theorem wd_231 : Cond.methodLink "RealText$Row" 20 y_Str_length ∈ zw := zw_1 (List.mem_of_getElem? (i := 231) rfl) rfl
theorem wd_232 : Cond.instanceMethod y_Str_length ∈ zw := zw_1 (List.mem_of_getElem? (i := 232) rfl) rfl
theorem wd_233 : Cond.selects "java/lang/String" y_Str_length y_Str_length ∈ zw := zw_1 (List.mem_of_getElem? (i := 233) rfl) rfl
theorem wd_234 : Cond.code y_Str_length prog_18_method_54_code 1 (some .int) ∈ zw := zw_1 (List.mem_of_getElem? (i := 234) rfl) rfl
theorem wd_235 : Cond.methodLink "java/lang/String" 335 y_Str_coder ∈ zw := zw_1 (List.mem_of_getElem? (i := 235) rfl) rfl
theorem wd_236 : Cond.instanceMethod y_Str_coder ∈ zw := zw_1 (List.mem_of_getElem? (i := 236) rfl) rfl
theorem wd_237 : Cond.selects "java/lang/String" y_Str_coder y_Str_coder ∈ zw := zw_1 (List.mem_of_getElem? (i := 237) rfl) rfl
theorem wd_238 : Cond.code y_Str_coder prog_18_method_152_code 1 (some .byte) ∈ zw := zw_1 (List.mem_of_getElem? (i := 238) rfl) rfl
theorem wd_239 : Cond.fieldLink "java/lang/String" 38 "java/lang/String" "COMPACT_STRINGS" "Z" ∈ zw := zw_1 (List.mem_of_getElem? (i := 239) rfl) rfl
theorem wd_241 : Cond.methodLink "RealText$Row" 26 y_Str_charAt ∈ zw := zw_2 (List.mem_of_getElem? (i := 1) rfl) rfl
theorem wd_242 : Cond.instanceMethod y_Str_charAt ∈ zw := zw_2 (List.mem_of_getElem? (i := 2) rfl) rfl
theorem wd_243 : Cond.selects "java/lang/String" y_Str_charAt y_Str_charAt ∈ zw := zw_2 (List.mem_of_getElem? (i := 3) rfl) rfl
theorem wd_244 : Cond.code y_Str_charAt prog_18_method_56_code 2 (some .char) ∈ zw := zw_2 (List.mem_of_getElem? (i := 4) rfl) rfl
theorem wd_245 : Cond.methodLink "java/lang/String" 492 y_Str_isLatin1 ∈ zw := zw_2 (List.mem_of_getElem? (i := 5) rfl) rfl
theorem wd_246 : Cond.instanceMethod y_Str_isLatin1 ∈ zw := zw_2 (List.mem_of_getElem? (i := 6) rfl) rfl
theorem wd_247 : Cond.selects "java/lang/String" y_Str_isLatin1 y_Str_isLatin1 ∈ zw := zw_2 (List.mem_of_getElem? (i := 7) rfl) rfl
theorem wd_248 : Cond.code y_Str_isLatin1 prog_18_method_154_code 1 (some .boolean) ∈ zw := zw_2 (List.mem_of_getElem? (i := 8) rfl) rfl
theorem wd_249 : Cond.methodLink "java/lang/String" 495 y_Lat_charAt ∈ zw := zw_2 (List.mem_of_getElem? (i := 9) rfl) rfl
theorem wd_250 : Cond.static y_Lat_charAt ∈ zw := zw_2 (List.mem_of_getElem? (i := 10) rfl) rfl
theorem wd_251 : Cond.code y_Lat_charAt prog_19_method_2_code 2 (some .char) ∈ zw := zw_2 (List.mem_of_getElem? (i := 11) rfl) rfl
theorem wd_252 : Cond.methodLink "java/lang/StringLatin1" 9 y_Str_checkIndex ∈ zw := zw_2 (List.mem_of_getElem? (i := 12) rfl) rfl
theorem wd_253 : Cond.static y_Str_checkIndex ∈ zw := zw_2 (List.mem_of_getElem? (i := 13) rfl) rfl
theorem wd_254 : Cond.code y_Str_checkIndex prog_18_method_155_code 2 none ∈ zw := zw_2 (List.mem_of_getElem? (i := 14) rfl) rfl
theorem wd_255 : Cond.fieldLink "java/lang/String" 1053 "jdk/internal/util/Preconditions" "SIOOBE_FORMATTER" "Ljava/util/function/BiFunction;" ∈ zw := zw_2 (List.mem_of_getElem? (i := 15) rfl) rfl
theorem wd_257 : Cond.methodLink "java/lang/String" 1059 y_Pre_checkIndex ∈ zw := zw_2 (List.mem_of_getElem? (i := 17) rfl) rfl
theorem wd_258 : Cond.static y_Pre_checkIndex ∈ zw := zw_2 (List.mem_of_getElem? (i := 18) rfl) rfl
theorem wd_259 : Cond.code y_Pre_checkIndex prog_23_method_11_code 3 (some .int) ∈ zw := zw_2 (List.mem_of_getElem? (i := 19) rfl) rfl
theorem wd_260 : Cond.methodLink "java/lang/String" 498 y_U16_charAt ∈ zw := zw_2 (List.mem_of_getElem? (i := 20) rfl) rfl
theorem wd_261 : Cond.static y_U16_charAt ∈ zw := zw_2 (List.mem_of_getElem? (i := 21) rfl) rfl
theorem wd_262 : Cond.code y_U16_charAt prog_20_method_83_code 2 (some .char) ∈ zw := zw_2 (List.mem_of_getElem? (i := 22) rfl) rfl
theorem wd_263 : Cond.methodLink "java/lang/StringUTF16" 67 y_U16_checkIndex ∈ zw := zw_2 (List.mem_of_getElem? (i := 23) rfl) rfl
theorem wd_264 : Cond.static y_U16_checkIndex ∈ zw := zw_2 (List.mem_of_getElem? (i := 24) rfl) rfl
theorem wd_265 : Cond.code y_U16_checkIndex prog_20_method_91_code 2 none ∈ zw := zw_2 (List.mem_of_getElem? (i := 25) rfl) rfl
theorem wd_266 : Cond.methodLink "java/lang/StringUTF16" 48 y_U16_length ∈ zw := zw_2 (List.mem_of_getElem? (i := 26) rfl) rfl
theorem wd_267 : Cond.static y_U16_length ∈ zw := zw_2 (List.mem_of_getElem? (i := 27) rfl) rfl
theorem wd_268 : Cond.code y_U16_length prog_20_method_6_code 1 (some .int) ∈ zw := zw_2 (List.mem_of_getElem? (i := 28) rfl) rfl
theorem wd_269 : Cond.methodLink "java/lang/StringUTF16" 414 y_Str_checkIndex ∈ zw := zw_2 (List.mem_of_getElem? (i := 29) rfl) rfl
theorem wd_270 : Cond.methodLink "java/lang/StringUTF16" 71 y_U16_getChar ∈ zw := zw_2 (List.mem_of_getElem? (i := 30) rfl) rfl
theorem wd_271 : Cond.static y_U16_getChar ∈ zw := zw_2 (List.mem_of_getElem? (i := 31) rfl) rfl
theorem wd_272 : Cond.code y_U16_getChar prog_20_method_5_code 2 (some .char) ∈ zw := zw_2 (List.mem_of_getElem? (i := 32) rfl) rfl
theorem wd_273 : Cond.fieldLink "java/lang/StringUTF16" 44 "java/lang/StringUTF16" "$assertionsDisabled" "Z" ∈ zw := zw_2 (List.mem_of_getElem? (i := 33) rfl) rfl
theorem wd_275 : Cond.fieldLink "java/lang/StringUTF16" 59 "java/lang/StringUTF16" "HI_BYTE_SHIFT" "I" ∈ zw := zw_2 (List.mem_of_getElem? (i := 35) rfl) rfl
theorem wd_277 : Cond.fieldLink "java/lang/StringUTF16" 63 "java/lang/StringUTF16" "LO_BYTE_SHIFT" "I" ∈ zw := zw_2 (List.mem_of_getElem? (i := 37) rfl) rfl
theorem wd_279 : Cond.methodLink "RealText$Row" 30 y_Row_put ∈ zw := zw_2 (List.mem_of_getElem? (i := 39) rfl) rfl
theorem wd_280 : Cond.instanceMethod y_Row_put ∈ zw := zw_2 (List.mem_of_getElem? (i := 40) rfl) rfl
theorem wd_281 : Cond.selects "RealText$Row" y_Row_put y_Row_put ∈ zw := zw_2 (List.mem_of_getElem? (i := 41) rfl) rfl
theorem wd_282 : Cond.code y_Row_put prog_7_method_4_code 2 none ∈ zw := zw_2 (List.mem_of_getElem? (i := 42) rfl) rfl
theorem wd_283 : Cond.methodLink "RealText" 56 y_Row_length ∈ zw := zw_2 (List.mem_of_getElem? (i := 43) rfl) rfl
theorem wd_284 : Cond.instanceMethod y_Row_length ∈ zw := zw_2 (List.mem_of_getElem? (i := 44) rfl) rfl
theorem wd_285 : Cond.selects "RealText$Row" y_Row_length y_Row_length ∈ zw := zw_2 (List.mem_of_getElem? (i := 45) rfl) rfl
theorem wd_286 : Cond.code y_Row_length prog_7_method_2_code 1 (some .int) ∈ zw := zw_2 (List.mem_of_getElem? (i := 46) rfl) rfl
theorem wd_287 : Cond.methodLink "RealText" 121 y_Fmt_signMask ∈ zw := zw_2 (List.mem_of_getElem? (i := 47) rfl) rfl
theorem wd_288 : Cond.instanceMethod y_Fmt_signMask ∈ zw := zw_2 (List.mem_of_getElem? (i := 48) rfl) rfl
theorem wd_289 : Cond.selects "RealText$Format" y_Fmt_signMask y_Fmt_signMask ∈ zw := zw_2 (List.mem_of_getElem? (i := 49) rfl) rfl
theorem wd_290 : Cond.code y_Fmt_signMask prog_4_method_6_code 1 (some .long) ∈ zw := zw_2 (List.mem_of_getElem? (i := 50) rfl) rfl
theorem wd_291 : Cond.methodLink "RealText$Format" 48 y_Fmt_magnitudeMask ∈ zw := zw_2 (List.mem_of_getElem? (i := 51) rfl) rfl
theorem wd_292 : Cond.methodLink "RealText" 71 y_Row_put ∈ zw := zw_2 (List.mem_of_getElem? (i := 52) rfl) rfl
theorem wd_295 : Cond.methodLink "RealText" 128 y_Sho_find ∈ zw := zw_2 (List.mem_of_getElem? (i := 55) rfl) rfl
theorem wd_296 : Cond.instanceMethod y_Sho_find ∈ zw := zw_2 (List.mem_of_getElem? (i := 56) rfl) rfl
theorem wd_297 : Cond.selects "RealText$Shortest" y_Sho_find y_Sho_find ∈ zw := zw_2 (List.mem_of_getElem? (i := 57) rfl) rfl
theorem wd_298 : Cond.code y_Sho_find prog_8_method_2_code 9 none ∈ zw := zw_2 (List.mem_of_getElem? (i := 58) rfl) rfl
theorem wd_299 : Cond.methodLink "RealText$Shortest" 27 y_Fmt_significandOf ∈ zw := zw_2 (List.mem_of_getElem? (i := 59) rfl) rfl
theorem wd_300 : Cond.instanceMethod y_Fmt_significandOf ∈ zw := zw_2 (List.mem_of_getElem? (i := 60) rfl) rfl
theorem wd_301 : Cond.selects "RealText$Format" y_Fmt_significandOf y_Fmt_significandOf ∈ zw := zw_2 (List.mem_of_getElem? (i := 61) rfl) rfl
theorem wd_302 : Cond.code y_Fmt_significandOf prog_4_method_10_code 5 (some .long) ∈ zw := zw_2 (List.mem_of_getElem? (i := 62) rfl) rfl
theorem wd_303 : Cond.methodLink "RealText$Format" 54 y_Fmt_exponentOf ∈ zw := zw_2 (List.mem_of_getElem? (i := 63) rfl) rfl
theorem wd_305 : Cond.instanceMethod y_Fmt_exponentOf ∈ zw := zw_2 (List.mem_of_getElem? (i := 65) rfl) rfl
theorem wd_306 : Cond.code y_Fmt_exponentOf prog_4_method_9_code 3 (some .int) ∈ zw := zw_2 (List.mem_of_getElem? (i := 66) rfl) rfl
theorem wd_307 : Cond.methodLink "RealText$Shortest" 33 y_Fmt_isNarrowBelow ∈ zw := zw_2 (List.mem_of_getElem? (i := 67) rfl) rfl
theorem wd_308 : Cond.instanceMethod y_Fmt_isNarrowBelow ∈ zw := zw_2 (List.mem_of_getElem? (i := 68) rfl) rfl
theorem wd_309 : Cond.selects "RealText$Format" y_Fmt_isNarrowBelow y_Fmt_isNarrowBelow ∈ zw := zw_2 (List.mem_of_getElem? (i := 69) rfl) rfl
theorem wd_310 : Cond.code y_Fmt_isNarrowBelow prog_4_method_12_code 3 (some .boolean) ∈ zw := zw_2 (List.mem_of_getElem? (i := 70) rfl) rfl
theorem wd_311 : Cond.methodLink "RealText$Shortest" 43 y_Fmt_powerOf ∈ zw := zw_2 (List.mem_of_getElem? (i := 71) rfl) rfl
theorem wd_312 : Cond.instanceMethod y_Fmt_powerOf ∈ zw := zw_2 (List.mem_of_getElem? (i := 72) rfl) rfl
theorem wd_313 : Cond.selects "RealText$Format" y_Fmt_powerOf y_Fmt_powerOf ∈ zw := zw_2 (List.mem_of_getElem? (i := 73) rfl) rfl
theorem wd_314 : Cond.code y_Fmt_powerOf prog_4_method_11_code 3 (some .int) ∈ zw := zw_2 (List.mem_of_getElem? (i := 74) rfl) rfl
theorem wd_315 : Cond.methodLink "RealText$Format" 58 y_Mat_max ∈ zw := zw_2 (List.mem_of_getElem? (i := 75) rfl) rfl
theorem wd_316 : Cond.static y_Mat_max ∈ zw := zw_2 (List.mem_of_getElem? (i := 76) rfl) rfl
theorem wd_317 : Cond.code y_Mat_max prog_16_method_65_code 2 (some .int) ∈ zw := zw_2 (List.mem_of_getElem? (i := 77) rfl) rfl
theorem wd_318 : Cond.methodLink "RealText$Shortest" 47 y_Sho_start ∈ zw := zw_2 (List.mem_of_getElem? (i := 78) rfl) rfl
theorem wd_320 : Cond.instanceMethod y_Sho_start ∈ zw := zw_2 (List.mem_of_getElem? (i := 80) rfl) rfl
theorem wd_321 : Cond.code y_Sho_start prog_8_method_3_code 5 none ∈ zw := zw_2 (List.mem_of_getElem? (i := 81) rfl) rfl
theorem wd_322 : Cond.methodLink "RealText$Shortest" 75 y_Big_set ∈ zw := zw_2 (List.mem_of_getElem? (i := 82) rfl) rfl
theorem wd_323 : Cond.instanceMethod y_Big_set ∈ zw := zw_2 (List.mem_of_getElem? (i := 83) rfl) rfl
theorem wd_324 : Cond.selects "RealText$Big" y_Big_set y_Big_set ∈ zw := zw_2 (List.mem_of_getElem? (i := 84) rfl) rfl
theorem wd_325 : Cond.code y_Big_set prog_2_method_2_code 3 none ∈ zw := zw_2 (List.mem_of_getElem? (i := 85) rfl) rfl
theorem wd_326 : Cond.constantLong "RealText$Big" 17 4294967295 ∈ zw := zw_2 (List.mem_of_getElem? (i := 86) rfl) rfl
theorem wd_327 : Cond.methodLink "RealText$Big" 19 y_Big_addLimb ∈ zw := zw_2 (List.mem_of_getElem? (i := 87) rfl) rfl
theorem wd_329 : Cond.instanceMethod y_Big_addLimb ∈ zw := zw_2 (List.mem_of_getElem? (i := 89) rfl) rfl
theorem wd_330 : Cond.code y_Big_addLimb prog_2_method_15_code 3 none ∈ zw := zw_2 (List.mem_of_getElem? (i := 90) rfl) rfl
theorem wd_331 : Cond.methodLink "RealText$Big" 23 y_Big_trim ∈ zw := zw_2 (List.mem_of_getElem? (i := 91) rfl) rfl
theorem wd_333 : Cond.instanceMethod y_Big_trim ∈ zw := zw_2 (List.mem_of_getElem? (i := 93) rfl) rfl
theorem wd_334 : Cond.code y_Big_trim prog_2_method_16_code 1 none ∈ zw := zw_2 (List.mem_of_getElem? (i := 94) rfl) rfl
theorem wd_335 : Cond.methodLink "RealText$Shortest" 79 y_Big_shiftLeft ∈ zw := zw_2 (List.mem_of_getElem? (i := 95) rfl) rfl
theorem wd_336 : Cond.instanceMethod y_Big_shiftLeft ∈ zw := zw_2 (List.mem_of_getElem? (i := 96) rfl) rfl
theorem wd_337 : Cond.selects "RealText$Big" y_Big_shiftLeft y_Big_shiftLeft ∈ zw := zw_2 (List.mem_of_getElem? (i := 97) rfl) rfl
theorem wd_338 : Cond.code y_Big_shiftLeft prog_2_method_12_code 7 none ∈ zw := zw_2 (List.mem_of_getElem? (i := 98) rfl) rfl
theorem wd_339 : Cond.methodLink "RealText$Big" 38 y_Big_limbAt ∈ zw := zw_2 (List.mem_of_getElem? (i := 99) rfl) rfl
theorem wd_341 : Cond.instanceMethod y_Big_limbAt ∈ zw := zw_2 (List.mem_of_getElem? (i := 101) rfl) rfl
theorem wd_342 : Cond.code y_Big_limbAt prog_2_method_13_code 2 (some .long) ∈ zw := zw_2 (List.mem_of_getElem? (i := 102) rfl) rfl
theorem wd_343 : Cond.constantLong "RealText$Shortest" 82 4 ∈ zw := zw_2 (List.mem_of_getElem? (i := 103) rfl) rfl
theorem wd_344 : Cond.constantLong "RealText$Shortest" 84 2 ∈ zw := zw_2 (List.mem_of_getElem? (i := 104) rfl) rfl
theorem wd_345 : Cond.methodLink "RealText$Shortest" 86 y_Big_bitLength ∈ zw := zw_2 (List.mem_of_getElem? (i := 105) rfl) rfl
theorem wd_346 : Cond.instanceMethod y_Big_bitLength ∈ zw := zw_2 (List.mem_of_getElem? (i := 106) rfl) rfl
theorem wd_347 : Cond.selects "RealText$Big" y_Big_bitLength y_Big_bitLength ∈ zw := zw_2 (List.mem_of_getElem? (i := 107) rfl) rfl
theorem wd_348 : Cond.code y_Big_bitLength prog_2_method_5_code 4 (some .int) ∈ zw := zw_2 (List.mem_of_getElem? (i := 108) rfl) rfl
theorem wd_349 : Cond.constant "RealText$Shortest" 89 100000 ∈ zw := zw_2 (List.mem_of_getElem? (i := 109) rfl) rfl
theorem wd_350 : Cond.methodLink "RealText$Shortest" 90 y_Mat_floorDiv ∈ zw := zw_2 (List.mem_of_getElem? (i := 110) rfl) rfl
theorem wd_351 : Cond.static y_Mat_floorDiv ∈ zw := zw_2 (List.mem_of_getElem? (i := 111) rfl) rfl
theorem wd_352 : Cond.code y_Mat_floorDiv prog_16_method_47_code 3 (some .int) ∈ zw := zw_2 (List.mem_of_getElem? (i := 112) rfl) rfl
theorem wd_353 : Cond.methodLink "RealText$Shortest" 96 y_Big_multiplyByTens ∈ zw := zw_2 (List.mem_of_getElem? (i := 113) rfl) rfl
theorem wd_354 : Cond.instanceMethod y_Big_multiplyByTens ∈ zw := zw_2 (List.mem_of_getElem? (i := 114) rfl) rfl
theorem wd_355 : Cond.selects "RealText$Big" y_Big_multiplyByTens y_Big_multiplyByTens ∈ zw := zw_2 (List.mem_of_getElem? (i := 115) rfl) rfl
theorem wd_356 : Cond.code y_Big_multiplyByTens prog_2_method_11_code 2 none ∈ zw := zw_2 (List.mem_of_getElem? (i := 116) rfl) rfl
theorem wd_357 : Cond.methodLink "RealText$Big" 56 y_Big_multiplyByFives ∈ zw := zw_2 (List.mem_of_getElem? (i := 117) rfl) rfl
theorem wd_358 : Cond.instanceMethod y_Big_multiplyByFives ∈ zw := zw_2 (List.mem_of_getElem? (i := 118) rfl) rfl
theorem wd_359 : Cond.selects "RealText$Big" y_Big_multiplyByFives y_Big_multiplyByFives ∈ zw := zw_2 (List.mem_of_getElem? (i := 119) rfl) rfl
theorem wd_360 : Cond.code y_Big_multiplyByFives prog_2_method_10_code 3 none ∈ zw := zw_2 (List.mem_of_getElem? (i := 120) rfl) rfl
theorem wd_361 : Cond.fieldLink "RealText$Big" 49 "RealText$Big" "POWERS_OF_FIVE" "[I" ∈ zw := zw_2 (List.mem_of_getElem? (i := 121) rfl) rfl
theorem wd_363 : Cond.methodLink "RealText$Big" 26 y_Mat_min ∈ zw := zw_2 (List.mem_of_getElem? (i := 123) rfl) rfl
theorem wd_364 : Cond.static y_Mat_min ∈ zw := zw_2 (List.mem_of_getElem? (i := 124) rfl) rfl
theorem wd_365 : Cond.code y_Mat_min prog_16_method_69_code 2 (some .int) ∈ zw := zw_2 (List.mem_of_getElem? (i := 125) rfl) rfl
theorem wd_366 : Cond.methodLink "RealText$Big" 52 y_Big_multiplyAndAdd ∈ zw := zw_2 (List.mem_of_getElem? (i := 126) rfl) rfl
theorem wd_367 : Cond.instanceMethod y_Big_multiplyAndAdd ∈ zw := zw_2 (List.mem_of_getElem? (i := 127) rfl) rfl
theorem wd_368 : Cond.selects "RealText$Big" y_Big_multiplyAndAdd y_Big_multiplyAndAdd ∈ zw := zw_2 (List.mem_of_getElem? (i := 128) rfl) rfl
theorem wd_369 : Cond.code y_Big_multiplyAndAdd prog_2_method_9_code 6 none ∈ zw := zw_2 (List.mem_of_getElem? (i := 129) rfl) rfl
theorem wd_370 : Cond.methodLink "RealText$Big" 60 y_Big_shiftLeft ∈ zw := zw_2 (List.mem_of_getElem? (i := 130) rfl) rfl
theorem wd_371 : Cond.methodLink "RealText$Shortest" 99 y_Big_compare ∈ zw := zw_2 (List.mem_of_getElem? (i := 131) rfl) rfl
theorem wd_372 : Cond.instanceMethod y_Big_compare ∈ zw := zw_2 (List.mem_of_getElem? (i := 132) rfl) rfl
theorem wd_373 : Cond.selects "RealText$Big" y_Big_compare y_Big_compare ∈ zw := zw_2 (List.mem_of_getElem? (i := 133) rfl) rfl
theorem wd_374 : Cond.code y_Big_compare prog_2_method_6_code 3 (some .int) ∈ zw := zw_2 (List.mem_of_getElem? (i := 134) rfl) rfl
theorem wd_375 : Cond.methodLink "RealText$Shortest" 103 y_Big_multiplyAndAdd ∈ zw := zw_2 (List.mem_of_getElem? (i := 135) rfl) rfl
theorem wd_376 : Cond.constantLong "RealText$Shortest" 55 10 ∈ zw := zw_2 (List.mem_of_getElem? (i := 136) rfl) rfl
theorem wd_377 : Cond.methodLink "RealText$Shortest" 57 y_Sho_nextDigit ∈ zw := zw_2 (List.mem_of_getElem? (i := 137) rfl) rfl
theorem wd_379 : Cond.instanceMethod y_Sho_nextDigit ∈ zw := zw_2 (List.mem_of_getElem? (i := 139) rfl) rfl
theorem wd_380 : Cond.code y_Sho_nextDigit prog_8_method_4_code 3 (some .int) ∈ zw := zw_2 (List.mem_of_getElem? (i := 140) rfl) rfl
theorem wd_381 : Cond.methodLink "RealText$Shortest" 107 y_Big_subtract ∈ zw := zw_2 (List.mem_of_getElem? (i := 141) rfl) rfl
theorem wd_382 : Cond.instanceMethod y_Big_subtract ∈ zw := zw_2 (List.mem_of_getElem? (i := 142) rfl) rfl
theorem wd_383 : Cond.selects "RealText$Big" y_Big_subtract y_Big_subtract ∈ zw := zw_2 (List.mem_of_getElem? (i := 143) rfl) rfl
theorem wd_384 : Cond.code y_Big_subtract prog_2_method_8_code 7 none ∈ zw := zw_2 (List.mem_of_getElem? (i := 144) rfl) rfl
theorem wd_385 : Cond.methodLink "RealText$Shortest" 65 y_Sho_isReadBelow ∈ zw := zw_2 (List.mem_of_getElem? (i := 145) rfl) rfl
theorem wd_387 : Cond.instanceMethod y_Sho_isReadBelow ∈ zw := zw_2 (List.mem_of_getElem? (i := 147) rfl) rfl
theorem wd_388 : Cond.code y_Sho_isReadBelow prog_8_method_5_code 2 (some .boolean) ∈ zw := zw_2 (List.mem_of_getElem? (i := 148) rfl) rfl
theorem wd_389 : Cond.methodLink "RealText$Shortest" 69 y_Sho_isReadAbove ∈ zw := zw_2 (List.mem_of_getElem? (i := 149) rfl) rfl
theorem wd_391 : Cond.instanceMethod y_Sho_isReadAbove ∈ zw := zw_2 (List.mem_of_getElem? (i := 151) rfl) rfl
theorem wd_392 : Cond.code y_Sho_isReadAbove prog_8_method_6_code 2 (some .boolean) ∈ zw := zw_2 (List.mem_of_getElem? (i := 152) rfl) rfl
theorem wd_393 : Cond.methodLink "RealText$Shortest" 111 y_Big_copy ∈ zw := zw_2 (List.mem_of_getElem? (i := 153) rfl) rfl
theorem wd_394 : Cond.instanceMethod y_Big_copy ∈ zw := zw_2 (List.mem_of_getElem? (i := 154) rfl) rfl
theorem wd_395 : Cond.selects "RealText$Big" y_Big_copy y_Big_copy ∈ zw := zw_2 (List.mem_of_getElem? (i := 155) rfl) rfl
theorem wd_396 : Cond.code y_Big_copy prog_2_method_3_code 2 none ∈ zw := zw_2 (List.mem_of_getElem? (i := 156) rfl) rfl
theorem wd_397 : Cond.methodLink "RealText$Big" 32 y_Sys_arraycopy ∈ zw := zw_2 (List.mem_of_getElem? (i := 157) rfl) rfl
theorem wd_398 : Cond.static y_Sys_arraycopy ∈ zw := zw_2 (List.mem_of_getElem? (i := 158) rfl) rfl
theorem wd_399 : Cond.native y_Sys_arraycopy ∈ zw := zw_2 (List.mem_of_getElem? (i := 159) rfl) rfl
theorem wd_400 : Cond.methodLink "RealText$Shortest" 114 y_Big_add ∈ zw := zw_2 (List.mem_of_getElem? (i := 160) rfl) rfl
theorem wd_401 : Cond.instanceMethod y_Big_add ∈ zw := zw_2 (List.mem_of_getElem? (i := 161) rfl) rfl
theorem wd_402 : Cond.selects "RealText$Big" y_Big_add y_Big_add ∈ zw := zw_2 (List.mem_of_getElem? (i := 162) rfl) rfl
theorem wd_403 : Cond.code y_Big_add prog_2_method_7_code 6 none ∈ zw := zw_2 (List.mem_of_getElem? (i := 163) rfl) rfl
theorem wd_404 : Cond.methodLink "RealText$Big" 42 y_Mat_max ∈ zw := zw_2 (List.mem_of_getElem? (i := 164) rfl) rfl
theorem wd_405 : Cond.methodLink "RealText$Big" 45 y_Big_setLimb ∈ zw := zw_2 (List.mem_of_getElem? (i := 165) rfl) rfl
theorem wd_407 : Cond.instanceMethod y_Big_setLimb ∈ zw := zw_2 (List.mem_of_getElem? (i := 167) rfl) rfl
theorem wd_408 : Cond.code y_Big_setLimb prog_2_method_14_code 4 none ∈ zw := zw_2 (List.mem_of_getElem? (i := 168) rfl) rfl
theorem wd_409 : Cond.methodLink "RealText$Shortest" 72 y_Sho_isNearerAbove ∈ zw := zw_2 (List.mem_of_getElem? (i := 169) rfl) rfl
theorem wd_411 : Cond.instanceMethod y_Sho_isNearerAbove ∈ zw := zw_2 (List.mem_of_getElem? (i := 171) rfl) rfl
theorem wd_412 : Cond.code y_Sho_isNearerAbove prog_8_method_7_code 2 (some .boolean) ∈ zw := zw_2 (List.mem_of_getElem? (i := 172) rfl) rfl
theorem wd_413 : Cond.methodLink "RealText" 139 y_Dec_set ∈ zw := zw_2 (List.mem_of_getElem? (i := 173) rfl) rfl
theorem wd_414 : Cond.instanceMethod y_Dec_set ∈ zw := zw_2 (List.mem_of_getElem? (i := 174) rfl) rfl
theorem wd_415 : Cond.selects "RealText$Decimal" y_Dec_set y_Dec_set ∈ zw := zw_2 (List.mem_of_getElem? (i := 175) rfl) rfl
theorem wd_416 : Cond.code y_Dec_set prog_3_method_2_code 8 none ∈ zw := zw_2 (List.mem_of_getElem? (i := 176) rfl) rfl
theorem wd_417 : Cond.constantLong "RealText$Decimal" 20 10 ∈ zw := zw_2 (List.mem_of_getElem? (i := 177) rfl) rfl
theorem wd_418 : Cond.methodLink "RealText" 143 y_Dec_putOn ∈ zw := zw_2 (List.mem_of_getElem? (i := 178) rfl) rfl
theorem wd_419 : Cond.instanceMethod y_Dec_putOn ∈ zw := zw_2 (List.mem_of_getElem? (i := 179) rfl) rfl
theorem wd_420 : Cond.selects "RealText$Decimal" y_Dec_putOn y_Dec_putOn ∈ zw := zw_2 (List.mem_of_getElem? (i := 180) rfl) rfl
theorem wd_421 : Cond.code y_Dec_putOn prog_3_method_3_code 2 none ∈ zw := zw_2 (List.mem_of_getElem? (i := 181) rfl) rfl
theorem wd_422 : Cond.methodLink "RealText$Decimal" 22 y_Dec_putDigits ∈ zw := zw_2 (List.mem_of_getElem? (i := 182) rfl) rfl
theorem wd_424 : Cond.instanceMethod y_Dec_putDigits ∈ zw := zw_2 (List.mem_of_getElem? (i := 184) rfl) rfl
theorem wd_425 : Cond.code y_Dec_putDigits prog_3_method_4_code 5 none ∈ zw := zw_2 (List.mem_of_getElem? (i := 185) rfl) rfl
theorem wd_426 : Cond.methodLink "RealText$Decimal" 45 y_Dec_digitAt ∈ zw := zw_2 (List.mem_of_getElem? (i := 186) rfl) rfl
theorem wd_428 : Cond.instanceMethod y_Dec_digitAt ∈ zw := zw_2 (List.mem_of_getElem? (i := 188) rfl) rfl
theorem wd_429 : Cond.code y_Dec_digitAt prog_3_method_5_code 2 (some .int) ∈ zw := zw_2 (List.mem_of_getElem? (i := 189) rfl) rfl
theorem wd_430 : Cond.methodLink "RealText$Decimal" 26 y_Row_put ∈ zw := zw_2 (List.mem_of_getElem? (i := 190) rfl) rfl
theorem wd_431 : Cond.methodLink "RealText$Decimal" 32 y_Mat_max ∈ zw := zw_2 (List.mem_of_getElem? (i := 191) rfl) rfl
theorem wd_432 : Cond.methodLink "RealText$Decimal" 38 y_Dec_putExponent ∈ zw := zw_2 (List.mem_of_getElem? (i := 192) rfl) rfl
theorem wd_433 : Cond.static y_Dec_putExponent ∈ zw := zw_2 (List.mem_of_getElem? (i := 193) rfl) rfl
theorem wd_434 : Cond.code y_Dec_putExponent prog_3_method_6_code 4 none ∈ zw := zw_2 (List.mem_of_getElem? (i := 194) rfl) rfl
theorem wd_435 : Cond.methodLink "RealText$Decimal" 49 y_Mat_abs ∈ zw := zw_2 (List.mem_of_getElem? (i := 195) rfl) rfl
theorem wd_436 : Cond.static y_Mat_abs ∈ zw := zw_2 (List.mem_of_getElem? (i := 196) rfl) rfl
theorem wd_437 : Cond.code y_Mat_abs prog_16_method_59_code 1 (some .int) ∈ zw := zw_2 (List.mem_of_getElem? (i := 197) rfl) rfl
theorem wd_438 : Cond.methodLink "RealText$Decimal" 42 y_Mat_min ∈ zw := zw_2 (List.mem_of_getElem? (i := 198) rfl) rfl
theorem wd_439 : Cond.methodLink "RealTextLaw" 52 y_RT_take ∈ zw := zw_2 (List.mem_of_getElem? (i := 199) rfl) rfl
theorem wd_440 : Cond.instanceMethod y_RT_take ∈ zw := zw_2 (List.mem_of_getElem? (i := 200) rfl) rfl
theorem wd_441 : Cond.selects "RealText" y_RT_take y_RT_take ∈ zw := zw_2 (List.mem_of_getElem? (i := 201) rfl) rfl
theorem wd_442 : Cond.code y_RT_take prog_1_method_5_code 4 (some .long) ∈ zw := zw_2 (List.mem_of_getElem? (i := 202) rfl) rfl
theorem wd_443 : Cond.methodLink "RealText" 147 y_Row_takeFirst ∈ zw := zw_2 (List.mem_of_getElem? (i := 203) rfl) rfl
theorem wd_444 : Cond.instanceMethod y_Row_takeFirst ∈ zw := zw_2 (List.mem_of_getElem? (i := 204) rfl) rfl
theorem wd_445 : Cond.selects "RealText$Row" y_Row_takeFirst y_Row_takeFirst ∈ zw := zw_2 (List.mem_of_getElem? (i := 205) rfl) rfl
theorem wd_446 : Cond.code y_Row_takeFirst prog_7_method_6_code 2 (some .char) ∈ zw := zw_2 (List.mem_of_getElem? (i := 206) rfl) rfl
theorem wd_447 : Cond.methodLink "RealText$Row" 34 y_Row_at ∈ zw := zw_2 (List.mem_of_getElem? (i := 207) rfl) rfl
theorem wd_448 : Cond.instanceMethod y_Row_at ∈ zw := zw_2 (List.mem_of_getElem? (i := 208) rfl) rfl
theorem wd_449 : Cond.selects "RealText$Row" y_Row_at y_Row_at ∈ zw := zw_2 (List.mem_of_getElem? (i := 209) rfl) rfl
theorem wd_450 : Cond.code y_Row_at prog_7_method_3_code 2 (some .char) ∈ zw := zw_2 (List.mem_of_getElem? (i := 210) rfl) rfl
theorem wd_451 : Cond.methodLink "RealTextLaw" 57 y_RT_back ∈ zw := zw_2 (List.mem_of_getElem? (i := 211) rfl) rfl
theorem wd_452 : Cond.instanceMethod y_RT_back ∈ zw := zw_2 (List.mem_of_getElem? (i := 212) rfl) rfl
theorem wd_453 : Cond.selects "RealText" y_RT_back y_RT_back ∈ zw := zw_2 (List.mem_of_getElem? (i := 213) rfl) rfl
theorem wd_454 : Cond.code y_RT_back prog_1_method_6_code 2 (some .int) ∈ zw := zw_2 (List.mem_of_getElem? (i := 214) rfl) rfl
theorem wd_455 : Cond.methodLink "RealText" 151 y_Row_at ∈ zw := zw_2 (List.mem_of_getElem? (i := 215) rfl) rfl
theorem wd_456 : Cond.methodLink "RealTextLaw" 33 y_Law_text ∈ zw := zw_2 (List.mem_of_getElem? (i := 216) rfl) rfl
theorem wd_457 : Cond.static y_Law_text ∈ zw := zw_2 (List.mem_of_getElem? (i := 217) rfl) rfl
theorem wd_459 : Cond.classLink "RealTextLaw" 13 "java/lang/IllegalArgumentException" ∈ zw := zw_2 (List.mem_of_getElem? (i := 219) rfl) rfl
theorem wd_460 : Cond.classLink "RealTextLaw" 15 "java/lang/IllegalStateException" ∈ zw := zw_2 (List.mem_of_getElem? (i := 220) rfl) rfl
theorem wd_461 : Cond.methodLink "RealTextLaw" 7 y_RT_text ∈ zw := zw_2 (List.mem_of_getElem? (i := 221) rfl) rfl
theorem wd_462 : Cond.instanceMethod y_RT_text ∈ zw := zw_2 (List.mem_of_getElem? (i := 222) rfl) rfl
theorem wd_463 : Cond.selects "RealText" y_RT_text y_RT_text ∈ zw := zw_2 (List.mem_of_getElem? (i := 223) rfl) rfl
theorem wd_464 : Cond.code y_RT_text prog_1_method_2_code 5 (some .int) ∈ zw := zw_2 (List.mem_of_getElem? (i := 224) rfl) rfl
theorem wd_465 : Cond.methodLink "RealText" 49 y_RT_hasOnlyCharacters ∈ zw := zw_2 (List.mem_of_getElem? (i := 225) rfl) rfl
theorem wd_466 : Cond.static y_RT_hasOnlyCharacters ∈ zw := zw_2 (List.mem_of_getElem? (i := 226) rfl) rfl
theorem wd_467 : Cond.code y_RT_hasOnlyCharacters prog_1_method_9_code 4 (some .boolean) ∈ zw := zw_2 (List.mem_of_getElem? (i := 227) rfl) rfl
theorem wd_468 : Cond.methodLink "RealText" 67 y_RT_byteAt ∈ zw := zw_2 (List.mem_of_getElem? (i := 228) rfl) rfl
theorem wd_469 : Cond.static y_RT_byteAt ∈ zw := zw_2 (List.mem_of_getElem? (i := 229) rfl) rfl
theorem wd_470 : Cond.code y_RT_byteAt prog_1_method_8_code 3 (some .int) ∈ zw := zw_2 (List.mem_of_getElem? (i := 230) rfl) rfl
theorem wd_471 : Cond.classLink "RealText" 53 "java/lang/IllegalArgumentException" ∈ zw := zw_2 (List.mem_of_getElem? (i := 231) rfl) rfl
theorem wd_472 : Cond.instantiable "java/lang/IllegalArgumentException" 6 ∈ zw := zw_2 (List.mem_of_getElem? (i := 232) rfl) rfl
theorem wd_480 : Cond.selects "java/lang/IllegalArgumentException" y_Thr_fillInStackTrace_0 y_Thr_fillInStackTrace_0 ∈ zw := zw_3 (List.mem_of_getElem? (i := 0) rfl) rfl
theorem wd_481 : Cond.selects "java/lang/IllegalArgumentException" y_Thr_fillInStackTrace_1 y_Thr_fillInStackTrace_1 ∈ zw := zw_3 (List.mem_of_getElem? (i := 1) rfl) rfl
theorem wd_482 : Cond.lays "java/lang/IllegalArgumentException" "java/lang/Throwable" "cause" "Ljava/lang/Throwable;" ∈ zw := zw_3 (List.mem_of_getElem? (i := 2) rfl) rfl
theorem wd_483 : Cond.lays "java/lang/Throwable" "java/lang/Throwable" "cause" "Ljava/lang/Throwable;" ∈ zw := zw_3 (List.mem_of_getElem? (i := 3) rfl) rfl
theorem wd_484 : Cond.lays "java/lang/IllegalArgumentException" "java/lang/Throwable" "stackTrace" "[Ljava/lang/StackTraceElement;" ∈ zw := zw_3 (List.mem_of_getElem? (i := 4) rfl) rfl
theorem wd_485 : Cond.lays "java/lang/Throwable" "java/lang/Throwable" "stackTrace" "[Ljava/lang/StackTraceElement;" ∈ zw := zw_3 (List.mem_of_getElem? (i := 5) rfl) rfl
theorem wd_486 : Cond.lays "java/lang/IllegalArgumentException" "java/lang/Throwable" "suppressedExceptions" "Ljava/util/List;" ∈ zw := zw_3 (List.mem_of_getElem? (i := 6) rfl) rfl
theorem wd_487 : Cond.lays "java/lang/Throwable" "java/lang/Throwable" "suppressedExceptions" "Ljava/util/List;" ∈ zw := zw_3 (List.mem_of_getElem? (i := 7) rfl) rfl
theorem wd_488 : Cond.lays "java/lang/IllegalArgumentException" "java/lang/Throwable" "detailMessage" "Ljava/lang/String;" ∈ zw := zw_3 (List.mem_of_getElem? (i := 8) rfl) rfl
theorem wd_489 : Cond.lays "java/lang/Throwable" "java/lang/Throwable" "detailMessage" "Ljava/lang/String;" ∈ zw := zw_3 (List.mem_of_getElem? (i := 9) rfl) rfl
theorem wd_490 : Cond.lays "java/lang/IllegalArgumentException" "java/lang/Throwable" "backtrace" "Ljava/lang/Object;" ∈ zw := zw_3 (List.mem_of_getElem? (i := 10) rfl) rfl
theorem wd_491 : Cond.lays "java/lang/Throwable" "java/lang/Throwable" "backtrace" "Ljava/lang/Object;" ∈ zw := zw_3 (List.mem_of_getElem? (i := 11) rfl) rfl
theorem wd_492 : Cond.fieldLink "java/lang/Throwable" 198 "java/lang/Throwable" "backtrace" "Ljava/lang/Object;" ∈ zw := zw_3 (List.mem_of_getElem? (i := 12) rfl) rfl
theorem wd_494 : Cond.instanceMethod y_Thr_init_0 ∈ zw := zw_3 (List.mem_of_getElem? (i := 14) rfl) rfl
theorem wd_495 : Cond.code y_Thr_init_0 prog_22_method_1_code 1 none ∈ zw := zw_3 (List.mem_of_getElem? (i := 15) rfl) rfl
theorem wd_496 : Cond.methodLink "java/lang/Throwable" 1 y_Obj_init ∈ zw := zw_3 (List.mem_of_getElem? (i := 16) rfl) rfl
theorem wd_497 : Cond.fieldLink "java/lang/Throwable" 13 "java/lang/Throwable" "UNASSIGNED_STACK" "[Ljava/lang/StackTraceElement;" ∈ zw := zw_3 (List.mem_of_getElem? (i := 17) rfl) rfl
theorem wd_499 : Cond.fieldLink "java/lang/Throwable" 20 "java/lang/Throwable" "SUPPRESSED_SENTINEL" "Ljava/util/List;" ∈ zw := zw_3 (List.mem_of_getElem? (i := 19) rfl) rfl
theorem wd_501 : Cond.methodLink "java/lang/Throwable" 27 y_Thr_fillInStackTrace_1 ∈ zw := zw_3 (List.mem_of_getElem? (i := 21) rfl) rfl
theorem wd_502 : Cond.instanceMethod y_Thr_fillInStackTrace_1 ∈ zw := zw_3 (List.mem_of_getElem? (i := 22) rfl) rfl
theorem wd_504 : Cond.selects "java/lang/ArithmeticException" y_Thr_fillInStackTrace_1 y_Thr_fillInStackTrace_1 ∈ zw := zw_3 (List.mem_of_getElem? (i := 24) rfl) rfl
theorem wd_505 : Cond.selects "java/lang/IllegalStateException" y_Thr_fillInStackTrace_1 y_Thr_fillInStackTrace_1 ∈ zw := zw_3 (List.mem_of_getElem? (i := 25) rfl) rfl
theorem wd_507 : Cond.methodLink "java/lang/Throwable" 202 y_Thr_fillInStackTrace_0 ∈ zw := zw_3 (List.mem_of_getElem? (i := 27) rfl) rfl
theorem wd_509 : Cond.instanceMethod y_Thr_fillInStackTrace_0 ∈ zw := zw_3 (List.mem_of_getElem? (i := 29) rfl) rfl
theorem wd_510 : Cond.instantiable "java/lang/Throwable" 6 ∈ zw := zw_3 (List.mem_of_getElem? (i := 30) rfl) rfl
theorem wd_511 : Cond.native y_Thr_fillInStackTrace_0 ∈ zw := zw_3 (List.mem_of_getElem? (i := 31) rfl) rfl
theorem wd_512 : Cond.methodLink "RealText" 55 y_IllegalArgumentException_init ∈ zw := zw_3 (List.mem_of_getElem? (i := 32) rfl) rfl
theorem wd_513 : Cond.instanceMethod y_IllegalArgumentException_init ∈ zw := zw_3 (List.mem_of_getElem? (i := 33) rfl) rfl
theorem wd_514 : Cond.code y_IllegalArgumentException_init prog_14_method_1_code 1 none ∈ zw := zw_3 (List.mem_of_getElem? (i := 34) rfl) rfl
theorem wd_515 : Cond.methodLink "java/lang/IllegalArgumentException" 1 y_RuntimeException_init_0 ∈ zw := zw_3 (List.mem_of_getElem? (i := 35) rfl) rfl
theorem wd_516 : Cond.instanceMethod y_RuntimeException_init_0 ∈ zw := zw_3 (List.mem_of_getElem? (i := 36) rfl) rfl
theorem wd_517 : Cond.code y_RuntimeException_init_0 prog_17_method_1_code 1 none ∈ zw := zw_3 (List.mem_of_getElem? (i := 37) rfl) rfl
theorem wd_518 : Cond.methodLink "java/lang/RuntimeException" 1 y_Exception_init_0 ∈ zw := zw_3 (List.mem_of_getElem? (i := 38) rfl) rfl
theorem wd_519 : Cond.instanceMethod y_Exception_init_0 ∈ zw := zw_3 (List.mem_of_getElem? (i := 39) rfl) rfl
theorem wd_520 : Cond.code y_Exception_init_0 prog_13_method_1_code 1 none ∈ zw := zw_3 (List.mem_of_getElem? (i := 40) rfl) rfl
theorem wd_521 : Cond.methodLink "java/lang/Exception" 1 y_Thr_init_0 ∈ zw := zw_3 (List.mem_of_getElem? (i := 41) rfl) rfl
theorem wd_523 : Cond.fieldLink "java/lang/Throwable" 7 "java/lang/Throwable" "cause" "Ljava/lang/Throwable;" ∈ zw := zw_3 (List.mem_of_getElem? (i := 43) rfl) rfl
theorem wd_524 : Cond.fieldLink "java/lang/Throwable" 17 "java/lang/Throwable" "stackTrace" "[Ljava/lang/StackTraceElement;" ∈ zw := zw_3 (List.mem_of_getElem? (i := 44) rfl) rfl
theorem wd_525 : Cond.fieldLink "java/lang/Throwable" 24 "java/lang/Throwable" "suppressedExceptions" "Ljava/util/List;" ∈ zw := zw_3 (List.mem_of_getElem? (i := 45) rfl) rfl
theorem wd_530 : Cond.lays "java/lang/IllegalArgumentException" "java/lang/Throwable" "depth" "I" ∈ zw := zw_3 (List.mem_of_getElem? (i := 50) rfl) rfl
theorem wd_534 : Cond.methodLink "RealText" 60 y_RT_charactersIn ∈ zw := zw_3 (List.mem_of_getElem? (i := 54) rfl) rfl
theorem wd_535 : Cond.static y_RT_charactersIn ∈ zw := zw_3 (List.mem_of_getElem? (i := 55) rfl) rfl
theorem wd_536 : Cond.code y_RT_charactersIn prog_1_method_10_code 4 (some .int) ∈ zw := zw_3 (List.mem_of_getElem? (i := 56) rfl) rfl
theorem wd_537 : Cond.classLink "RealText" 64 "java/lang/IllegalStateException" ∈ zw := zw_3 (List.mem_of_getElem? (i := 57) rfl) rfl
theorem wd_538 : Cond.instantiable "java/lang/IllegalStateException" 6 ∈ zw := zw_3 (List.mem_of_getElem? (i := 58) rfl) rfl
theorem wd_540 : Cond.selects "java/lang/IllegalStateException" y_Thr_fillInStackTrace_0 y_Thr_fillInStackTrace_0 ∈ zw := zw_3 (List.mem_of_getElem? (i := 60) rfl) rfl
theorem wd_541 : Cond.lays "java/lang/IllegalStateException" "java/lang/Throwable" "cause" "Ljava/lang/Throwable;" ∈ zw := zw_3 (List.mem_of_getElem? (i := 61) rfl) rfl
theorem wd_542 : Cond.lays "java/lang/IllegalStateException" "java/lang/Throwable" "stackTrace" "[Ljava/lang/StackTraceElement;" ∈ zw := zw_3 (List.mem_of_getElem? (i := 62) rfl) rfl
theorem wd_543 : Cond.lays "java/lang/IllegalStateException" "java/lang/Throwable" "suppressedExceptions" "Ljava/util/List;" ∈ zw := zw_3 (List.mem_of_getElem? (i := 63) rfl) rfl
theorem wd_544 : Cond.lays "java/lang/IllegalStateException" "java/lang/Throwable" "detailMessage" "Ljava/lang/String;" ∈ zw := zw_3 (List.mem_of_getElem? (i := 64) rfl) rfl
theorem wd_545 : Cond.lays "java/lang/IllegalStateException" "java/lang/Throwable" "backtrace" "Ljava/lang/Object;" ∈ zw := zw_3 (List.mem_of_getElem? (i := 65) rfl) rfl
theorem wd_546 : Cond.methodLink "RealText" 66 y_IllegalStateException_init ∈ zw := zw_3 (List.mem_of_getElem? (i := 66) rfl) rfl
theorem wd_547 : Cond.instanceMethod y_IllegalStateException_init ∈ zw := zw_3 (List.mem_of_getElem? (i := 67) rfl) rfl
theorem wd_548 : Cond.code y_IllegalStateException_init prog_15_method_1_code 1 none ∈ zw := zw_3 (List.mem_of_getElem? (i := 68) rfl) rfl
theorem wd_549 : Cond.methodLink "java/lang/IllegalStateException" 1 y_RuntimeException_init_0 ∈ zw := zw_3 (List.mem_of_getElem? (i := 69) rfl) rfl
theorem wd_550 : Cond.lays "java/lang/IllegalStateException" "java/lang/Throwable" "depth" "I" ∈ zw := zw_3 (List.mem_of_getElem? (i := 70) rfl) rfl
theorem wd_552 : Cond.methodLink "RealTextLaw" 43 y_Law_read ∈ zw := zw_3 (List.mem_of_getElem? (i := 72) rfl) rfl
theorem wd_553 : Cond.static y_Law_read ∈ zw := zw_3 (List.mem_of_getElem? (i := 73) rfl) rfl
theorem wd_555 : Cond.classLink "RealTextLaw" 21 "java/lang/ArithmeticException" ∈ zw := zw_3 (List.mem_of_getElem? (i := 75) rfl) rfl
theorem wd_556 : Cond.methodLink "RealTextLaw" 17 y_RT_read ∈ zw := zw_3 (List.mem_of_getElem? (i := 76) rfl) rfl
theorem wd_557 : Cond.instanceMethod y_RT_read ∈ zw := zw_3 (List.mem_of_getElem? (i := 77) rfl) rfl
theorem wd_558 : Cond.selects "RealText" y_RT_read y_RT_read ∈ zw := zw_3 (List.mem_of_getElem? (i := 78) rfl) rfl
theorem wd_559 : Cond.code y_RT_read prog_1_method_3_code 4 (some .long) ∈ zw := zw_3 (List.mem_of_getElem? (i := 79) rfl) rfl
theorem wd_560 : Cond.methodLink "RealText" 84 y_RT_bitsOfText ∈ zw := zw_3 (List.mem_of_getElem? (i := 80) rfl) rfl
theorem wd_562 : Cond.instanceMethod y_RT_bitsOfText ∈ zw := zw_3 (List.mem_of_getElem? (i := 82) rfl) rfl
theorem wd_563 : Cond.code y_RT_bitsOfText prog_1_method_11_code 2 (some .long) ∈ zw := zw_3 (List.mem_of_getElem? (i := 83) rfl) rfl
theorem wd_564 : Cond.methodLink "RealText" 155 y_Lit_scan ∈ zw := zw_3 (List.mem_of_getElem? (i := 84) rfl) rfl
theorem wd_565 : Cond.instanceMethod y_Lit_scan ∈ zw := zw_3 (List.mem_of_getElem? (i := 85) rfl) rfl
theorem wd_566 : Cond.selects "RealText$Literal" y_Lit_scan y_Lit_scan ∈ zw := zw_3 (List.mem_of_getElem? (i := 86) rfl) rfl
theorem wd_567 : Cond.code y_Lit_scan prog_5_method_2_code 7 (some .boolean) ∈ zw := zw_3 (List.mem_of_getElem? (i := 87) rfl) rfl
theorem wd_568 : Cond.methodLink "RealText$Literal" 15 y_Row_at ∈ zw := zw_3 (List.mem_of_getElem? (i := 88) rfl) rfl
theorem wd_569 : Cond.methodLink "RealText$Literal" 21 y_Lit_isEither ∈ zw := zw_3 (List.mem_of_getElem? (i := 89) rfl) rfl
theorem wd_570 : Cond.static y_Lit_isEither ∈ zw := zw_3 (List.mem_of_getElem? (i := 90) rfl) rfl
theorem wd_571 : Cond.code y_Lit_isEither prog_5_method_4_code 3 (some .boolean) ∈ zw := zw_3 (List.mem_of_getElem? (i := 91) rfl) rfl
theorem wd_572 : Cond.methodLink "RealText$Literal" 29 y_Lit_endOfDigits ∈ zw := zw_3 (List.mem_of_getElem? (i := 92) rfl) rfl
theorem wd_573 : Cond.static y_Lit_endOfDigits ∈ zw := zw_3 (List.mem_of_getElem? (i := 93) rfl) rfl
theorem wd_574 : Cond.code y_Lit_endOfDigits prog_5_method_5_code 6 (some .int) ∈ zw := zw_3 (List.mem_of_getElem? (i := 94) rfl) rfl
theorem wd_575 : Cond.methodLink "RealText$Literal" 54 y_Row_length ∈ zw := zw_3 (List.mem_of_getElem? (i := 95) rfl) rfl
theorem wd_576 : Cond.methodLink "RealText$Literal" 61 y_Lit_digitOf ∈ zw := zw_3 (List.mem_of_getElem? (i := 96) rfl) rfl
theorem wd_577 : Cond.static y_Lit_digitOf ∈ zw := zw_3 (List.mem_of_getElem? (i := 97) rfl) rfl
theorem wd_578 : Cond.code y_Lit_digitOf prog_5_method_6_code 2 (some .int) ∈ zw := zw_3 (List.mem_of_getElem? (i := 98) rfl) rfl
theorem wd_579 : Cond.methodLink "RealText$Literal" 37 y_Lit_addDigits ∈ zw := zw_3 (List.mem_of_getElem? (i := 99) rfl) rfl
theorem wd_581 : Cond.instanceMethod y_Lit_addDigits ∈ zw := zw_3 (List.mem_of_getElem? (i := 101) rfl) rfl
theorem wd_582 : Cond.code y_Lit_addDigits prog_5_method_7_code 8 (some .int) ∈ zw := zw_3 (List.mem_of_getElem? (i := 102) rfl) rfl
theorem wd_583 : Cond.methodLink "RealText$Literal" 65 y_Lit_addDigit ∈ zw := zw_3 (List.mem_of_getElem? (i := 103) rfl) rfl
theorem wd_585 : Cond.instanceMethod y_Lit_addDigit ∈ zw := zw_3 (List.mem_of_getElem? (i := 105) rfl) rfl
theorem wd_586 : Cond.code y_Lit_addDigit prog_5_method_8_code 3 none ∈ zw := zw_3 (List.mem_of_getElem? (i := 106) rfl) rfl
theorem wd_587 : Cond.methodLink "RealText$Literal" 44 y_Lit_dropZerosBehind ∈ zw := zw_3 (List.mem_of_getElem? (i := 107) rfl) rfl
theorem wd_589 : Cond.instanceMethod y_Lit_dropZerosBehind ∈ zw := zw_3 (List.mem_of_getElem? (i := 109) rfl) rfl
theorem wd_590 : Cond.code y_Lit_dropZerosBehind prog_5_method_9_code 1 none ∈ zw := zw_3 (List.mem_of_getElem? (i := 110) rfl) rfl
theorem wd_591 : Cond.methodLink "RealText$Literal" 47 y_Lit_scanExponent ∈ zw := zw_3 (List.mem_of_getElem? (i := 111) rfl) rfl
theorem wd_593 : Cond.instanceMethod y_Lit_scanExponent ∈ zw := zw_3 (List.mem_of_getElem? (i := 113) rfl) rfl
theorem wd_594 : Cond.code y_Lit_scanExponent prog_5_method_3_code 8 (some .boolean) ∈ zw := zw_3 (List.mem_of_getElem? (i := 114) rfl) rfl
theorem wd_595 : Cond.methodLink "RealText$Literal" 58 y_Lit_exponentIn ∈ zw := zw_3 (List.mem_of_getElem? (i := 115) rfl) rfl
theorem wd_596 : Cond.static y_Lit_exponentIn ∈ zw := zw_3 (List.mem_of_getElem? (i := 116) rfl) rfl
theorem wd_597 : Cond.code y_Lit_exponentIn prog_5_method_10_code 6 (some .int) ∈ zw := zw_3 (List.mem_of_getElem? (i := 117) rfl) rfl
theorem wd_598 : Cond.constant "RealText$Literal" 69 1000000 ∈ zw := zw_3 (List.mem_of_getElem? (i := 118) rfl) rfl
theorem wd_599 : Cond.methodLink "RealText$Literal" 70 y_Mat_min ∈ zw := zw_3 (List.mem_of_getElem? (i := 119) rfl) rfl
theorem wd_600 : Cond.constantLong "RealText" 91 (-1) ∈ zw := zw_3 (List.mem_of_getElem? (i := 120) rfl) rfl
theorem wd_601 : Cond.methodLink "RealText" 166 y_RT_bitsOfHex ∈ zw := zw_3 (List.mem_of_getElem? (i := 121) rfl) rfl
theorem wd_603 : Cond.instanceMethod y_RT_bitsOfHex ∈ zw := zw_3 (List.mem_of_getElem? (i := 123) rfl) rfl
theorem wd_604 : Cond.code y_RT_bitsOfHex prog_1_method_12_code 8 (some .long) ∈ zw := zw_3 (List.mem_of_getElem? (i := 124) rfl) rfl
theorem wd_605 : Cond.methodLink "RealText" 182 y_Fmt_nearest ∈ zw := zw_3 (List.mem_of_getElem? (i := 125) rfl) rfl
theorem wd_606 : Cond.instanceMethod y_Fmt_nearest ∈ zw := zw_3 (List.mem_of_getElem? (i := 126) rfl) rfl
theorem wd_607 : Cond.selects "RealText$Format" y_Fmt_nearest y_Fmt_nearest ∈ zw := zw_3 (List.mem_of_getElem? (i := 127) rfl) rfl
theorem wd_608 : Cond.code y_Fmt_nearest prog_4_method_13_code 9 (some .long) ∈ zw := zw_3 (List.mem_of_getElem? (i := 128) rfl) rfl
theorem wd_609 : Cond.constantLong "RealText$Format" 64 4611686018427387904 ∈ zw := zw_3 (List.mem_of_getElem? (i := 129) rfl) rfl
theorem wd_610 : Cond.constantLong "RealText$Format" 66 (-2) ∈ zw := zw_3 (List.mem_of_getElem? (i := 130) rfl) rfl
theorem wd_611 : Cond.methodLink "RealText$Format" 68 y_Fmt_rounded ∈ zw := zw_3 (List.mem_of_getElem? (i := 131) rfl) rfl
theorem wd_612 : Cond.static y_Fmt_rounded ∈ zw := zw_3 (List.mem_of_getElem? (i := 132) rfl) rfl
theorem wd_613 : Cond.code y_Fmt_rounded prog_4_method_14_code 12 (some .long) ∈ zw := zw_3 (List.mem_of_getElem? (i := 133) rfl) rfl
theorem wd_614 : Cond.methodLink "RealText$Format" 72 y_Fmt_join ∈ zw := zw_3 (List.mem_of_getElem? (i := 134) rfl) rfl
theorem wd_616 : Cond.instanceMethod y_Fmt_join ∈ zw := zw_3 (List.mem_of_getElem? (i := 136) rfl) rfl
theorem wd_617 : Cond.code y_Fmt_join prog_4_method_15_code 7 (some .long) ∈ zw := zw_3 (List.mem_of_getElem? (i := 137) rfl) rfl
theorem wd_618 : Cond.methodLink "RealText" 169 y_RT_bitsOfDecimal ∈ zw := zw_3 (List.mem_of_getElem? (i := 138) rfl) rfl
theorem wd_620 : Cond.instanceMethod y_RT_bitsOfDecimal ∈ zw := zw_3 (List.mem_of_getElem? (i := 140) rfl) rfl
theorem wd_621 : Cond.code y_RT_bitsOfDecimal prog_1_method_13_code 4 (some .long) ∈ zw := zw_3 (List.mem_of_getElem? (i := 141) rfl) rfl
theorem wd_622 : Cond.constantLong "RealText" 97 (-2) ∈ zw := zw_3 (List.mem_of_getElem? (i := 142) rfl) rfl
theorem wd_623 : Cond.methodLink "RealText" 186 y_Quo_divide ∈ zw := zw_3 (List.mem_of_getElem? (i := 143) rfl) rfl
theorem wd_624 : Cond.instanceMethod y_Quo_divide ∈ zw := zw_3 (List.mem_of_getElem? (i := 144) rfl) rfl
theorem wd_625 : Cond.selects "RealText$Quotient" y_Quo_divide y_Quo_divide ∈ zw := zw_3 (List.mem_of_getElem? (i := 145) rfl) rfl
theorem wd_626 : Cond.code y_Quo_divide prog_6_method_2_code 4 none ∈ zw := zw_3 (List.mem_of_getElem? (i := 146) rfl) rfl
theorem wd_627 : Cond.methodLink "RealText$Quotient" 21 y_Quo_setNumerator ∈ zw := zw_3 (List.mem_of_getElem? (i := 147) rfl) rfl
theorem wd_629 : Cond.instanceMethod y_Quo_setNumerator ∈ zw := zw_3 (List.mem_of_getElem? (i := 149) rfl) rfl
theorem wd_630 : Cond.code y_Quo_setNumerator prog_6_method_3_code 6 none ∈ zw := zw_3 (List.mem_of_getElem? (i := 150) rfl) rfl
theorem wd_631 : Cond.methodLink "RealText$Quotient" 25 y_Big_set ∈ zw := zw_3 (List.mem_of_getElem? (i := 151) rfl) rfl
theorem wd_632 : Cond.methodLink "RealText$Quotient" 65 y_Big_multiplyAndAdd ∈ zw := zw_3 (List.mem_of_getElem? (i := 152) rfl) rfl
theorem wd_633 : Cond.methodLink "RealText$Quotient" 29 y_Big_multiplyByFives ∈ zw := zw_3 (List.mem_of_getElem? (i := 153) rfl) rfl
theorem wd_634 : Cond.methodLink "RealText$Quotient" 32 y_Big_bitLength ∈ zw := zw_3 (List.mem_of_getElem? (i := 154) rfl) rfl
theorem wd_635 : Cond.methodLink "RealText$Quotient" 36 y_Big_shiftLeft ∈ zw := zw_3 (List.mem_of_getElem? (i := 155) rfl) rfl
theorem wd_636 : Cond.methodLink "RealText$Quotient" 39 y_Quo_divideBits ∈ zw := zw_3 (List.mem_of_getElem? (i := 156) rfl) rfl
theorem wd_638 : Cond.instanceMethod y_Quo_divideBits ∈ zw := zw_3 (List.mem_of_getElem? (i := 158) rfl) rfl
theorem wd_639 : Cond.code y_Quo_divideBits prog_6_method_4_code 2 none ∈ zw := zw_3 (List.mem_of_getElem? (i := 159) rfl) rfl
theorem wd_640 : Cond.methodLink "RealText$Quotient" 73 y_Big_compare ∈ zw := zw_3 (List.mem_of_getElem? (i := 160) rfl) rfl
theorem wd_641 : Cond.methodLink "RealText$Quotient" 77 y_Big_subtract ∈ zw := zw_3 (List.mem_of_getElem? (i := 161) rfl) rfl
theorem wd_642 : Cond.methodLink "RealText$Quotient" 48 y_Big_isZero ∈ zw := zw_3 (List.mem_of_getElem? (i := 162) rfl) rfl
theorem wd_643 : Cond.instanceMethod y_Big_isZero ∈ zw := zw_3 (List.mem_of_getElem? (i := 163) rfl) rfl
theorem wd_644 : Cond.selects "RealText$Big" y_Big_isZero y_Big_isZero ∈ zw := zw_3 (List.mem_of_getElem? (i := 164) rfl) rfl
theorem wd_645 : Cond.code y_Big_isZero prog_2_method_4_code 1 (some .boolean) ∈ zw := zw_3 (List.mem_of_getElem? (i := 165) rfl) rfl
theorem wd_646 : Cond.classLink "RealText" 102 "java/lang/ArithmeticException" ∈ zw := zw_3 (List.mem_of_getElem? (i := 166) rfl) rfl
theorem wd_647 : Cond.instantiable "java/lang/ArithmeticException" 6 ∈ zw := zw_3 (List.mem_of_getElem? (i := 167) rfl) rfl
theorem wd_649 : Cond.selects "java/lang/ArithmeticException" y_Thr_fillInStackTrace_0 y_Thr_fillInStackTrace_0 ∈ zw := zw_3 (List.mem_of_getElem? (i := 169) rfl) rfl
theorem wd_650 : Cond.lays "java/lang/ArithmeticException" "java/lang/Throwable" "cause" "Ljava/lang/Throwable;" ∈ zw := zw_3 (List.mem_of_getElem? (i := 170) rfl) rfl
theorem wd_651 : Cond.lays "java/lang/ArithmeticException" "java/lang/Throwable" "stackTrace" "[Ljava/lang/StackTraceElement;" ∈ zw := zw_3 (List.mem_of_getElem? (i := 171) rfl) rfl
theorem wd_652 : Cond.lays "java/lang/ArithmeticException" "java/lang/Throwable" "suppressedExceptions" "Ljava/util/List;" ∈ zw := zw_3 (List.mem_of_getElem? (i := 172) rfl) rfl
theorem wd_653 : Cond.lays "java/lang/ArithmeticException" "java/lang/Throwable" "detailMessage" "Ljava/lang/String;" ∈ zw := zw_3 (List.mem_of_getElem? (i := 173) rfl) rfl
theorem wd_654 : Cond.lays "java/lang/ArithmeticException" "java/lang/Throwable" "backtrace" "Ljava/lang/Object;" ∈ zw := zw_3 (List.mem_of_getElem? (i := 174) rfl) rfl
theorem wd_655 : Cond.methodLink "RealText" 104 y_ArithmeticException_init ∈ zw := zw_3 (List.mem_of_getElem? (i := 175) rfl) rfl
theorem wd_656 : Cond.instanceMethod y_ArithmeticException_init ∈ zw := zw_3 (List.mem_of_getElem? (i := 176) rfl) rfl
theorem wd_657 : Cond.code y_ArithmeticException_init prog_11_method_1_code 1 none ∈ zw := zw_3 (List.mem_of_getElem? (i := 177) rfl) rfl
theorem wd_658 : Cond.methodLink "java/lang/ArithmeticException" 1 y_RuntimeException_init_0 ∈ zw := zw_3 (List.mem_of_getElem? (i := 178) rfl) rfl
theorem wd_659 : Cond.lays "java/lang/ArithmeticException" "java/lang/Throwable" "depth" "I" ∈ zw := zw_3 (List.mem_of_getElem? (i := 179) rfl) rfl
theorem wd_661 : Cond.methodLink "RealTextLaw" 61 y_Law_count ∈ zw := zw_3 (List.mem_of_getElem? (i := 181) rfl) rfl
theorem wd_662 : Cond.static y_Law_count ∈ zw := zw_3 (List.mem_of_getElem? (i := 182) rfl) rfl
theorem wd_664 : Cond.methodLink "RealTextLaw" 23 y_RT_count ∈ zw := zw_3 (List.mem_of_getElem? (i := 184) rfl) rfl
theorem wd_665 : Cond.instanceMethod y_RT_count ∈ zw := zw_3 (List.mem_of_getElem? (i := 185) rfl) rfl
theorem wd_666 : Cond.selects "RealText" y_RT_count y_RT_count ∈ zw := zw_3 (List.mem_of_getElem? (i := 186) rfl) rfl
theorem wd_667 : Cond.code y_RT_count prog_1_method_7_code 2 (some .int) ∈ zw := zw_3 (List.mem_of_getElem? (i := 187) rfl) rfl
theorem wd_668 : Cond.classLink "RealTextLaw" 28 "RealTextModel" ∈ zw := zw_3 (List.mem_of_getElem? (i := 188) rfl) rfl
theorem wd_669 : Cond.instantiable "RealTextModel" 26 ∈ zw := zw_3 (List.mem_of_getElem? (i := 189) rfl) rfl
theorem wd_670 : Cond.methodLink "RealTextLaw" 30 y_Mod_init ∈ zw := zw_3 (List.mem_of_getElem? (i := 190) rfl) rfl
theorem wd_671 : Cond.instanceMethod y_Mod_init ∈ zw := zw_3 (List.mem_of_getElem? (i := 191) rfl) rfl
theorem wd_672 : Cond.code y_Mod_init prog_10_method_1_code 1 none ∈ zw := zw_3 (List.mem_of_getElem? (i := 192) rfl) rfl
theorem wd_673 : Cond.methodLink "RealTextModel" 1 y_Obj_init ∈ zw := zw_3 (List.mem_of_getElem? (i := 193) rfl) rfl
theorem wd_674 : Cond.fieldLink "RealTextModel" 7 "RealTextModel" "text" "[I" ∈ zw := zw_3 (List.mem_of_getElem? (i := 194) rfl) rfl
theorem wd_675 : Cond.fieldLink "RealTextModel" 13 "RealTextModel" "written" "[I" ∈ zw := zw_3 (List.mem_of_getElem? (i := 195) rfl) rfl
theorem wd_676 : Cond.fieldLink "RealTextModel" 46 "RealTextModel" "length" "I" ∈ zw := zw_3 (List.mem_of_getElem? (i := 196) rfl) rfl
theorem wd_677 : Cond.fieldLink "RealTextModel" 168 "RealTextModel" "laid" "I" ∈ zw := zw_3 (List.mem_of_getElem? (i := 197) rfl) rfl
theorem wd_678 : Cond.fieldLink "RealTextModel" 214 "RealTextModel" "gone" "I" ∈ zw := zw_3 (List.mem_of_getElem? (i := 198) rfl) rfl
theorem wd_679 : Cond.fieldLink "RealTextModel" 34 "RealTextModel" "thrown" "I" ∈ zw := zw_3 (List.mem_of_getElem? (i := 199) rfl) rfl
theorem wd_680 : Cond.fieldLink "RealTextModel" 155 "RealTextModel" "were" "I" ∈ zw := zw_3 (List.mem_of_getElem? (i := 200) rfl) rfl
theorem wd_681 : Cond.fieldLink "RealTextModel" 145 "RealTextModel" "none" "I" ∈ zw := zw_3 (List.mem_of_getElem? (i := 201) rfl) rfl
theorem wd_682 : Cond.fieldLink "RealTextModel" 152 "RealTextModel" "beyond" "I" ∈ zw := zw_3 (List.mem_of_getElem? (i := 202) rfl) rfl
theorem wd_683 : Cond.fieldLink "RealTextModel" 16 "RealTextModel" "a" "[I" ∈ zw := zw_3 (List.mem_of_getElem? (i := 203) rfl) rfl
theorem wd_684 : Cond.fieldLink "RealTextModel" 19 "RealTextModel" "b" "[I" ∈ zw := zw_3 (List.mem_of_getElem? (i := 204) rfl) rfl
theorem wd_685 : Cond.fieldLink "RealTextModel" 22 "RealTextModel" "five" "[I" ∈ zw := zw_3 (List.mem_of_getElem? (i := 205) rfl) rfl
theorem wd_686 : Cond.fieldLink "RealTextModel" 25 "RealTextModel" "left" "[I" ∈ zw := zw_3 (List.mem_of_getElem? (i := 206) rfl) rfl
theorem wd_687 : Cond.fieldLink "RealTextModel" 28 "RealTextModel" "right" "[I" ∈ zw := zw_3 (List.mem_of_getElem? (i := 207) rfl) rfl
theorem wd_688 : Cond.fieldLink "RealTextModel" 31 "RealTextModel" "part" "[I" ∈ zw := zw_3 (List.mem_of_getElem? (i := 208) rfl) rfl
theorem wd_689 : Cond.fieldLink "RealTextModel" 62 "RealTextModel" "aMany" "I" ∈ zw := zw_3 (List.mem_of_getElem? (i := 209) rfl) rfl
theorem wd_690 : Cond.fieldLink "RealTextModel" 72 "RealTextModel" "bMany" "I" ∈ zw := zw_3 (List.mem_of_getElem? (i := 210) rfl) rfl
theorem wd_691 : Cond.fieldLink "RealTextModel" 171 "RealTextModel" "fiveMany" "I" ∈ zw := zw_3 (List.mem_of_getElem? (i := 211) rfl) rfl
theorem wd_692 : Cond.fieldLink "RealTextModel" 69 "RealTextModel" "leftMany" "I" ∈ zw := zw_3 (List.mem_of_getElem? (i := 212) rfl) rfl
theorem wd_693 : Cond.fieldLink "RealTextModel" 79 "RealTextModel" "rightMany" "I" ∈ zw := zw_3 (List.mem_of_getElem? (i := 213) rfl) rfl
theorem wd_694 : Cond.fieldLink "RealTextModel" 59 "RealTextModel" "twos" "I" ∈ zw := zw_3 (List.mem_of_getElem? (i := 214) rfl) rfl
theorem wd_695 : Cond.fieldLink "RealTextModel" 107 "RealTextModel" "at" "I" ∈ zw := zw_3 (List.mem_of_getElem? (i := 215) rfl) rfl
theorem wd_696 : Cond.fieldLink "RealTextModel" 118 "RealTextModel" "digits" "I" ∈ zw := zw_3 (List.mem_of_getElem? (i := 216) rfl) rfl
theorem wd_697 : Cond.fieldLink "RealTextModel" 127 "RealTextModel" "power" "I" ∈ zw := zw_3 (List.mem_of_getElem? (i := 217) rfl) rfl
theorem wd_698 : Cond.fieldLink "RealTextModel" 121 "RealTextModel" "good" "Z" ∈ zw := zw_3 (List.mem_of_getElem? (i := 218) rfl) rfl
theorem wd_699 : Cond.laysFinal "RealTextModel" "RealTextModel" "text" "[I" ∈ zw := zw_3 (List.mem_of_getElem? (i := 219) rfl) rfl
theorem wd_701 : Cond.laysFinal "RealTextModel" "RealTextModel" "written" "[I" ∈ zw := zw_3 (List.mem_of_getElem? (i := 221) rfl) rfl
theorem wd_703 : Cond.lays "RealTextModel" "RealTextModel" "length" "I" ∈ zw := zw_3 (List.mem_of_getElem? (i := 223) rfl) rfl
theorem wd_705 : Cond.lays "RealTextModel" "RealTextModel" "laid" "I" ∈ zw := zw_3 (List.mem_of_getElem? (i := 225) rfl) rfl
theorem wd_707 : Cond.lays "RealTextModel" "RealTextModel" "gone" "I" ∈ zw := zw_3 (List.mem_of_getElem? (i := 227) rfl) rfl
theorem wd_709 : Cond.lays "RealTextModel" "RealTextModel" "thrown" "I" ∈ zw := zw_3 (List.mem_of_getElem? (i := 229) rfl) rfl
theorem wd_711 : Cond.lays "RealTextModel" "RealTextModel" "were" "I" ∈ zw := zw_3 (List.mem_of_getElem? (i := 231) rfl) rfl
theorem wd_713 : Cond.lays "RealTextModel" "RealTextModel" "none" "I" ∈ zw := zw_3 (List.mem_of_getElem? (i := 233) rfl) rfl
theorem wd_715 : Cond.lays "RealTextModel" "RealTextModel" "beyond" "I" ∈ zw := zw_3 (List.mem_of_getElem? (i := 235) rfl) rfl
theorem wd_717 : Cond.laysFinal "RealTextModel" "RealTextModel" "a" "[I" ∈ zw := zw_3 (List.mem_of_getElem? (i := 237) rfl) rfl
theorem wd_719 : Cond.laysFinal "RealTextModel" "RealTextModel" "b" "[I" ∈ zw := zw_3 (List.mem_of_getElem? (i := 239) rfl) rfl
theorem wd_721 : Cond.laysFinal "RealTextModel" "RealTextModel" "five" "[I" ∈ zw := zw_4 (List.mem_of_getElem? (i := 1) rfl) rfl
theorem wd_723 : Cond.laysFinal "RealTextModel" "RealTextModel" "left" "[I" ∈ zw := zw_4 (List.mem_of_getElem? (i := 3) rfl) rfl
theorem wd_725 : Cond.laysFinal "RealTextModel" "RealTextModel" "right" "[I" ∈ zw := zw_4 (List.mem_of_getElem? (i := 5) rfl) rfl
theorem wd_727 : Cond.laysFinal "RealTextModel" "RealTextModel" "part" "[I" ∈ zw := zw_4 (List.mem_of_getElem? (i := 7) rfl) rfl
theorem wd_729 : Cond.lays "RealTextModel" "RealTextModel" "aMany" "I" ∈ zw := zw_4 (List.mem_of_getElem? (i := 9) rfl) rfl
theorem wd_731 : Cond.lays "RealTextModel" "RealTextModel" "bMany" "I" ∈ zw := zw_4 (List.mem_of_getElem? (i := 11) rfl) rfl
theorem wd_733 : Cond.lays "RealTextModel" "RealTextModel" "fiveMany" "I" ∈ zw := zw_4 (List.mem_of_getElem? (i := 13) rfl) rfl
theorem wd_735 : Cond.lays "RealTextModel" "RealTextModel" "leftMany" "I" ∈ zw := zw_4 (List.mem_of_getElem? (i := 15) rfl) rfl
theorem wd_737 : Cond.lays "RealTextModel" "RealTextModel" "rightMany" "I" ∈ zw := zw_4 (List.mem_of_getElem? (i := 17) rfl) rfl
theorem wd_739 : Cond.lays "RealTextModel" "RealTextModel" "partMany" "I" ∈ zw := zw_4 (List.mem_of_getElem? (i := 19) rfl) rfl
theorem wd_741 : Cond.lays "RealTextModel" "RealTextModel" "twos" "I" ∈ zw := zw_4 (List.mem_of_getElem? (i := 21) rfl) rfl
theorem wd_743 : Cond.lays "RealTextModel" "RealTextModel" "at" "I" ∈ zw := zw_4 (List.mem_of_getElem? (i := 23) rfl) rfl
theorem wd_745 : Cond.lays "RealTextModel" "RealTextModel" "digits" "I" ∈ zw := zw_4 (List.mem_of_getElem? (i := 25) rfl) rfl
theorem wd_747 : Cond.lays "RealTextModel" "RealTextModel" "power" "I" ∈ zw := zw_4 (List.mem_of_getElem? (i := 27) rfl) rfl
theorem wd_749 : Cond.lays "RealTextModel" "RealTextModel" "good" "Z" ∈ zw := zw_4 (List.mem_of_getElem? (i := 29) rfl) rfl
theorem wd_752 : Cond.methodLink "RealTextLaw" 39 y_Mod_thrown ∈ zw := zw_4 (List.mem_of_getElem? (i := 32) rfl) rfl
theorem wd_753 : Cond.instanceMethod y_Mod_thrown ∈ zw := zw_4 (List.mem_of_getElem? (i := 33) rfl) rfl
theorem wd_754 : Cond.selects "RealTextModel" y_Mod_thrown y_Mod_thrown ∈ zw := zw_4 (List.mem_of_getElem? (i := 34) rfl) rfl
theorem wd_755 : Cond.code y_Mod_thrown prog_10_method_2_code 1 (some .int) ∈ zw := zw_4 (List.mem_of_getElem? (i := 35) rfl) rfl
theorem wd_756 : Cond.methodLink "RealTextLaw" 38 y_Mod_text ∈ zw := zw_4 (List.mem_of_getElem? (i := 36) rfl) rfl
theorem wd_757 : Cond.instanceMethod y_Mod_text ∈ zw := zw_4 (List.mem_of_getElem? (i := 37) rfl) rfl
theorem wd_758 : Cond.selects "RealTextModel" y_Mod_text y_Mod_text ∈ zw := zw_4 (List.mem_of_getElem? (i := 38) rfl) rfl
theorem wd_759 : Cond.code y_Mod_text prog_10_method_5_code 6 (some .int) ∈ zw := zw_4 (List.mem_of_getElem? (i := 39) rfl) rfl
theorem wd_760 : Cond.methodLink "RealTextModel" 38 y_Mod_in ∈ zw := zw_4 (List.mem_of_getElem? (i := 40) rfl) rfl
theorem wd_761 : Cond.static y_Mod_in ∈ zw := zw_4 (List.mem_of_getElem? (i := 41) rfl) rfl
theorem wd_762 : Cond.code y_Mod_in prog_10_method_3_code 3 (some .boolean) ∈ zw := zw_4 (List.mem_of_getElem? (i := 42) rfl) rfl
theorem wd_763 : Cond.methodLink "RealTextModel" 42 y_Mod_fail ∈ zw := zw_4 (List.mem_of_getElem? (i := 43) rfl) rfl
theorem wd_765 : Cond.instanceMethod y_Mod_fail ∈ zw := zw_4 (List.mem_of_getElem? (i := 45) rfl) rfl
theorem wd_766 : Cond.code y_Mod_fail prog_10_method_4_code 2 (some .int) ∈ zw := zw_4 (List.mem_of_getElem? (i := 46) rfl) rfl
theorem wd_767 : Cond.methodLink "RealTextLaw" 46 y_Mod_read ∈ zw := zw_4 (List.mem_of_getElem? (i := 47) rfl) rfl
theorem wd_768 : Cond.instanceMethod y_Mod_read ∈ zw := zw_4 (List.mem_of_getElem? (i := 48) rfl) rfl
theorem wd_769 : Cond.selects "RealTextModel" y_Mod_read y_Mod_read ∈ zw := zw_4 (List.mem_of_getElem? (i := 49) rfl) rfl
theorem wd_770 : Cond.code y_Mod_read prog_10_method_24_code 7 (some .long) ∈ zw := zw_4 (List.mem_of_getElem? (i := 50) rfl) rfl
theorem wd_771 : Cond.methodLink "RealTextModel" 137 y_Mod_isBinary ∈ zw := zw_4 (List.mem_of_getElem? (i := 51) rfl) rfl
theorem wd_773 : Cond.instanceMethod y_Mod_isBinary ∈ zw := zw_4 (List.mem_of_getElem? (i := 53) rfl) rfl
theorem wd_774 : Cond.code y_Mod_isBinary prog_10_method_22_code 1 (some .boolean) ∈ zw := zw_4 (List.mem_of_getElem? (i := 54) rfl) rfl
theorem wd_775 : Cond.methodLink "RealTextModel" 141 y_Mod_literal ∈ zw := zw_4 (List.mem_of_getElem? (i := 55) rfl) rfl
theorem wd_777 : Cond.instanceMethod y_Mod_literal ∈ zw := zw_4 (List.mem_of_getElem? (i := 57) rfl) rfl
theorem wd_778 : Cond.code y_Mod_literal prog_10_method_23_code 5 (some .boolean) ∈ zw := zw_4 (List.mem_of_getElem? (i := 58) rfl) rfl
theorem wd_779 : Cond.methodLink "RealTextModel" 130 y_Mod_row ∈ zw := zw_4 (List.mem_of_getElem? (i := 59) rfl) rfl
theorem wd_781 : Cond.instanceMethod y_Mod_row ∈ zw := zw_4 (List.mem_of_getElem? (i := 61) rfl) rfl
theorem wd_782 : Cond.code y_Mod_row prog_10_method_20_code 4 (some .int) ∈ zw := zw_4 (List.mem_of_getElem? (i := 62) rfl) rfl
theorem wd_783 : Cond.methodLink "RealTextModel" 110 y_Mod_look ∈ zw := zw_4 (List.mem_of_getElem? (i := 63) rfl) rfl
theorem wd_785 : Cond.instanceMethod y_Mod_look ∈ zw := zw_4 (List.mem_of_getElem? (i := 65) rfl) rfl
theorem wd_786 : Cond.code y_Mod_look prog_10_method_18_code 1 (some .int) ∈ zw := zw_4 (List.mem_of_getElem? (i := 66) rfl) rfl
theorem wd_787 : Cond.methodLink "RealTextModel" 114 y_Mod_digit ∈ zw := zw_4 (List.mem_of_getElem? (i := 67) rfl) rfl
theorem wd_788 : Cond.static y_Mod_digit ∈ zw := zw_4 (List.mem_of_getElem? (i := 68) rfl) rfl
theorem wd_789 : Cond.code y_Mod_digit prog_10_method_19_code 2 (some .int) ∈ zw := zw_4 (List.mem_of_getElem? (i := 69) rfl) rfl
theorem wd_790 : Cond.methodLink "RealTextModel" 55 y_Mod_grow ∈ zw := zw_4 (List.mem_of_getElem? (i := 70) rfl) rfl
theorem wd_791 : Cond.static y_Mod_grow ∈ zw := zw_4 (List.mem_of_getElem? (i := 71) rfl) rfl
theorem wd_792 : Cond.code y_Mod_grow prog_10_method_7_code 9 (some .int) ∈ zw := zw_4 (List.mem_of_getElem? (i := 72) rfl) rfl
theorem wd_793 : Cond.constantLong "RealTextModel" 49 65535 ∈ zw := zw_4 (List.mem_of_getElem? (i := 73) rfl) rfl
theorem wd_794 : Cond.methodLink "RealTextModel" 51 y_Mod_trimmed ∈ zw := zw_4 (List.mem_of_getElem? (i := 74) rfl) rfl
theorem wd_795 : Cond.static y_Mod_trimmed ∈ zw := zw_4 (List.mem_of_getElem? (i := 75) rfl) rfl
theorem wd_796 : Cond.code y_Mod_trimmed prog_10_method_6_code 3 (some .int) ∈ zw := zw_4 (List.mem_of_getElem? (i := 76) rfl) rfl
theorem wd_797 : Cond.methodLink "RealTextModel" 134 y_Mod_exponentRow ∈ zw := zw_4 (List.mem_of_getElem? (i := 77) rfl) rfl
theorem wd_799 : Cond.instanceMethod y_Mod_exponentRow ∈ zw := zw_4 (List.mem_of_getElem? (i := 79) rfl) rfl
theorem wd_800 : Cond.code y_Mod_exponentRow prog_10_method_21_code 5 none ∈ zw := zw_4 (List.mem_of_getElem? (i := 80) rfl) rfl
theorem wd_801 : Cond.constant "RealTextModel" 125 10000000 ∈ zw := zw_4 (List.mem_of_getElem? (i := 81) rfl) rfl
theorem wd_802 : Cond.constant "RealTextModel" 126 100000000 ∈ zw := zw_4 (List.mem_of_getElem? (i := 82) rfl) rfl
theorem wd_803 : Cond.methodLink "RealTextModel" 100 y_Mod_greatest ∈ zw := zw_4 (List.mem_of_getElem? (i := 83) rfl) rfl
theorem wd_804 : Cond.static y_Mod_greatest ∈ zw := zw_4 (List.mem_of_getElem? (i := 84) rfl) rfl
theorem wd_805 : Cond.code y_Mod_greatest prog_10_method_15_code 1 (some .long) ∈ zw := zw_4 (List.mem_of_getElem? (i := 85) rfl) rfl
theorem wd_806 : Cond.constantLong "RealTextModel" 82 2139095039 ∈ zw := zw_4 (List.mem_of_getElem? (i := 86) rfl) rfl
theorem wd_807 : Cond.constantLong "RealTextModel" 84 9218868437227405311 ∈ zw := zw_4 (List.mem_of_getElem? (i := 87) rfl) rfl
theorem wd_808 : Cond.methodLink "RealTextModel" 148 y_Mod_found ∈ zw := zw_4 (List.mem_of_getElem? (i := 88) rfl) rfl
theorem wd_810 : Cond.instanceMethod y_Mod_found ∈ zw := zw_4 (List.mem_of_getElem? (i := 90) rfl) rfl
theorem wd_811 : Cond.code y_Mod_found prog_10_method_25_code 3 (some .long) ∈ zw := zw_4 (List.mem_of_getElem? (i := 91) rfl) rfl
theorem wd_812 : Cond.methodLink "RealTextModel" 158 y_Mod_set ∈ zw := zw_4 (List.mem_of_getElem? (i := 92) rfl) rfl
theorem wd_813 : Cond.static y_Mod_set ∈ zw := zw_4 (List.mem_of_getElem? (i := 93) rfl) rfl
theorem wd_814 : Cond.code y_Mod_set prog_10_method_9_code 4 (some .int) ∈ zw := zw_4 (List.mem_of_getElem? (i := 94) rfl) rfl
theorem wd_815 : Cond.methodLink "RealTextModel" 162 y_Mod_fives ∈ zw := zw_4 (List.mem_of_getElem? (i := 95) rfl) rfl
theorem wd_816 : Cond.static y_Mod_fives ∈ zw := zw_4 (List.mem_of_getElem? (i := 96) rfl) rfl
theorem wd_817 : Cond.code y_Mod_fives prog_10_method_8_code 5 (some .int) ∈ zw := zw_4 (List.mem_of_getElem? (i := 97) rfl) rfl
theorem wd_818 : Cond.methodLink "RealTextModel" 165 y_Mod_nearest ∈ zw := zw_4 (List.mem_of_getElem? (i := 98) rfl) rfl
theorem wd_820 : Cond.instanceMethod y_Mod_nearest ∈ zw := zw_4 (List.mem_of_getElem? (i := 100) rfl) rfl
theorem wd_821 : Cond.code y_Mod_nearest prog_10_method_17_code 9 (some .long) ∈ zw := zw_4 (List.mem_of_getElem? (i := 101) rfl) rfl
theorem wd_822 : Cond.constantLong "RealTextModel" 86 2 ∈ zw := zw_4 (List.mem_of_getElem? (i := 102) rfl) rfl
theorem wd_823 : Cond.methodLink "RealTextModel" 88 y_Mod_mantissa ∈ zw := zw_4 (List.mem_of_getElem? (i := 103) rfl) rfl
theorem wd_824 : Cond.static y_Mod_mantissa ∈ zw := zw_4 (List.mem_of_getElem? (i := 104) rfl) rfl
theorem wd_825 : Cond.code y_Mod_mantissa prog_10_method_13_code 6 (some .long) ∈ zw := zw_4 (List.mem_of_getElem? (i := 105) rfl) rfl
theorem wd_826 : Cond.methodLink "RealTextModel" 92 y_Mod_exponent ∈ zw := zw_4 (List.mem_of_getElem? (i := 106) rfl) rfl
theorem wd_827 : Cond.static y_Mod_exponent ∈ zw := zw_4 (List.mem_of_getElem? (i := 107) rfl) rfl
theorem wd_828 : Cond.code y_Mod_exponent prog_10_method_14_code 4 (some .int) ∈ zw := zw_4 (List.mem_of_getElem? (i := 108) rfl) rfl
theorem wd_829 : Cond.methodLink "RealTextModel" 96 y_Mod_compare ∈ zw := zw_4 (List.mem_of_getElem? (i := 109) rfl) rfl
theorem wd_831 : Cond.instanceMethod y_Mod_compare ∈ zw := zw_4 (List.mem_of_getElem? (i := 111) rfl) rfl
theorem wd_832 : Cond.code y_Mod_compare prog_10_method_12_code 6 (some .int) ∈ zw := zw_4 (List.mem_of_getElem? (i := 112) rfl) rfl
theorem wd_833 : Cond.methodLink "RealTextModel" 65 y_Mod_shifted ∈ zw := zw_4 (List.mem_of_getElem? (i := 113) rfl) rfl
theorem wd_834 : Cond.static y_Mod_shifted ∈ zw := zw_4 (List.mem_of_getElem? (i := 114) rfl) rfl
theorem wd_835 : Cond.code y_Mod_shifted prog_10_method_10_code 6 (some .int) ∈ zw := zw_4 (List.mem_of_getElem? (i := 115) rfl) rfl
theorem wd_836 : Cond.methodLink "RealTextModel" 75 y_Mod_times ∈ zw := zw_4 (List.mem_of_getElem? (i := 116) rfl) rfl
theorem wd_838 : Cond.instanceMethod y_Mod_times ∈ zw := zw_4 (List.mem_of_getElem? (i := 118) rfl) rfl
theorem wd_839 : Cond.code y_Mod_times prog_10_method_11_code 14 (some .int) ∈ zw := zw_4 (List.mem_of_getElem? (i := 119) rfl) rfl
theorem wd_840 : Cond.methodLink "RealTextModel" 104 y_Mod_above ∈ zw := zw_4 (List.mem_of_getElem? (i := 120) rfl) rfl
theorem wd_842 : Cond.instanceMethod y_Mod_above ∈ zw := zw_4 (List.mem_of_getElem? (i := 122) rfl) rfl
theorem wd_843 : Cond.code y_Mod_above prog_10_method_16_code 4 (some .int) ∈ zw := zw_4 (List.mem_of_getElem? (i := 123) rfl) rfl
theorem wd_844 : Cond.methodLink "RealTextLaw" 51 y_Mod_write ∈ zw := zw_4 (List.mem_of_getElem? (i := 124) rfl) rfl
theorem wd_845 : Cond.instanceMethod y_Mod_write ∈ zw := zw_4 (List.mem_of_getElem? (i := 125) rfl) rfl
theorem wd_846 : Cond.selects "RealTextModel" y_Mod_write y_Mod_write ∈ zw := zw_4 (List.mem_of_getElem? (i := 126) rfl) rfl
theorem wd_847 : Cond.code y_Mod_write prog_10_method_37_code 7 (some .int) ∈ zw := zw_4 (List.mem_of_getElem? (i := 127) rfl) rfl
theorem wd_848 : Cond.constantLong "RealTextModel" 217 2147483647 ∈ zw := zw_4 (List.mem_of_getElem? (i := 128) rfl) rfl
theorem wd_849 : Cond.constantLong "RealTextModel" 219 9223372036854775807 ∈ zw := zw_4 (List.mem_of_getElem? (i := 129) rfl) rfl
theorem wd_850 : Cond.constantLong "RealTextModel" 221 5136718 ∈ zw := zw_4 (List.mem_of_getElem? (i := 130) rfl) rfl
theorem wd_851 : Cond.methodLink "RealTextModel" 223 y_Mod_layWord ∈ zw := zw_4 (List.mem_of_getElem? (i := 131) rfl) rfl
theorem wd_853 : Cond.instanceMethod y_Mod_layWord ∈ zw := zw_4 (List.mem_of_getElem? (i := 133) rfl) rfl
theorem wd_854 : Cond.code y_Mod_layWord prog_10_method_36_code 5 none ∈ zw := zw_4 (List.mem_of_getElem? (i := 134) rfl) rfl
theorem wd_855 : Cond.constantLong "RealTextModel" 212 255 ∈ zw := zw_4 (List.mem_of_getElem? (i := 135) rfl) rfl
theorem wd_856 : Cond.methodLink "RealTextModel" 197 y_Mod_lay ∈ zw := zw_4 (List.mem_of_getElem? (i := 136) rfl) rfl
theorem wd_858 : Cond.instanceMethod y_Mod_lay ∈ zw := zw_4 (List.mem_of_getElem? (i := 138) rfl) rfl
theorem wd_859 : Cond.code y_Mod_lay prog_10_method_26_code 2 none ∈ zw := zw_4 (List.mem_of_getElem? (i := 139) rfl) rfl
theorem wd_860 : Cond.constantLong "RealTextModel" 227 5291279215216915577 ∈ zw := zw_4 (List.mem_of_getElem? (i := 140) rfl) rfl
theorem wd_861 : Cond.constantLong "RealTextModel" 229 3157552 ∈ zw := zw_4 (List.mem_of_getElem? (i := 141) rfl) rfl
theorem wd_862 : Cond.methodLink "RealTextModel" 231 y_Mod_layDecimal ∈ zw := zw_4 (List.mem_of_getElem? (i := 142) rfl) rfl
theorem wd_864 : Cond.instanceMethod y_Mod_layDecimal ∈ zw := zw_4 (List.mem_of_getElem? (i := 144) rfl) rfl
theorem wd_865 : Cond.code y_Mod_layDecimal prog_10_method_35_code 10 none ∈ zw := zw_4 (List.mem_of_getElem? (i := 145) rfl) rfl
theorem wd_866 : Cond.methodLink "RealTextModel" 200 y_Mod_shortest ∈ zw := zw_4 (List.mem_of_getElem? (i := 146) rfl) rfl
theorem wd_868 : Cond.instanceMethod y_Mod_shortest ∈ zw := zw_4 (List.mem_of_getElem? (i := 148) rfl) rfl
theorem wd_869 : Cond.code y_Mod_shortest prog_10_method_32_code 16 (some .long) ∈ zw := zw_4 (List.mem_of_getElem? (i := 149) rfl) rfl
theorem wd_870 : Cond.constantLong "RealTextModel" 182 10 ∈ zw := zw_4 (List.mem_of_getElem? (i := 150) rfl) rfl
theorem wd_871 : Cond.methodLink "RealTextModel" 184 y_Mod_tens ∈ zw := zw_4 (List.mem_of_getElem? (i := 151) rfl) rfl
theorem wd_873 : Cond.instanceMethod y_Mod_tens ∈ zw := zw_4 (List.mem_of_getElem? (i := 153) rfl) rfl
theorem wd_874 : Cond.code y_Mod_tens prog_10_method_29_code 7 (some .int) ∈ zw := zw_4 (List.mem_of_getElem? (i := 154) rfl) rfl
theorem wd_875 : Cond.methodLink "RealTextModel" 174 y_Mod_scale ∈ zw := zw_4 (List.mem_of_getElem? (i := 155) rfl) rfl
theorem wd_877 : Cond.instanceMethod y_Mod_scale ∈ zw := zw_4 (List.mem_of_getElem? (i := 157) rfl) rfl
theorem wd_878 : Cond.code y_Mod_scale prog_10_method_27_code 2 none ∈ zw := zw_4 (List.mem_of_getElem? (i := 158) rfl) rfl
theorem wd_879 : Cond.methodLink "RealTextModel" 178 y_Mod_compareDigits ∈ zw := zw_4 (List.mem_of_getElem? (i := 159) rfl) rfl
theorem wd_881 : Cond.instanceMethod y_Mod_compareDigits ∈ zw := zw_4 (List.mem_of_getElem? (i := 161) rfl) rfl
theorem wd_882 : Cond.code y_Mod_compareDigits prog_10_method_28_code 6 (some .int) ∈ zw := zw_4 (List.mem_of_getElem? (i := 162) rfl) rfl
theorem wd_883 : Cond.methodLink "RealTextModel" 187 y_Mod_most ∈ zw := zw_4 (List.mem_of_getElem? (i := 163) rfl) rfl
theorem wd_885 : Cond.instanceMethod y_Mod_most ∈ zw := zw_4 (List.mem_of_getElem? (i := 165) rfl) rfl
theorem wd_886 : Cond.code y_Mod_most prog_10_method_31_code 12 (some .long) ∈ zw := zw_4 (List.mem_of_getElem? (i := 166) rfl) rfl
theorem wd_887 : Cond.methodLink "RealTextModel" 191 y_Mod_isRead ∈ zw := zw_4 (List.mem_of_getElem? (i := 167) rfl) rfl
theorem wd_889 : Cond.instanceMethod y_Mod_isRead ∈ zw := zw_4 (List.mem_of_getElem? (i := 169) rfl) rfl
theorem wd_890 : Cond.code y_Mod_isRead prog_10_method_30_code 9 (some .boolean) ∈ zw := zw_4 (List.mem_of_getElem? (i := 170) rfl) rfl
theorem wd_891 : Cond.constantLong "RealTextModel" 203 9 ∈ zw := zw_4 (List.mem_of_getElem? (i := 171) rfl) rfl
theorem wd_892 : Cond.methodLink "RealTextModel" 205 y_Mod_layDigits ∈ zw := zw_4 (List.mem_of_getElem? (i := 172) rfl) rfl
theorem wd_894 : Cond.instanceMethod y_Mod_layDigits ∈ zw := zw_4 (List.mem_of_getElem? (i := 174) rfl) rfl
theorem wd_895 : Cond.code y_Mod_layDigits prog_10_method_33_code 10 none ∈ zw := zw_4 (List.mem_of_getElem? (i := 175) rfl) rfl
theorem wd_896 : Cond.constantLong "RealTextModel" 195 48 ∈ zw := zw_4 (List.mem_of_getElem? (i := 176) rfl) rfl
theorem wd_897 : Cond.methodLink "RealTextModel" 209 y_Mod_layNumber ∈ zw := zw_4 (List.mem_of_getElem? (i := 177) rfl) rfl
theorem wd_899 : Cond.instanceMethod y_Mod_layNumber ∈ zw := zw_4 (List.mem_of_getElem? (i := 179) rfl) rfl
theorem wd_900 : Cond.code y_Mod_layNumber prog_10_method_34_code 3 none ∈ zw := zw_4 (List.mem_of_getElem? (i := 180) rfl) rfl
theorem wd_901 : Cond.methodLink "RealTextLaw" 56 y_Mod_take ∈ zw := zw_4 (List.mem_of_getElem? (i := 181) rfl) rfl
theorem wd_902 : Cond.instanceMethod y_Mod_take ∈ zw := zw_4 (List.mem_of_getElem? (i := 182) rfl) rfl
theorem wd_903 : Cond.selects "RealTextModel" y_Mod_take y_Mod_take ∈ zw := zw_4 (List.mem_of_getElem? (i := 183) rfl) rfl
theorem wd_904 : Cond.code y_Mod_take prog_10_method_38_code 4 (some .long) ∈ zw := zw_4 (List.mem_of_getElem? (i := 184) rfl) rfl
theorem wd_905 : Cond.methodLink "RealTextLaw" 60 y_Mod_back ∈ zw := zw_4 (List.mem_of_getElem? (i := 185) rfl) rfl
theorem wd_906 : Cond.instanceMethod y_Mod_back ∈ zw := zw_4 (List.mem_of_getElem? (i := 186) rfl) rfl
theorem wd_907 : Cond.selects "RealTextModel" y_Mod_back y_Mod_back ∈ zw := zw_4 (List.mem_of_getElem? (i := 187) rfl) rfl
theorem wd_908 : Cond.code y_Mod_back prog_10_method_39_code 2 (some .int) ∈ zw := zw_4 (List.mem_of_getElem? (i := 188) rfl) rfl
theorem wd_909 : Cond.methodLink "RealTextLaw" 64 y_Mod_count ∈ zw := zw_4 (List.mem_of_getElem? (i := 189) rfl) rfl
theorem wd_910 : Cond.instanceMethod y_Mod_count ∈ zw := zw_4 (List.mem_of_getElem? (i := 190) rfl) rfl
theorem wd_911 : Cond.selects "RealTextModel" y_Mod_count y_Mod_count ∈ zw := zw_4 (List.mem_of_getElem? (i := 191) rfl) rfl
theorem wd_912 : Cond.code y_Mod_count prog_10_method_40_code 2 (some .int) ∈ zw := zw_4 (List.mem_of_getElem? (i := 192) rfl) rfl
theorem wd_913 : Cond.constantLong "RealTextLaw" 31 4294967295 ∈ zw := zw_4 (List.mem_of_getElem? (i := 193) rfl) rfl
theorem wd_914 : Cond.arrayClass .long ∈ zw := zw_4 (List.mem_of_getElem? (i := 194) rfl) rfl
theorem wd_916 : Cond.fieldLink "RealText$Format" 31 "RealText$Format" "fractionBits" "I" ∈ zw := zw_4 (List.mem_of_getElem? (i := 196) rfl) rfl
theorem wd_917 : Cond.fieldLink "RealText$Format" 38 "RealText$Format" "leastPower" "I" ∈ zw := zw_4 (List.mem_of_getElem? (i := 197) rfl) rfl
theorem wd_918 : Cond.fieldLink "RealText$Format" 35 "RealText$Format" "exponentMask" "I" ∈ zw := zw_4 (List.mem_of_getElem? (i := 198) rfl) rfl
theorem wd_919 : Cond.fieldLink "java/lang/String" 9 "java/lang/String" "value" "[B" ∈ zw := zw_4 (List.mem_of_getElem? (i := 199) rfl) rfl
theorem wd_920 : Cond.fieldLink "java/lang/String" 15 "java/lang/String" "coder" "B" ∈ zw := zw_4 (List.mem_of_getElem? (i := 200) rfl) rfl
theorem we_0_0 : Cond.selects "RealText$Format" y_Fmt_fractionMask y_Fmt_fractionMask ∈ zw := zw_s (List.mem_map.mpr ⟨(y_Fmt_fractionMask, _), List.mem_append_left _ (List.mem_of_getElem? (i := 0) rfl), rfl⟩) rfl
theorem we_0_1 : Cond.selects "RealText$Format" y_Fmt_hiddenBit y_Fmt_hiddenBit ∈ zw := zw_s (List.mem_map.mpr ⟨(y_Fmt_hiddenBit, _), List.mem_append_left _ (List.mem_of_getElem? (i := 1) rfl), rfl⟩) rfl
theorem we_0_2 : Cond.selects "RealText$Format" y_Fmt_exponentOf y_Fmt_exponentOf ∈ zw := zw_s (List.mem_map.mpr ⟨(y_Fmt_exponentOf, _), List.mem_append_left _ (List.mem_of_getElem? (i := 2) rfl), rfl⟩) rfl
theorem we_0_3 : Cond.selects "RealText$Shortest" y_Sho_start y_Sho_start ∈ zw := zw_s (List.mem_map.mpr ⟨(y_Sho_start, _), List.mem_append_left _ (List.mem_of_getElem? (i := 3) rfl), rfl⟩) rfl
theorem we_0_4 : Cond.selects "RealText$Big" y_Big_addLimb y_Big_addLimb ∈ zw := zw_s (List.mem_map.mpr ⟨(y_Big_addLimb, _), List.mem_append_left _ (List.mem_of_getElem? (i := 4) rfl), rfl⟩) rfl
theorem we_0_5 : Cond.selects "RealText$Big" y_Big_trim y_Big_trim ∈ zw := zw_s (List.mem_map.mpr ⟨(y_Big_trim, _), List.mem_append_left _ (List.mem_of_getElem? (i := 5) rfl), rfl⟩) rfl
theorem we_0_6 : Cond.selects "RealText$Big" y_Big_limbAt y_Big_limbAt ∈ zw := zw_s (List.mem_map.mpr ⟨(y_Big_limbAt, _), List.mem_append_left _ (List.mem_of_getElem? (i := 6) rfl), rfl⟩) rfl
theorem we_0_7 : Cond.selects "RealText$Shortest" y_Sho_nextDigit y_Sho_nextDigit ∈ zw := zw_s (List.mem_map.mpr ⟨(y_Sho_nextDigit, _), List.mem_append_left _ (List.mem_of_getElem? (i := 7) rfl), rfl⟩) rfl
theorem we_0_8 : Cond.selects "RealText$Shortest" y_Sho_isReadBelow y_Sho_isReadBelow ∈ zw := zw_s (List.mem_map.mpr ⟨(y_Sho_isReadBelow, _), List.mem_append_left _ (List.mem_of_getElem? (i := 8) rfl), rfl⟩) rfl
theorem we_0_9 : Cond.selects "RealText$Shortest" y_Sho_isReadAbove y_Sho_isReadAbove ∈ zw := zw_s (List.mem_map.mpr ⟨(y_Sho_isReadAbove, _), List.mem_append_left _ (List.mem_of_getElem? (i := 9) rfl), rfl⟩) rfl
theorem we_0_10 : Cond.selects "RealText$Big" y_Big_setLimb y_Big_setLimb ∈ zw := zw_s (List.mem_map.mpr ⟨(y_Big_setLimb, _), List.mem_append_left _ (List.mem_of_getElem? (i := 10) rfl), rfl⟩) rfl
theorem we_0_11 : Cond.selects "RealText$Shortest" y_Sho_isNearerAbove y_Sho_isNearerAbove ∈ zw := zw_s (List.mem_map.mpr ⟨(y_Sho_isNearerAbove, _), List.mem_append_left _ (List.mem_of_getElem? (i := 11) rfl), rfl⟩) rfl
theorem we_0_12 : Cond.selects "RealText$Decimal" y_Dec_putDigits y_Dec_putDigits ∈ zw := zw_s (List.mem_map.mpr ⟨(y_Dec_putDigits, _), List.mem_append_left _ (List.mem_of_getElem? (i := 12) rfl), rfl⟩) rfl
theorem we_0_13 : Cond.selects "RealText$Decimal" y_Dec_digitAt y_Dec_digitAt ∈ zw := zw_s (List.mem_map.mpr ⟨(y_Dec_digitAt, _), List.mem_append_left _ (List.mem_of_getElem? (i := 13) rfl), rfl⟩) rfl
theorem we_0_14 : Cond.selects "java/lang/Throwable" y_Thr_fillInStackTrace_0 y_Thr_fillInStackTrace_0 ∈ zw := zw_s (List.mem_map.mpr ⟨(y_Thr_fillInStackTrace_0, _), List.mem_append_left _ (List.mem_of_getElem? (i := 14) rfl), rfl⟩) rfl
theorem we_0_15 : Cond.selects "RealText" y_RT_bitsOfText y_RT_bitsOfText ∈ zw := zw_s (List.mem_map.mpr ⟨(y_RT_bitsOfText, _), List.mem_append_left _ (List.mem_of_getElem? (i := 15) rfl), rfl⟩) rfl
theorem we_1_0 : Cond.selects "RealText$Literal" y_Lit_addDigits y_Lit_addDigits ∈ zw := zw_s (List.mem_map.mpr ⟨(y_Lit_addDigits, _), List.mem_append_right _ (List.mem_append_left _ (List.mem_of_getElem? (i := 0) rfl)), rfl⟩) rfl
theorem we_1_1 : Cond.selects "RealText$Literal" y_Lit_addDigit y_Lit_addDigit ∈ zw := zw_s (List.mem_map.mpr ⟨(y_Lit_addDigit, _), List.mem_append_right _ (List.mem_append_left _ (List.mem_of_getElem? (i := 1) rfl)), rfl⟩) rfl
theorem we_1_2 : Cond.selects "RealText$Literal" y_Lit_dropZerosBehind y_Lit_dropZerosBehind ∈ zw := zw_s (List.mem_map.mpr ⟨(y_Lit_dropZerosBehind, _), List.mem_append_right _ (List.mem_append_left _ (List.mem_of_getElem? (i := 2) rfl)), rfl⟩) rfl
theorem we_1_3 : Cond.selects "RealText$Literal" y_Lit_scanExponent y_Lit_scanExponent ∈ zw := zw_s (List.mem_map.mpr ⟨(y_Lit_scanExponent, _), List.mem_append_right _ (List.mem_append_left _ (List.mem_of_getElem? (i := 3) rfl)), rfl⟩) rfl
theorem we_1_4 : Cond.selects "RealText" y_RT_bitsOfHex y_RT_bitsOfHex ∈ zw := zw_s (List.mem_map.mpr ⟨(y_RT_bitsOfHex, _), List.mem_append_right _ (List.mem_append_left _ (List.mem_of_getElem? (i := 4) rfl)), rfl⟩) rfl
theorem we_1_5 : Cond.selects "RealText$Format" y_Fmt_join y_Fmt_join ∈ zw := zw_s (List.mem_map.mpr ⟨(y_Fmt_join, _), List.mem_append_right _ (List.mem_append_left _ (List.mem_of_getElem? (i := 5) rfl)), rfl⟩) rfl
theorem we_1_6 : Cond.selects "RealText" y_RT_bitsOfDecimal y_RT_bitsOfDecimal ∈ zw := zw_s (List.mem_map.mpr ⟨(y_RT_bitsOfDecimal, _), List.mem_append_right _ (List.mem_append_left _ (List.mem_of_getElem? (i := 6) rfl)), rfl⟩) rfl
theorem we_1_7 : Cond.selects "RealText$Quotient" y_Quo_setNumerator y_Quo_setNumerator ∈ zw := zw_s (List.mem_map.mpr ⟨(y_Quo_setNumerator, _), List.mem_append_right _ (List.mem_append_left _ (List.mem_of_getElem? (i := 7) rfl)), rfl⟩) rfl
theorem we_1_8 : Cond.selects "RealText$Quotient" y_Quo_divideBits y_Quo_divideBits ∈ zw := zw_s (List.mem_map.mpr ⟨(y_Quo_divideBits, _), List.mem_append_right _ (List.mem_append_left _ (List.mem_of_getElem? (i := 8) rfl)), rfl⟩) rfl
theorem we_1_9 : Cond.selects "RealTextModel" y_Mod_fail y_Mod_fail ∈ zw := zw_s (List.mem_map.mpr ⟨(y_Mod_fail, _), List.mem_append_right _ (List.mem_append_left _ (List.mem_of_getElem? (i := 9) rfl)), rfl⟩) rfl
theorem we_1_10 : Cond.selects "RealTextModel" y_Mod_isBinary y_Mod_isBinary ∈ zw := zw_s (List.mem_map.mpr ⟨(y_Mod_isBinary, _), List.mem_append_right _ (List.mem_append_left _ (List.mem_of_getElem? (i := 10) rfl)), rfl⟩) rfl
theorem we_1_11 : Cond.selects "RealTextModel" y_Mod_literal y_Mod_literal ∈ zw := zw_s (List.mem_map.mpr ⟨(y_Mod_literal, _), List.mem_append_right _ (List.mem_append_left _ (List.mem_of_getElem? (i := 11) rfl)), rfl⟩) rfl
theorem we_1_12 : Cond.selects "RealTextModel" y_Mod_row y_Mod_row ∈ zw := zw_s (List.mem_map.mpr ⟨(y_Mod_row, _), List.mem_append_right _ (List.mem_append_left _ (List.mem_of_getElem? (i := 12) rfl)), rfl⟩) rfl
theorem we_1_13 : Cond.selects "RealTextModel" y_Mod_look y_Mod_look ∈ zw := zw_s (List.mem_map.mpr ⟨(y_Mod_look, _), List.mem_append_right _ (List.mem_append_left _ (List.mem_of_getElem? (i := 13) rfl)), rfl⟩) rfl
theorem we_1_14 : Cond.selects "RealTextModel" y_Mod_exponentRow y_Mod_exponentRow ∈ zw := zw_s (List.mem_map.mpr ⟨(y_Mod_exponentRow, _), List.mem_append_right _ (List.mem_append_left _ (List.mem_of_getElem? (i := 14) rfl)), rfl⟩) rfl
theorem we_1_15 : Cond.selects "RealTextModel" y_Mod_found y_Mod_found ∈ zw := zw_s (List.mem_map.mpr ⟨(y_Mod_found, _), List.mem_append_right _ (List.mem_append_left _ (List.mem_of_getElem? (i := 15) rfl)), rfl⟩) rfl
theorem we_2_0 : Cond.selects "RealTextModel" y_Mod_nearest y_Mod_nearest ∈ zw := zw_s (List.mem_map.mpr ⟨(y_Mod_nearest, _), List.mem_append_right _ (List.mem_append_right _ ((List.mem_of_getElem? (i := 0) rfl))), rfl⟩) rfl
theorem we_2_1 : Cond.selects "RealTextModel" y_Mod_compare y_Mod_compare ∈ zw := zw_s (List.mem_map.mpr ⟨(y_Mod_compare, _), List.mem_append_right _ (List.mem_append_right _ ((List.mem_of_getElem? (i := 1) rfl))), rfl⟩) rfl
theorem we_2_2 : Cond.selects "RealTextModel" y_Mod_times y_Mod_times ∈ zw := zw_s (List.mem_map.mpr ⟨(y_Mod_times, _), List.mem_append_right _ (List.mem_append_right _ ((List.mem_of_getElem? (i := 2) rfl))), rfl⟩) rfl
theorem we_2_3 : Cond.selects "RealTextModel" y_Mod_above y_Mod_above ∈ zw := zw_s (List.mem_map.mpr ⟨(y_Mod_above, _), List.mem_append_right _ (List.mem_append_right _ ((List.mem_of_getElem? (i := 3) rfl))), rfl⟩) rfl
theorem we_2_4 : Cond.selects "RealTextModel" y_Mod_layWord y_Mod_layWord ∈ zw := zw_s (List.mem_map.mpr ⟨(y_Mod_layWord, _), List.mem_append_right _ (List.mem_append_right _ ((List.mem_of_getElem? (i := 4) rfl))), rfl⟩) rfl
theorem we_2_5 : Cond.selects "RealTextModel" y_Mod_lay y_Mod_lay ∈ zw := zw_s (List.mem_map.mpr ⟨(y_Mod_lay, _), List.mem_append_right _ (List.mem_append_right _ ((List.mem_of_getElem? (i := 5) rfl))), rfl⟩) rfl
theorem we_2_6 : Cond.selects "RealTextModel" y_Mod_layDecimal y_Mod_layDecimal ∈ zw := zw_s (List.mem_map.mpr ⟨(y_Mod_layDecimal, _), List.mem_append_right _ (List.mem_append_right _ ((List.mem_of_getElem? (i := 6) rfl))), rfl⟩) rfl
theorem we_2_7 : Cond.selects "RealTextModel" y_Mod_shortest y_Mod_shortest ∈ zw := zw_s (List.mem_map.mpr ⟨(y_Mod_shortest, _), List.mem_append_right _ (List.mem_append_right _ ((List.mem_of_getElem? (i := 7) rfl))), rfl⟩) rfl
theorem we_2_8 : Cond.selects "RealTextModel" y_Mod_tens y_Mod_tens ∈ zw := zw_s (List.mem_map.mpr ⟨(y_Mod_tens, _), List.mem_append_right _ (List.mem_append_right _ ((List.mem_of_getElem? (i := 8) rfl))), rfl⟩) rfl
theorem we_2_9 : Cond.selects "RealTextModel" y_Mod_scale y_Mod_scale ∈ zw := zw_s (List.mem_map.mpr ⟨(y_Mod_scale, _), List.mem_append_right _ (List.mem_append_right _ ((List.mem_of_getElem? (i := 9) rfl))), rfl⟩) rfl
theorem we_2_10 : Cond.selects "RealTextModel" y_Mod_compareDigits y_Mod_compareDigits ∈ zw := zw_s (List.mem_map.mpr ⟨(y_Mod_compareDigits, _), List.mem_append_right _ (List.mem_append_right _ ((List.mem_of_getElem? (i := 10) rfl))), rfl⟩) rfl
theorem we_2_11 : Cond.selects "RealTextModel" y_Mod_most y_Mod_most ∈ zw := zw_s (List.mem_map.mpr ⟨(y_Mod_most, _), List.mem_append_right _ (List.mem_append_right _ ((List.mem_of_getElem? (i := 11) rfl))), rfl⟩) rfl
theorem we_2_12 : Cond.selects "RealTextModel" y_Mod_isRead y_Mod_isRead ∈ zw := zw_s (List.mem_map.mpr ⟨(y_Mod_isRead, _), List.mem_append_right _ (List.mem_append_right _ ((List.mem_of_getElem? (i := 12) rfl))), rfl⟩) rfl
theorem we_2_13 : Cond.selects "RealTextModel" y_Mod_layDigits y_Mod_layDigits ∈ zw := zw_s (List.mem_map.mpr ⟨(y_Mod_layDigits, _), List.mem_append_right _ (List.mem_append_right _ ((List.mem_of_getElem? (i := 13) rfl))), rfl⟩) rfl
theorem we_2_14 : Cond.selects "RealTextModel" y_Mod_layNumber y_Mod_layNumber ∈ zw := zw_s (List.mem_map.mpr ⟨(y_Mod_layNumber, _), List.mem_append_right _ (List.mem_append_right _ ((List.mem_of_getElem? (i := 14) rfl))), rfl⟩) rfl
theorem zw_good : ∀ w ∈ zw, ((w.onTables && w.keeps) = true ∨ ∃ ty, w = .arrayClass ty) := fun w h => good_of_word (List.mem_filter.mp h).2
theorem zg_V {own C : String} {ix n : Nat} {y : MethodName} {c : ByteArray} {r : Option FieldType} (h1 : Cond.methodLink own ix y ∈ zw) (h2 : Cond.instanceMethod y ∈ zw) (h3 : Cond.selects C y y ∈ zw) (h4 : Cond.initialized C ∈ zw) (h5 : Cond.code y c n r ∈ zw) : GoodIn zw (wsV own ix C y (.code y c n r :: zw)) := by
  intro w hw
  have hm : w ∈ zw := by
    simp only [wsV, List.mem_append, List.mem_cons, List.not_mem_nil, or_false] at hw
    rcases hw with (rfl | rfl | rfl | rfl) | rfl | hw
    · exact h1
    · exact h2
    · exact h3
    · exact h4
    · exact h5
    · exact hw
  exact ⟨hm, zw_good w hm⟩
theorem zg_S {own : String} {ix n : Nat} {y : MethodName} {c : ByteArray} {r : Option FieldType} (h1 : Cond.methodLink own ix y ∈ zw) (h2 : Cond.static y ∈ zw) (h4 : Cond.initialized y.cls ∈ zw) (h5 : Cond.code y c n r ∈ zw) : GoodIn zw (va_wsS own ix y (.code y c n r :: zw)) := by
  intro w hw
  have hm : w ∈ zw := by
    simp only [va_wsS, List.mem_append, List.mem_cons, List.not_mem_nil, or_false] at hw
    rcases hw with (rfl | rfl | rfl) | rfl | hw
    · exact h1
    · exact h2
    · exact h4
    · exact h5
    · exact hw
  exact ⟨hm, zw_good w hm⟩
abbrev R_Big : String := "RealText$Big"
abbrev R_Dec : String := "RealText$Decimal"
abbrev R_Lit : String := "RealText$Literal"
abbrev R_Quo : String := "RealText$Quotient"
abbrev R_Row : String := "RealText$Row"
abbrev R_Sho : String := "RealText$Shortest"
abbrev R_RT : String := "RealText"
abbrev R_Mod : String := "RealTextModel"
abbrev R_Fmt : String := "RealText$Format"
abbrev R_Law : String := "RealTextLaw"
abbrev R_Mat : String := "java/lang/Math"
def T_Big : u_T := fun k => match k with
  | 0 => ("RealText$Big", "limbs", "[I", true)
  | _ => ("RealText$Big", "size", "I", false)
def ty_Big : Nat → FieldType := fun k => match k with
  | 0 => .array .int
  | _ => .int
theorem nm_Big : ∀ a, a < 2 → ∀ b, b < 2 → a ≠ b → (T_Big a).2.1 ≠ (T_Big b).2.1 := by decide +kernel
theorem tyok_Big : ∀ k, k < 2 → parseFieldDescriptor (T_Big k).2.2.1 = some (ty_Big k) := by decide +kernel
theorem in_Big : ∀ w ∈ u_ws R_Big T_Big 2, w ∈ zw := by
  intro w h
  simp only [u_ws, List.mem_map, List.mem_range] at h
  obtain ⟨k, hk, rfl⟩ := h
  rcases (show k = 0 ∨ k = 1 by omega) with rfl | rfl
  · exact wd_92
  · exact wd_94
def T_Dec : u_T := fun k => match k with
  | 0 => ("RealText$Decimal", "reversed", "[B", true)
  | 1 => ("RealText$Decimal", "digitCount", "I", false)
  | _ => ("RealText$Decimal", "point", "I", false)
def ty_Dec : Nat → FieldType := fun k => match k with
  | 0 => .array .byte
  | 1 => .int
  | _ => .int
theorem nm_Dec : ∀ a, a < 3 → ∀ b, b < 3 → a ≠ b → (T_Dec a).2.1 ≠ (T_Dec b).2.1 := by decide +kernel
theorem tyok_Dec : ∀ k, k < 3 → parseFieldDescriptor (T_Dec k).2.2.1 = some (ty_Dec k) := by decide +kernel
theorem in_Dec : ∀ w ∈ u_ws R_Dec T_Dec 3, w ∈ zw := by
  intro w h
  simp only [u_ws, List.mem_map, List.mem_range] at h
  obtain ⟨k, hk, rfl⟩ := h
  rcases (show k = 0 ∨ k = 1 ∨ k = 2 by omega) with rfl | rfl | rfl
  · exact wd_161
  · exact wd_163
  · exact wd_165
def T_Lit : u_T := fun k => match k with
  | 0 => ("RealText$Literal", "digits", "[B", true)
  | 1 => ("RealText$Literal", "digitCount", "I", false)
  | 2 => ("RealText$Literal", "fraction", "I", false)
  | 3 => ("RealText$Literal", "exponent", "I", false)
  | _ => ("RealText$Literal", "isHex", "Z", false)
def ty_Lit : Nat → FieldType := fun k => match k with
  | 0 => .array .byte
  | 1 => .int
  | 2 => .int
  | 3 => .int
  | _ => .boolean
theorem nm_Lit : ∀ a, a < 5 → ∀ b, b < 5 → a ≠ b → (T_Lit a).2.1 ≠ (T_Lit b).2.1 := by decide +kernel
theorem tyok_Lit : ∀ k, k < 5 → parseFieldDescriptor (T_Lit k).2.2.1 = some (ty_Lit k) := by decide +kernel
theorem in_Lit : ∀ w ∈ u_ws R_Lit T_Lit 5, w ∈ zw := by
  intro w h
  simp only [u_ws, List.mem_map, List.mem_range] at h
  obtain ⟨k, hk, rfl⟩ := h
  rcases (show k = 0 ∨ k = 1 ∨ k = 2 ∨ k = 3 ∨ k = 4 by omega) with rfl | rfl | rfl | rfl | rfl
  · exact wd_66
  · exact wd_68
  · exact wd_70
  · exact wd_72
  · exact wd_74
def T_Quo : u_T := fun k => match k with
  | 0 => ("RealText$Quotient", "numerator", "LRealText$Big;", true)
  | 1 => ("RealText$Quotient", "denominator", "LRealText$Big;", true)
  | 2 => ("RealText$Quotient", "lead", "J", false)
  | 3 => ("RealText$Quotient", "power", "I", false)
  | _ => ("RealText$Quotient", "more", "Z", false)
def ty_Quo : Nat → FieldType := fun k => match k with
  | 0 => .object "RealText$Big"
  | 1 => .object "RealText$Big"
  | 2 => .long
  | 3 => .int
  | _ => .boolean
theorem nm_Quo : ∀ a, a < 5 → ∀ b, b < 5 → a ≠ b → (T_Quo a).2.1 ≠ (T_Quo b).2.1 := by decide +kernel
theorem tyok_Quo : ∀ k, k < 5 → parseFieldDescriptor (T_Quo k).2.2.1 = some (ty_Quo k) := by decide +kernel
theorem in_Quo : ∀ w ∈ u_ws R_Quo T_Quo 5, w ∈ zw := by
  intro w h
  simp only [u_ws, List.mem_map, List.mem_range] at h
  obtain ⟨k, hk, rfl⟩ := h
  rcases (show k = 0 ∨ k = 1 ∨ k = 2 ∨ k = 3 ∨ k = 4 by omega) with rfl | rfl | rfl | rfl | rfl
  · exact wd_106
  · exact wd_108
  · exact wd_110
  · exact wd_112
  · exact wd_114
def T_Row : u_T := fun k => match k with
  | 0 => ("RealText$Row", "letters", "[C", true)
  | 1 => ("RealText$Row", "start", "I", false)
  | _ => ("RealText$Row", "end", "I", false)
def ty_Row : Nat → FieldType := fun k => match k with
  | 0 => .array .char
  | 1 => .int
  | _ => .int
theorem nm_Row : ∀ a, a < 3 → ∀ b, b < 3 → a ≠ b → (T_Row a).2.1 ≠ (T_Row b).2.1 := by decide +kernel
theorem tyok_Row : ∀ k, k < 3 → parseFieldDescriptor (T_Row k).2.2.1 = some (ty_Row k) := by decide +kernel
theorem in_Row : ∀ w ∈ u_ws R_Row T_Row 3, w ∈ zw := by
  intro w h
  simp only [u_ws, List.mem_map, List.mem_range] at h
  obtain ⟨k, hk, rfl⟩ := h
  rcases (show k = 0 ∨ k = 1 ∨ k = 2 by omega) with rfl | rfl | rfl
  · exact wd_40
  · exact wd_42
  · exact wd_44
def T_Sho : u_T := fun k => match k with
  | 0 => ("RealText$Shortest", "rest", "LRealText$Big;", true)
  | 1 => ("RealText$Shortest", "unit", "LRealText$Big;", true)
  | 2 => ("RealText$Shortest", "halfGap", "LRealText$Big;", true)
  | 3 => ("RealText$Shortest", "sum", "LRealText$Big;", true)
  | 4 => ("RealText$Shortest", "isNarrowBelow", "Z", false)
  | 5 => ("RealText$Shortest", "isEven", "Z", false)
  | 6 => ("RealText$Shortest", "number", "J", false)
  | _ => ("RealText$Shortest", "power", "I", false)
def ty_Sho : Nat → FieldType := fun k => match k with
  | 0 => .object "RealText$Big"
  | 1 => .object "RealText$Big"
  | 2 => .object "RealText$Big"
  | 3 => .object "RealText$Big"
  | 4 => .boolean
  | 5 => .boolean
  | 6 => .long
  | _ => .int
theorem nm_Sho : ∀ a, a < 8 → ∀ b, b < 8 → a ≠ b → (T_Sho a).2.1 ≠ (T_Sho b).2.1 := by decide +kernel
theorem tyok_Sho : ∀ k, k < 8 → parseFieldDescriptor (T_Sho k).2.2.1 = some (ty_Sho k) := by decide +kernel
theorem in_Sho : ∀ w ∈ u_ws R_Sho T_Sho 8, w ∈ zw := by
  intro w h
  simp only [u_ws, List.mem_map, List.mem_range] at h
  obtain ⟨k, hk, rfl⟩ := h
  rcases (show k = 0 ∨ k = 1 ∨ k = 2 ∨ k = 3 ∨ k = 4 ∨ k = 5 ∨ k = 6 ∨ k = 7 by omega) with rfl | rfl | rfl | rfl | rfl | rfl | rfl | rfl
  · exact wd_135
  · exact wd_137
  · exact wd_139
  · exact wd_141
  · exact wd_143
  · exact wd_145
  · exact wd_147
  · exact wd_149
def T_RT : u_T := fun k => match k with
  | 0 => ("RealText", "theText", "LRealText$Row;", true)
  | 1 => ("RealText", "written", "LRealText$Row;", true)
  | 2 => ("RealText", "literal", "LRealText$Literal;", true)
  | 3 => ("RealText", "quotient", "LRealText$Quotient;", true)
  | 4 => ("RealText", "shortest", "LRealText$Shortest;", true)
  | 5 => ("RealText", "decimal", "LRealText$Decimal;", true)
  | 6 => ("RealText", "readCount", "I", false)
  | 7 => ("RealText", "noLiteralCount", "I", false)
  | _ => ("RealText", "outOfRangeCount", "I", false)
def ty_RT : Nat → FieldType := fun k => match k with
  | 0 => .object "RealText$Row"
  | 1 => .object "RealText$Row"
  | 2 => .object "RealText$Literal"
  | 3 => .object "RealText$Quotient"
  | 4 => .object "RealText$Shortest"
  | 5 => .object "RealText$Decimal"
  | 6 => .int
  | 7 => .int
  | _ => .int
theorem nm_RT : ∀ a, a < 9 → ∀ b, b < 9 → a ≠ b → (T_RT a).2.1 ≠ (T_RT b).2.1 := by decide +kernel
theorem tyok_RT : ∀ k, k < 9 → parseFieldDescriptor (T_RT k).2.2.1 = some (ty_RT k) := by decide +kernel
theorem in_RT : ∀ w ∈ u_ws R_RT T_RT 9, w ∈ zw := by
  intro w h
  simp only [u_ws, List.mem_map, List.mem_range] at h
  obtain ⟨k, hk, rfl⟩ := h
  rcases (show k = 0 ∨ k = 1 ∨ k = 2 ∨ k = 3 ∨ k = 4 ∨ k = 5 ∨ k = 6 ∨ k = 7 ∨ k = 8 by omega) with rfl | rfl | rfl | rfl | rfl | rfl | rfl | rfl | rfl
  · exact wd_177
  · exact wd_179
  · exact wd_181
  · exact wd_183
  · exact wd_185
  · exact wd_187
  · exact wd_189
  · exact wd_191
  · exact wd_193
def T_Mod : u_T := fun k => match k with
  | 0 => ("RealTextModel", "text", "[I", true)
  | 1 => ("RealTextModel", "written", "[I", true)
  | 2 => ("RealTextModel", "length", "I", false)
  | 3 => ("RealTextModel", "laid", "I", false)
  | 4 => ("RealTextModel", "gone", "I", false)
  | 5 => ("RealTextModel", "thrown", "I", false)
  | 6 => ("RealTextModel", "were", "I", false)
  | 7 => ("RealTextModel", "none", "I", false)
  | 8 => ("RealTextModel", "beyond", "I", false)
  | 9 => ("RealTextModel", "a", "[I", true)
  | 10 => ("RealTextModel", "b", "[I", true)
  | 11 => ("RealTextModel", "five", "[I", true)
  | 12 => ("RealTextModel", "left", "[I", true)
  | 13 => ("RealTextModel", "right", "[I", true)
  | 14 => ("RealTextModel", "part", "[I", true)
  | 15 => ("RealTextModel", "aMany", "I", false)
  | 16 => ("RealTextModel", "bMany", "I", false)
  | 17 => ("RealTextModel", "fiveMany", "I", false)
  | 18 => ("RealTextModel", "leftMany", "I", false)
  | 19 => ("RealTextModel", "rightMany", "I", false)
  | 20 => ("RealTextModel", "partMany", "I", false)
  | 21 => ("RealTextModel", "twos", "I", false)
  | 22 => ("RealTextModel", "at", "I", false)
  | 23 => ("RealTextModel", "digits", "I", false)
  | 24 => ("RealTextModel", "power", "I", false)
  | _ => ("RealTextModel", "good", "Z", false)
def ty_Mod : Nat → FieldType := fun k => match k with
  | 0 => .array .int
  | 1 => .array .int
  | 2 => .int
  | 3 => .int
  | 4 => .int
  | 5 => .int
  | 6 => .int
  | 7 => .int
  | 8 => .int
  | 9 => .array .int
  | 10 => .array .int
  | 11 => .array .int
  | 12 => .array .int
  | 13 => .array .int
  | 14 => .array .int
  | 15 => .int
  | 16 => .int
  | 17 => .int
  | 18 => .int
  | 19 => .int
  | 20 => .int
  | 21 => .int
  | 22 => .int
  | 23 => .int
  | 24 => .int
  | _ => .boolean
theorem nm_Mod : ∀ a, a < 26 → ∀ b, b < 26 → a ≠ b → (T_Mod a).2.1 ≠ (T_Mod b).2.1 := by decide +kernel
theorem tyok_Mod : ∀ k, k < 26 → parseFieldDescriptor (T_Mod k).2.2.1 = some (ty_Mod k) := by decide +kernel
theorem in_Mod : ∀ w ∈ u_ws R_Mod T_Mod 26, w ∈ zw := by
  intro w h
  simp only [u_ws, List.mem_map, List.mem_range] at h
  obtain ⟨k, hk, rfl⟩ := h
  rcases (show k = 0 ∨ k = 1 ∨ k = 2 ∨ k = 3 ∨ k = 4 ∨ k = 5 ∨ k = 6 ∨ k = 7 ∨ k = 8 ∨ k = 9 ∨ k = 10 ∨ k = 11 ∨ k = 12 ∨ k = 13 ∨ k = 14 ∨ k = 15 ∨ k = 16 ∨ k = 17 ∨ k = 18 ∨ k = 19 ∨ k = 20 ∨ k = 21 ∨ k = 22 ∨ k = 23 ∨ k = 24 ∨ k = 25 by omega) with rfl | rfl | rfl | rfl | rfl | rfl | rfl | rfl | rfl | rfl | rfl | rfl | rfl | rfl | rfl | rfl | rfl | rfl | rfl | rfl | rfl | rfl | rfl | rfl | rfl | rfl
  · exact wd_699
  · exact wd_701
  · exact wd_703
  · exact wd_705
  · exact wd_707
  · exact wd_709
  · exact wd_711
  · exact wd_713
  · exact wd_715
  · exact wd_717
  · exact wd_719
  · exact wd_721
  · exact wd_723
  · exact wd_725
  · exact wd_727
  · exact wd_729
  · exact wd_731
  · exact wd_733
  · exact wd_735
  · exact wd_737
  · exact wd_739
  · exact wd_741
  · exact wd_743
  · exact wd_745
  · exact wd_747
  · exact wd_749
abbrev vwCl : List vw_C := [(R_Big, T_Big, 2), (R_Dec, T_Dec, 3), (R_Lit, T_Lit, 5), (R_Quo, T_Quo, 5), (R_Row, T_Row, 3), (R_Sho, T_Sho, 8), (R_RT, T_RT, 9), (R_Mod, T_Mod, 26)]
