section
-- ===== PART A: goes FIRST, ahead of the names: the tables' words, and 'selects' of the private methods out of them =====
/-- a private method of a class that the tables say can be made, by its rows of tables_1 -/
def lw_okq (q : MethodName × Nat) : Prop := (q.1.cls ≠ "java/lang/invoke/MethodHandle" ∧ q.1.cls ≠ "java/lang/invoke/VarHandle") ∧ Cond.instantiable q.1.cls q.2 ∈ tables_1 ∧ Cond.privateMethod q.1 ∈ tables_1 ∧ Cond.instanceMethod q.1 ∈ tables_1
theorem lw_p0 : lw_okq (⟨"RealText$Format", "fractionMask", "()J"⟩, 6) := ⟨⟨by decide +kernel, by decide +kernel⟩, List.mem_of_getElem? (i := 215) (by decide +kernel), List.mem_of_getElem? (i := 213) (by decide +kernel), List.mem_of_getElem? (i := 214) (by decide +kernel)⟩
theorem lw_p1 : lw_okq (⟨"RealText$Format", "hiddenBit", "()J"⟩, 6) := ⟨⟨by decide +kernel, by decide +kernel⟩, List.mem_of_getElem? (i := 215) (by decide +kernel), List.mem_of_getElem? (i := 218) (by decide +kernel), List.mem_of_getElem? (i := 219) (by decide +kernel)⟩
theorem lw_p2 : lw_okq (⟨"RealText$Format", "exponentOf", "(J)I"⟩, 6) := ⟨⟨by decide +kernel, by decide +kernel⟩, List.mem_of_getElem? (i := 215) (by decide +kernel), List.mem_of_getElem? (i := 304) (by decide +kernel), List.mem_of_getElem? (i := 305) (by decide +kernel)⟩
theorem lw_p3 : lw_okq (⟨"RealText$Shortest", "start", "(JI)V"⟩, 8) := ⟨⟨by decide +kernel, by decide +kernel⟩, List.mem_of_getElem? (i := 118) (by decide +kernel), List.mem_of_getElem? (i := 319) (by decide +kernel), List.mem_of_getElem? (i := 320) (by decide +kernel)⟩
theorem lw_p4 : lw_okq (⟨"RealText$Big", "addLimb", "(J)V"⟩, 2) := ⟨⟨by decide +kernel, by decide +kernel⟩, List.mem_of_getElem? (i := 85) (by decide +kernel), List.mem_of_getElem? (i := 328) (by decide +kernel), List.mem_of_getElem? (i := 329) (by decide +kernel)⟩
theorem lw_p5 : lw_okq (⟨"RealText$Big", "trim", "()V"⟩, 2) := ⟨⟨by decide +kernel, by decide +kernel⟩, List.mem_of_getElem? (i := 85) (by decide +kernel), List.mem_of_getElem? (i := 332) (by decide +kernel), List.mem_of_getElem? (i := 333) (by decide +kernel)⟩
theorem lw_p6 : lw_okq (⟨"RealText$Big", "limbAt", "(I)J"⟩, 2) := ⟨⟨by decide +kernel, by decide +kernel⟩, List.mem_of_getElem? (i := 85) (by decide +kernel), List.mem_of_getElem? (i := 340) (by decide +kernel), List.mem_of_getElem? (i := 341) (by decide +kernel)⟩
theorem lw_p7 : lw_okq (⟨"RealText$Shortest", "nextDigit", "()I"⟩, 8) := ⟨⟨by decide +kernel, by decide +kernel⟩, List.mem_of_getElem? (i := 118) (by decide +kernel), List.mem_of_getElem? (i := 378) (by decide +kernel), List.mem_of_getElem? (i := 379) (by decide +kernel)⟩
theorem lw_p8 : lw_okq (⟨"RealText$Shortest", "isReadBelow", "()Z"⟩, 8) := ⟨⟨by decide +kernel, by decide +kernel⟩, List.mem_of_getElem? (i := 118) (by decide +kernel), List.mem_of_getElem? (i := 386) (by decide +kernel), List.mem_of_getElem? (i := 387) (by decide +kernel)⟩
theorem lw_p9 : lw_okq (⟨"RealText$Shortest", "isReadAbove", "()Z"⟩, 8) := ⟨⟨by decide +kernel, by decide +kernel⟩, List.mem_of_getElem? (i := 118) (by decide +kernel), List.mem_of_getElem? (i := 390) (by decide +kernel), List.mem_of_getElem? (i := 391) (by decide +kernel)⟩
theorem lw_p10 : lw_okq (⟨"RealText$Big", "setLimb", "(IJ)V"⟩, 2) := ⟨⟨by decide +kernel, by decide +kernel⟩, List.mem_of_getElem? (i := 85) (by decide +kernel), List.mem_of_getElem? (i := 406) (by decide +kernel), List.mem_of_getElem? (i := 407) (by decide +kernel)⟩
theorem lw_p11 : lw_okq (⟨"RealText$Shortest", "isNearerAbove", "()Z"⟩, 8) := ⟨⟨by decide +kernel, by decide +kernel⟩, List.mem_of_getElem? (i := 118) (by decide +kernel), List.mem_of_getElem? (i := 410) (by decide +kernel), List.mem_of_getElem? (i := 411) (by decide +kernel)⟩
theorem lw_p12 : lw_okq (⟨"RealText$Decimal", "putDigits", "(LRealText$Row;II)V"⟩, 3) := ⟨⟨by decide +kernel, by decide +kernel⟩, List.mem_of_getElem? (i := 153) (by decide +kernel), List.mem_of_getElem? (i := 423) (by decide +kernel), List.mem_of_getElem? (i := 424) (by decide +kernel)⟩
theorem lw_p13 : lw_okq (⟨"RealText$Decimal", "digitAt", "(I)I"⟩, 3) := ⟨⟨by decide +kernel, by decide +kernel⟩, List.mem_of_getElem? (i := 153) (by decide +kernel), List.mem_of_getElem? (i := 427) (by decide +kernel), List.mem_of_getElem? (i := 428) (by decide +kernel)⟩
theorem lw_p14 : lw_okq (⟨"java/lang/Throwable", "fillInStackTrace", "(I)Ljava/lang/Throwable;"⟩, 6) := ⟨⟨by decide +kernel, by decide +kernel⟩, List.mem_of_getElem? (i := 510) (by decide +kernel), List.mem_of_getElem? (i := 508) (by decide +kernel), List.mem_of_getElem? (i := 509) (by decide +kernel)⟩
theorem lw_p15 : lw_okq (⟨"RealText", "bitsOfText", "(LRealText$Format;)J"⟩, 9) := ⟨⟨by decide +kernel, by decide +kernel⟩, List.mem_of_getElem? (i := 24) (by decide +kernel), List.mem_of_getElem? (i := 561) (by decide +kernel), List.mem_of_getElem? (i := 562) (by decide +kernel)⟩
def lw_privs_1 : List (MethodName × Nat) := [(⟨"RealText$Format", "fractionMask", "()J"⟩, 6), (⟨"RealText$Format", "hiddenBit", "()J"⟩, 6), (⟨"RealText$Format", "exponentOf", "(J)I"⟩, 6), (⟨"RealText$Shortest", "start", "(JI)V"⟩, 8), (⟨"RealText$Big", "addLimb", "(J)V"⟩, 2), (⟨"RealText$Big", "trim", "()V"⟩, 2), (⟨"RealText$Big", "limbAt", "(I)J"⟩, 2), (⟨"RealText$Shortest", "nextDigit", "()I"⟩, 8), (⟨"RealText$Shortest", "isReadBelow", "()Z"⟩, 8), (⟨"RealText$Shortest", "isReadAbove", "()Z"⟩, 8), (⟨"RealText$Big", "setLimb", "(IJ)V"⟩, 2), (⟨"RealText$Shortest", "isNearerAbove", "()Z"⟩, 8), (⟨"RealText$Decimal", "putDigits", "(LRealText$Row;II)V"⟩, 3), (⟨"RealText$Decimal", "digitAt", "(I)I"⟩, 3), (⟨"java/lang/Throwable", "fillInStackTrace", "(I)Ljava/lang/Throwable;"⟩, 6), (⟨"RealText", "bitsOfText", "(LRealText$Format;)J"⟩, 9)]
theorem lw_r1 : ∀ q ∈ lw_privs_1, lw_okq q := List.forall_mem_cons.mpr ⟨lw_p0, List.forall_mem_cons.mpr ⟨lw_p1, List.forall_mem_cons.mpr ⟨lw_p2, List.forall_mem_cons.mpr ⟨lw_p3, List.forall_mem_cons.mpr ⟨lw_p4, List.forall_mem_cons.mpr ⟨lw_p5, List.forall_mem_cons.mpr ⟨lw_p6, List.forall_mem_cons.mpr ⟨lw_p7, List.forall_mem_cons.mpr ⟨lw_p8, List.forall_mem_cons.mpr ⟨lw_p9, List.forall_mem_cons.mpr ⟨lw_p10, List.forall_mem_cons.mpr ⟨lw_p11, List.forall_mem_cons.mpr ⟨lw_p12, List.forall_mem_cons.mpr ⟨lw_p13, List.forall_mem_cons.mpr ⟨lw_p14, List.forall_mem_cons.mpr ⟨lw_p15, fun _ h => absurd h List.not_mem_nil⟩⟩⟩⟩⟩⟩⟩⟩⟩⟩⟩⟩⟩⟩⟩⟩
theorem lw_p16 : lw_okq (⟨"RealText$Literal", "addDigits", "(LRealText$Row;III)I"⟩, 5) := ⟨⟨by decide +kernel, by decide +kernel⟩, List.mem_of_getElem? (i := 49) (by decide +kernel), List.mem_of_getElem? (i := 580) (by decide +kernel), List.mem_of_getElem? (i := 581) (by decide +kernel)⟩
theorem lw_p17 : lw_okq (⟨"RealText$Literal", "addDigit", "(I)V"⟩, 5) := ⟨⟨by decide +kernel, by decide +kernel⟩, List.mem_of_getElem? (i := 49) (by decide +kernel), List.mem_of_getElem? (i := 584) (by decide +kernel), List.mem_of_getElem? (i := 585) (by decide +kernel)⟩
theorem lw_p18 : lw_okq (⟨"RealText$Literal", "dropZerosBehind", "()V"⟩, 5) := ⟨⟨by decide +kernel, by decide +kernel⟩, List.mem_of_getElem? (i := 49) (by decide +kernel), List.mem_of_getElem? (i := 588) (by decide +kernel), List.mem_of_getElem? (i := 589) (by decide +kernel)⟩
theorem lw_p19 : lw_okq (⟨"RealText$Literal", "scanExponent", "(LRealText$Row;I)Z"⟩, 5) := ⟨⟨by decide +kernel, by decide +kernel⟩, List.mem_of_getElem? (i := 49) (by decide +kernel), List.mem_of_getElem? (i := 592) (by decide +kernel), List.mem_of_getElem? (i := 593) (by decide +kernel)⟩
theorem lw_p20 : lw_okq (⟨"RealText", "bitsOfHex", "(LRealText$Format;)J"⟩, 9) := ⟨⟨by decide +kernel, by decide +kernel⟩, List.mem_of_getElem? (i := 24) (by decide +kernel), List.mem_of_getElem? (i := 602) (by decide +kernel), List.mem_of_getElem? (i := 603) (by decide +kernel)⟩
theorem lw_p21 : lw_okq (⟨"RealText$Format", "join", "(JI)J"⟩, 6) := ⟨⟨by decide +kernel, by decide +kernel⟩, List.mem_of_getElem? (i := 215) (by decide +kernel), List.mem_of_getElem? (i := 615) (by decide +kernel), List.mem_of_getElem? (i := 616) (by decide +kernel)⟩
theorem lw_p22 : lw_okq (⟨"RealText", "bitsOfDecimal", "(LRealText$Format;)J"⟩, 9) := ⟨⟨by decide +kernel, by decide +kernel⟩, List.mem_of_getElem? (i := 24) (by decide +kernel), List.mem_of_getElem? (i := 619) (by decide +kernel), List.mem_of_getElem? (i := 620) (by decide +kernel)⟩
theorem lw_p23 : lw_okq (⟨"RealText$Quotient", "setNumerator", "(LRealText$Literal;)V"⟩, 5) := ⟨⟨by decide +kernel, by decide +kernel⟩, List.mem_of_getElem? (i := 79) (by decide +kernel), List.mem_of_getElem? (i := 628) (by decide +kernel), List.mem_of_getElem? (i := 629) (by decide +kernel)⟩
theorem lw_p24 : lw_okq (⟨"RealText$Quotient", "divideBits", "()V"⟩, 5) := ⟨⟨by decide +kernel, by decide +kernel⟩, List.mem_of_getElem? (i := 79) (by decide +kernel), List.mem_of_getElem? (i := 637) (by decide +kernel), List.mem_of_getElem? (i := 638) (by decide +kernel)⟩
theorem lw_p25 : lw_okq (⟨"RealTextModel", "fail", "(I)I"⟩, 26) := ⟨⟨by decide +kernel, by decide +kernel⟩, List.mem_of_getElem? (i := 669) (by decide +kernel), List.mem_of_getElem? (i := 764) (by decide +kernel), List.mem_of_getElem? (i := 765) (by decide +kernel)⟩
theorem lw_p26 : lw_okq (⟨"RealTextModel", "isBinary", "()Z"⟩, 26) := ⟨⟨by decide +kernel, by decide +kernel⟩, List.mem_of_getElem? (i := 669) (by decide +kernel), List.mem_of_getElem? (i := 772) (by decide +kernel), List.mem_of_getElem? (i := 773) (by decide +kernel)⟩
theorem lw_p27 : lw_okq (⟨"RealTextModel", "literal", "(Z)Z"⟩, 26) := ⟨⟨by decide +kernel, by decide +kernel⟩, List.mem_of_getElem? (i := 669) (by decide +kernel), List.mem_of_getElem? (i := 776) (by decide +kernel), List.mem_of_getElem? (i := 777) (by decide +kernel)⟩
theorem lw_p28 : lw_okq (⟨"RealTextModel", "row", "(Z)I"⟩, 26) := ⟨⟨by decide +kernel, by decide +kernel⟩, List.mem_of_getElem? (i := 669) (by decide +kernel), List.mem_of_getElem? (i := 780) (by decide +kernel), List.mem_of_getElem? (i := 781) (by decide +kernel)⟩
theorem lw_p29 : lw_okq (⟨"RealTextModel", "look", "()I"⟩, 26) := ⟨⟨by decide +kernel, by decide +kernel⟩, List.mem_of_getElem? (i := 669) (by decide +kernel), List.mem_of_getElem? (i := 784) (by decide +kernel), List.mem_of_getElem? (i := 785) (by decide +kernel)⟩
theorem lw_p30 : lw_okq (⟨"RealTextModel", "exponentRow", "()V"⟩, 26) := ⟨⟨by decide +kernel, by decide +kernel⟩, List.mem_of_getElem? (i := 669) (by decide +kernel), List.mem_of_getElem? (i := 798) (by decide +kernel), List.mem_of_getElem? (i := 799) (by decide +kernel)⟩
theorem lw_p31 : lw_okq (⟨"RealTextModel", "found", "(ZZ)J"⟩, 26) := ⟨⟨by decide +kernel, by decide +kernel⟩, List.mem_of_getElem? (i := 669) (by decide +kernel), List.mem_of_getElem? (i := 809) (by decide +kernel), List.mem_of_getElem? (i := 810) (by decide +kernel)⟩
def lw_privs_2 : List (MethodName × Nat) := [(⟨"RealText$Literal", "addDigits", "(LRealText$Row;III)I"⟩, 5), (⟨"RealText$Literal", "addDigit", "(I)V"⟩, 5), (⟨"RealText$Literal", "dropZerosBehind", "()V"⟩, 5), (⟨"RealText$Literal", "scanExponent", "(LRealText$Row;I)Z"⟩, 5), (⟨"RealText", "bitsOfHex", "(LRealText$Format;)J"⟩, 9), (⟨"RealText$Format", "join", "(JI)J"⟩, 6), (⟨"RealText", "bitsOfDecimal", "(LRealText$Format;)J"⟩, 9), (⟨"RealText$Quotient", "setNumerator", "(LRealText$Literal;)V"⟩, 5), (⟨"RealText$Quotient", "divideBits", "()V"⟩, 5), (⟨"RealTextModel", "fail", "(I)I"⟩, 26), (⟨"RealTextModel", "isBinary", "()Z"⟩, 26), (⟨"RealTextModel", "literal", "(Z)Z"⟩, 26), (⟨"RealTextModel", "row", "(Z)I"⟩, 26), (⟨"RealTextModel", "look", "()I"⟩, 26), (⟨"RealTextModel", "exponentRow", "()V"⟩, 26), (⟨"RealTextModel", "found", "(ZZ)J"⟩, 26)]
theorem lw_r2 : ∀ q ∈ lw_privs_2, lw_okq q := List.forall_mem_cons.mpr ⟨lw_p16, List.forall_mem_cons.mpr ⟨lw_p17, List.forall_mem_cons.mpr ⟨lw_p18, List.forall_mem_cons.mpr ⟨lw_p19, List.forall_mem_cons.mpr ⟨lw_p20, List.forall_mem_cons.mpr ⟨lw_p21, List.forall_mem_cons.mpr ⟨lw_p22, List.forall_mem_cons.mpr ⟨lw_p23, List.forall_mem_cons.mpr ⟨lw_p24, List.forall_mem_cons.mpr ⟨lw_p25, List.forall_mem_cons.mpr ⟨lw_p26, List.forall_mem_cons.mpr ⟨lw_p27, List.forall_mem_cons.mpr ⟨lw_p28, List.forall_mem_cons.mpr ⟨lw_p29, List.forall_mem_cons.mpr ⟨lw_p30, List.forall_mem_cons.mpr ⟨lw_p31, fun _ h => absurd h List.not_mem_nil⟩⟩⟩⟩⟩⟩⟩⟩⟩⟩⟩⟩⟩⟩⟩⟩
theorem lw_p32 : lw_okq (⟨"RealTextModel", "nearest", "(Z)J"⟩, 26) := ⟨⟨by decide +kernel, by decide +kernel⟩, List.mem_of_getElem? (i := 669) (by decide +kernel), List.mem_of_getElem? (i := 819) (by decide +kernel), List.mem_of_getElem? (i := 820) (by decide +kernel)⟩
theorem lw_p33 : lw_okq (⟨"RealTextModel", "compare", "(JI)I"⟩, 26) := ⟨⟨by decide +kernel, by decide +kernel⟩, List.mem_of_getElem? (i := 669) (by decide +kernel), List.mem_of_getElem? (i := 830) (by decide +kernel), List.mem_of_getElem? (i := 831) (by decide +kernel)⟩
theorem lw_p34 : lw_okq (⟨"RealTextModel", "times", "([IIJ[I)I"⟩, 26) := ⟨⟨by decide +kernel, by decide +kernel⟩, List.mem_of_getElem? (i := 669) (by decide +kernel), List.mem_of_getElem? (i := 837) (by decide +kernel), List.mem_of_getElem? (i := 838) (by decide +kernel)⟩
theorem lw_p35 : lw_okq (⟨"RealTextModel", "above", "(JZ)I"⟩, 26) := ⟨⟨by decide +kernel, by decide +kernel⟩, List.mem_of_getElem? (i := 669) (by decide +kernel), List.mem_of_getElem? (i := 841) (by decide +kernel), List.mem_of_getElem? (i := 842) (by decide +kernel)⟩
theorem lw_p36 : lw_okq (⟨"RealTextModel", "layWord", "(JI)V"⟩, 26) := ⟨⟨by decide +kernel, by decide +kernel⟩, List.mem_of_getElem? (i := 669) (by decide +kernel), List.mem_of_getElem? (i := 852) (by decide +kernel), List.mem_of_getElem? (i := 853) (by decide +kernel)⟩
theorem lw_p37 : lw_okq (⟨"RealTextModel", "lay", "(I)V"⟩, 26) := ⟨⟨by decide +kernel, by decide +kernel⟩, List.mem_of_getElem? (i := 669) (by decide +kernel), List.mem_of_getElem? (i := 857) (by decide +kernel), List.mem_of_getElem? (i := 858) (by decide +kernel)⟩
theorem lw_p38 : lw_okq (⟨"RealTextModel", "layDecimal", "(JZ)V"⟩, 26) := ⟨⟨by decide +kernel, by decide +kernel⟩, List.mem_of_getElem? (i := 669) (by decide +kernel), List.mem_of_getElem? (i := 863) (by decide +kernel), List.mem_of_getElem? (i := 864) (by decide +kernel)⟩
theorem lw_p39 : lw_okq (⟨"RealTextModel", "shortest", "(JZ)J"⟩, 26) := ⟨⟨by decide +kernel, by decide +kernel⟩, List.mem_of_getElem? (i := 669) (by decide +kernel), List.mem_of_getElem? (i := 867) (by decide +kernel), List.mem_of_getElem? (i := 868) (by decide +kernel)⟩
theorem lw_p40 : lw_okq (⟨"RealTextModel", "tens", "(JI)I"⟩, 26) := ⟨⟨by decide +kernel, by decide +kernel⟩, List.mem_of_getElem? (i := 669) (by decide +kernel), List.mem_of_getElem? (i := 872) (by decide +kernel), List.mem_of_getElem? (i := 873) (by decide +kernel)⟩
theorem lw_p41 : lw_okq (⟨"RealTextModel", "scale", "(I)V"⟩, 26) := ⟨⟨by decide +kernel, by decide +kernel⟩, List.mem_of_getElem? (i := 669) (by decide +kernel), List.mem_of_getElem? (i := 876) (by decide +kernel), List.mem_of_getElem? (i := 877) (by decide +kernel)⟩
theorem lw_p42 : lw_okq (⟨"RealTextModel", "compareDigits", "(JJI)I"⟩, 26) := ⟨⟨by decide +kernel, by decide +kernel⟩, List.mem_of_getElem? (i := 669) (by decide +kernel), List.mem_of_getElem? (i := 880) (by decide +kernel), List.mem_of_getElem? (i := 881) (by decide +kernel)⟩
theorem lw_p43 : lw_okq (⟨"RealTextModel", "most", "(JIJ)J"⟩, 26) := ⟨⟨by decide +kernel, by decide +kernel⟩, List.mem_of_getElem? (i := 669) (by decide +kernel), List.mem_of_getElem? (i := 884) (by decide +kernel), List.mem_of_getElem? (i := 885) (by decide +kernel)⟩
theorem lw_p44 : lw_okq (⟨"RealTextModel", "isRead", "(JJZ)Z"⟩, 26) := ⟨⟨by decide +kernel, by decide +kernel⟩, List.mem_of_getElem? (i := 669) (by decide +kernel), List.mem_of_getElem? (i := 888) (by decide +kernel), List.mem_of_getElem? (i := 889) (by decide +kernel)⟩
theorem lw_p45 : lw_okq (⟨"RealTextModel", "layDigits", "(JIII)V"⟩, 26) := ⟨⟨by decide +kernel, by decide +kernel⟩, List.mem_of_getElem? (i := 669) (by decide +kernel), List.mem_of_getElem? (i := 893) (by decide +kernel), List.mem_of_getElem? (i := 894) (by decide +kernel)⟩
theorem lw_p46 : lw_okq (⟨"RealTextModel", "layNumber", "(I)V"⟩, 26) := ⟨⟨by decide +kernel, by decide +kernel⟩, List.mem_of_getElem? (i := 669) (by decide +kernel), List.mem_of_getElem? (i := 898) (by decide +kernel), List.mem_of_getElem? (i := 899) (by decide +kernel)⟩
def lw_privs_3 : List (MethodName × Nat) := [(⟨"RealTextModel", "nearest", "(Z)J"⟩, 26), (⟨"RealTextModel", "compare", "(JI)I"⟩, 26), (⟨"RealTextModel", "times", "([IIJ[I)I"⟩, 26), (⟨"RealTextModel", "above", "(JZ)I"⟩, 26), (⟨"RealTextModel", "layWord", "(JI)V"⟩, 26), (⟨"RealTextModel", "lay", "(I)V"⟩, 26), (⟨"RealTextModel", "layDecimal", "(JZ)V"⟩, 26), (⟨"RealTextModel", "shortest", "(JZ)J"⟩, 26), (⟨"RealTextModel", "tens", "(JI)I"⟩, 26), (⟨"RealTextModel", "scale", "(I)V"⟩, 26), (⟨"RealTextModel", "compareDigits", "(JJI)I"⟩, 26), (⟨"RealTextModel", "most", "(JIJ)J"⟩, 26), (⟨"RealTextModel", "isRead", "(JJZ)Z"⟩, 26), (⟨"RealTextModel", "layDigits", "(JIII)V"⟩, 26), (⟨"RealTextModel", "layNumber", "(I)V"⟩, 26)]
theorem lw_r3 : ∀ q ∈ lw_privs_3, lw_okq q := List.forall_mem_cons.mpr ⟨lw_p32, List.forall_mem_cons.mpr ⟨lw_p33, List.forall_mem_cons.mpr ⟨lw_p34, List.forall_mem_cons.mpr ⟨lw_p35, List.forall_mem_cons.mpr ⟨lw_p36, List.forall_mem_cons.mpr ⟨lw_p37, List.forall_mem_cons.mpr ⟨lw_p38, List.forall_mem_cons.mpr ⟨lw_p39, List.forall_mem_cons.mpr ⟨lw_p40, List.forall_mem_cons.mpr ⟨lw_p41, List.forall_mem_cons.mpr ⟨lw_p42, List.forall_mem_cons.mpr ⟨lw_p43, List.forall_mem_cons.mpr ⟨lw_p44, List.forall_mem_cons.mpr ⟨lw_p45, List.forall_mem_cons.mpr ⟨lw_p46, fun _ h => absurd h List.not_mem_nil⟩⟩⟩⟩⟩⟩⟩⟩⟩⟩⟩⟩⟩⟩⟩
def lw_privs : List (MethodName × Nat) := lw_privs_1 ++ (lw_privs_2 ++ (lw_privs_3))
def lw_tbl : List Cond := k2_sels lw_privs ++ tables_1
theorem lw_privs_ok : ∀ q ∈ lw_privs, lw_okq q := by
  show ∀ q ∈ lw_privs_1 ++ (lw_privs_2 ++ (lw_privs_3)), lw_okq q
  exact List.forall_mem_append.mpr ⟨lw_r1, List.forall_mem_append.mpr ⟨lw_r2, lw_r3⟩⟩
end
section
/-! the words: all of the tables that bear warming; by place -/
def zw : List Cond := lw_tbl.filter goodWord
theorem zw_t {w : Cond} (h : w ∈ tables_1) (hg : goodWord w = true) : w ∈ zw := List.mem_filter.mpr ⟨List.mem_append_right _ h, hg⟩
theorem zw_s {w : Cond} (h : w ∈ k2_sels lw_privs) (hg : goodWord w = true) : w ∈ zw := List.mem_filter.mpr ⟨List.mem_append_left _ h, hg⟩
theorem zw_1 {w : Cond} (h : w ∈ tables_1_1) (hg : goodWord w = true) : w ∈ zw := zw_t (List.mem_append_left _ h) hg
theorem zw_2 {w : Cond} (h : w ∈ tables_1_2) (hg : goodWord w = true) : w ∈ zw := zw_t (List.mem_append_right _ (List.mem_append_left _ h)) hg
theorem zw_3 {w : Cond} (h : w ∈ tables_1_3) (hg : goodWord w = true) : w ∈ zw := zw_t (List.mem_append_right _ (List.mem_append_right _ (List.mem_append_left _ h))) hg
theorem zw_4 {w : Cond} (h : w ∈ tables_1_4) (hg : goodWord w = true) : w ∈ zw := zw_t (List.mem_append_right _ (List.mem_append_right _ (List.mem_append_right _ h))) hg
abbrev y_RT_init : MethodName := ⟨"RealText", "<init>", "()V"⟩
abbrev y_Obj_init : MethodName := ⟨"java/lang/Object", "<init>", "()V"⟩
abbrev y_Row_init : MethodName := ⟨"RealText$Row", "<init>", "(I)V"⟩
abbrev y_Lit_init : MethodName := ⟨"RealText$Literal", "<init>", "()V"⟩
abbrev y_Quo_init : MethodName := ⟨"RealText$Quotient", "<init>", "()V"⟩
abbrev y_Big_init : MethodName := ⟨"RealText$Big", "<init>", "(I)V"⟩
abbrev y_Sho_init : MethodName := ⟨"RealText$Shortest", "<init>", "()V"⟩
abbrev y_Dec_init : MethodName := ⟨"RealText$Decimal", "<init>", "()V"⟩
abbrev y_RT_write : MethodName := ⟨"RealText", "write", "(JZ)I"⟩
abbrev y_Fmt_magnitudeMask : MethodName := ⟨"RealText$Format", "magnitudeMask", "()J"⟩
abbrev y_Fmt_infinity : MethodName := ⟨"RealText$Format", "infinity", "()J"⟩
abbrev y_Fmt_fractionMask : MethodName := ⟨"RealText$Format", "fractionMask", "()J"⟩
abbrev y_Fmt_hiddenBit : MethodName := ⟨"RealText$Format", "hiddenBit", "()J"⟩
abbrev y_Row_clear : MethodName := ⟨"RealText$Row", "clear", "()V"⟩
abbrev y_Row_putAll : MethodName := ⟨"RealText$Row", "putAll", "(Ljava/lang/String;)V"⟩
abbrev y_Str_length : MethodName := ⟨"java/lang/String", "length", "()I"⟩
abbrev y_Str_coder : MethodName := ⟨"java/lang/String", "coder", "()B"⟩
abbrev y_Str_charAt : MethodName := ⟨"java/lang/String", "charAt", "(I)C"⟩
abbrev y_Str_isLatin1 : MethodName := ⟨"java/lang/String", "isLatin1", "()Z"⟩
abbrev y_Lat_charAt : MethodName := ⟨"java/lang/StringLatin1", "charAt", "([BI)C"⟩
abbrev y_Str_checkIndex : MethodName := ⟨"java/lang/String", "checkIndex", "(II)V"⟩
abbrev y_Preconditions_checkIndex : MethodName := ⟨"jdk/internal/util/Preconditions", "checkIndex", "(IILjava/util/function/BiFunction;)I"⟩
abbrev y_U16_charAt : MethodName := ⟨"java/lang/StringUTF16", "charAt", "([BI)C"⟩
abbrev y_U16_checkIndex : MethodName := ⟨"java/lang/StringUTF16", "checkIndex", "(I[B)V"⟩
abbrev y_U16_length : MethodName := ⟨"java/lang/StringUTF16", "length", "([B)I"⟩
abbrev y_U16_getChar : MethodName := ⟨"java/lang/StringUTF16", "getChar", "([BI)C"⟩
abbrev y_Row_put : MethodName := ⟨"RealText$Row", "put", "(C)V"⟩
abbrev y_Row_length : MethodName := ⟨"RealText$Row", "length", "()I"⟩
abbrev y_Fmt_signMask : MethodName := ⟨"RealText$Format", "signMask", "()J"⟩
abbrev y_Sho_find : MethodName := ⟨"RealText$Shortest", "find", "(JLRealText$Format;)V"⟩
abbrev y_Fmt_significandOf : MethodName := ⟨"RealText$Format", "significandOf", "(J)J"⟩
abbrev y_Fmt_exponentOf : MethodName := ⟨"RealText$Format", "exponentOf", "(J)I"⟩
abbrev y_Fmt_isNarrowBelow : MethodName := ⟨"RealText$Format", "isNarrowBelow", "(J)Z"⟩
abbrev y_Fmt_powerOf : MethodName := ⟨"RealText$Format", "powerOf", "(J)I"⟩
abbrev y_Mat_max : MethodName := ⟨"java/lang/Math", "max", "(II)I"⟩
abbrev y_Sho_start : MethodName := ⟨"RealText$Shortest", "start", "(JI)V"⟩
abbrev y_Big_set : MethodName := ⟨"RealText$Big", "set", "(J)V"⟩
abbrev y_Big_addLimb : MethodName := ⟨"RealText$Big", "addLimb", "(J)V"⟩
abbrev y_Big_trim : MethodName := ⟨"RealText$Big", "trim", "()V"⟩
abbrev y_Big_shiftLeft : MethodName := ⟨"RealText$Big", "shiftLeft", "(I)V"⟩
abbrev y_Big_limbAt : MethodName := ⟨"RealText$Big", "limbAt", "(I)J"⟩
abbrev y_Big_bitLength : MethodName := ⟨"RealText$Big", "bitLength", "()I"⟩
abbrev y_Mat_floorDiv : MethodName := ⟨"java/lang/Math", "floorDiv", "(II)I"⟩
abbrev y_Big_multiplyByTens : MethodName := ⟨"RealText$Big", "multiplyByTens", "(I)V"⟩
abbrev y_Big_multiplyByFives : MethodName := ⟨"RealText$Big", "multiplyByFives", "(I)V"⟩
abbrev y_Mat_min : MethodName := ⟨"java/lang/Math", "min", "(II)I"⟩
abbrev y_Big_multiplyAndAdd : MethodName := ⟨"RealText$Big", "multiplyAndAdd", "(II)V"⟩
abbrev y_Big_compare : MethodName := ⟨"RealText$Big", "compare", "(LRealText$Big;)I"⟩
abbrev y_Sho_nextDigit : MethodName := ⟨"RealText$Shortest", "nextDigit", "()I"⟩
abbrev y_Big_subtract : MethodName := ⟨"RealText$Big", "subtract", "(LRealText$Big;)V"⟩
abbrev y_Sho_isReadBelow : MethodName := ⟨"RealText$Shortest", "isReadBelow", "()Z"⟩
abbrev y_Sho_isReadAbove : MethodName := ⟨"RealText$Shortest", "isReadAbove", "()Z"⟩
abbrev y_Big_copy : MethodName := ⟨"RealText$Big", "copy", "(LRealText$Big;)V"⟩
abbrev y_Sys_arraycopy : MethodName := ⟨"java/lang/System", "arraycopy", "(Ljava/lang/Object;ILjava/lang/Object;II)V"⟩
abbrev y_Big_add : MethodName := ⟨"RealText$Big", "add", "(LRealText$Big;)V"⟩
abbrev y_Big_setLimb : MethodName := ⟨"RealText$Big", "setLimb", "(IJ)V"⟩
abbrev y_Sho_isNearerAbove : MethodName := ⟨"RealText$Shortest", "isNearerAbove", "()Z"⟩
abbrev y_Dec_set : MethodName := ⟨"RealText$Decimal", "set", "(JI)V"⟩
abbrev y_Dec_putOn : MethodName := ⟨"RealText$Decimal", "putOn", "(LRealText$Row;)V"⟩
abbrev y_Dec_putDigits : MethodName := ⟨"RealText$Decimal", "putDigits", "(LRealText$Row;II)V"⟩
abbrev y_Dec_digitAt : MethodName := ⟨"RealText$Decimal", "digitAt", "(I)I"⟩
abbrev y_Dec_putExponent : MethodName := ⟨"RealText$Decimal", "putExponent", "(LRealText$Row;I)V"⟩
abbrev y_Mat_abs : MethodName := ⟨"java/lang/Math", "abs", "(I)I"⟩
abbrev y_RT_take : MethodName := ⟨"RealText", "take", "()J"⟩
abbrev y_Row_takeFirst : MethodName := ⟨"RealText$Row", "takeFirst", "()C"⟩
abbrev y_Row_at : MethodName := ⟨"RealText$Row", "at", "(I)C"⟩
abbrev y_RT_back : MethodName := ⟨"RealText", "back", "()I"⟩
abbrev y_Law_text : MethodName := ⟨"RealTextLaw", "text", "(LRealText;J[J)I"⟩
abbrev y_RT_text : MethodName := ⟨"RealText", "text", "(J)I"⟩
abbrev y_RT_hasOnlyCharacters : MethodName := ⟨"RealText", "hasOnlyCharacters", "(J)Z"⟩
abbrev y_RT_byteAt : MethodName := ⟨"RealText", "byteAt", "(JI)I"⟩
abbrev y_RuntimeException_init_0 : MethodName := ⟨"java/lang/RuntimeException", "<init>", "()V"⟩
abbrev y_RuntimeException_init_1 : MethodName := ⟨"java/lang/RuntimeException", "<init>", "(Ljava/lang/String;)V"⟩
abbrev y_Exception_init_0 : MethodName := ⟨"java/lang/Exception", "<init>", "()V"⟩
abbrev y_Exception_init_1 : MethodName := ⟨"java/lang/Exception", "<init>", "(Ljava/lang/String;)V"⟩
abbrev y_Thr_init_0 : MethodName := ⟨"java/lang/Throwable", "<init>", "()V"⟩
abbrev y_Thr_init_1 : MethodName := ⟨"java/lang/Throwable", "<init>", "(Ljava/lang/String;)V"⟩
abbrev y_Thr_fillInStackTrace_0 : MethodName := ⟨"java/lang/Throwable", "fillInStackTrace", "(I)Ljava/lang/Throwable;"⟩
abbrev y_Thr_fillInStackTrace_1 : MethodName := ⟨"java/lang/Throwable", "fillInStackTrace", "()Ljava/lang/Throwable;"⟩
abbrev y_IllegalArgumentException_init : MethodName := ⟨"java/lang/IllegalArgumentException", "<init>", "()V"⟩
abbrev y_RT_charactersIn : MethodName := ⟨"RealText", "charactersIn", "(J)I"⟩
abbrev y_IllegalStateException_init : MethodName := ⟨"java/lang/IllegalStateException", "<init>", "()V"⟩
abbrev y_Law_read : MethodName := ⟨"RealTextLaw", "read", "(LRealText;Z[J)I"⟩
abbrev y_RT_read : MethodName := ⟨"RealText", "read", "(Z)J"⟩
abbrev y_RT_bitsOfText : MethodName := ⟨"RealText", "bitsOfText", "(LRealText$Format;)J"⟩
abbrev y_Lit_scan : MethodName := ⟨"RealText$Literal", "scan", "(LRealText$Row;)Z"⟩
abbrev y_Lit_isEither : MethodName := ⟨"RealText$Literal", "isEither", "(CCC)Z"⟩
abbrev y_Lit_endOfDigits : MethodName := ⟨"RealText$Literal", "endOfDigits", "(LRealText$Row;II)I"⟩
abbrev y_Lit_digitOf : MethodName := ⟨"RealText$Literal", "digitOf", "(CI)I"⟩
abbrev y_Lit_addDigits : MethodName := ⟨"RealText$Literal", "addDigits", "(LRealText$Row;III)I"⟩
abbrev y_Lit_addDigit : MethodName := ⟨"RealText$Literal", "addDigit", "(I)V"⟩
abbrev y_Lit_dropZerosBehind : MethodName := ⟨"RealText$Literal", "dropZerosBehind", "()V"⟩
abbrev y_Lit_scanExponent : MethodName := ⟨"RealText$Literal", "scanExponent", "(LRealText$Row;I)Z"⟩
abbrev y_Lit_exponentIn : MethodName := ⟨"RealText$Literal", "exponentIn", "(LRealText$Row;II)I"⟩
abbrev y_RT_bitsOfHex : MethodName := ⟨"RealText", "bitsOfHex", "(LRealText$Format;)J"⟩
abbrev y_Fmt_nearest : MethodName := ⟨"RealText$Format", "nearest", "(JIZ)J"⟩
abbrev y_Fmt_rounded : MethodName := ⟨"RealText$Format", "rounded", "(JIZ)J"⟩
abbrev y_Fmt_join : MethodName := ⟨"RealText$Format", "join", "(JI)J"⟩
abbrev y_RT_bitsOfDecimal : MethodName := ⟨"RealText", "bitsOfDecimal", "(LRealText$Format;)J"⟩
abbrev y_Quo_divide : MethodName := ⟨"RealText$Quotient", "divide", "(LRealText$Literal;I)V"⟩
abbrev y_Quo_setNumerator : MethodName := ⟨"RealText$Quotient", "setNumerator", "(LRealText$Literal;)V"⟩
abbrev y_Quo_divideBits : MethodName := ⟨"RealText$Quotient", "divideBits", "()V"⟩
abbrev y_Big_isZero : MethodName := ⟨"RealText$Big", "isZero", "()Z"⟩
abbrev y_ArithmeticException_init : MethodName := ⟨"java/lang/ArithmeticException", "<init>", "()V"⟩
abbrev y_Law_count : MethodName := ⟨"RealTextLaw", "count", "(LRealText;I[J)I"⟩
abbrev y_RT_count : MethodName := ⟨"RealText", "count", "(I)I"⟩
abbrev y_Mod_init : MethodName := ⟨"RealTextModel", "<init>", "()V"⟩
abbrev y_Mod_thrown : MethodName := ⟨"RealTextModel", "thrown", "()I"⟩
abbrev y_Mod_text : MethodName := ⟨"RealTextModel", "text", "(J)I"⟩
abbrev y_Mod_in : MethodName := ⟨"RealTextModel", "in", "(III)Z"⟩
abbrev y_Mod_fail : MethodName := ⟨"RealTextModel", "fail", "(I)I"⟩
abbrev y_Mod_read : MethodName := ⟨"RealTextModel", "read", "(Z)J"⟩
abbrev y_Mod_isBinary : MethodName := ⟨"RealTextModel", "isBinary", "()Z"⟩
abbrev y_Mod_literal : MethodName := ⟨"RealTextModel", "literal", "(Z)Z"⟩
abbrev y_Mod_row : MethodName := ⟨"RealTextModel", "row", "(Z)I"⟩
abbrev y_Mod_look : MethodName := ⟨"RealTextModel", "look", "()I"⟩
abbrev y_Mod_digit : MethodName := ⟨"RealTextModel", "digit", "(IZ)I"⟩
abbrev y_Mod_grow : MethodName := ⟨"RealTextModel", "grow", "([IIII)I"⟩
abbrev y_Mod_trimmed : MethodName := ⟨"RealTextModel", "trimmed", "([II)I"⟩
abbrev y_Mod_exponentRow : MethodName := ⟨"RealTextModel", "exponentRow", "()V"⟩
abbrev y_Mod_greatest : MethodName := ⟨"RealTextModel", "greatest", "(Z)J"⟩
abbrev y_Mod_found : MethodName := ⟨"RealTextModel", "found", "(ZZ)J"⟩
abbrev y_Mod_set : MethodName := ⟨"RealTextModel", "set", "([IJ)I"⟩
abbrev y_Mod_fives : MethodName := ⟨"RealTextModel", "fives", "([III)I"⟩
abbrev y_Mod_nearest : MethodName := ⟨"RealTextModel", "nearest", "(Z)J"⟩
abbrev y_Mod_mantissa : MethodName := ⟨"RealTextModel", "mantissa", "(JZ)J"⟩
abbrev y_Mod_exponent : MethodName := ⟨"RealTextModel", "exponent", "(JZ)I"⟩
abbrev y_Mod_compare : MethodName := ⟨"RealTextModel", "compare", "(JI)I"⟩
abbrev y_Mod_shifted : MethodName := ⟨"RealTextModel", "shifted", "([III)I"⟩
abbrev y_Mod_times : MethodName := ⟨"RealTextModel", "times", "([IIJ[I)I"⟩
abbrev y_Mod_above : MethodName := ⟨"RealTextModel", "above", "(JZ)I"⟩
abbrev y_Mod_write : MethodName := ⟨"RealTextModel", "write", "(JZ)I"⟩
abbrev y_Mod_layWord : MethodName := ⟨"RealTextModel", "layWord", "(JI)V"⟩
abbrev y_Mod_lay : MethodName := ⟨"RealTextModel", "lay", "(I)V"⟩
abbrev y_Mod_layDecimal : MethodName := ⟨"RealTextModel", "layDecimal", "(JZ)V"⟩
abbrev y_Mod_shortest : MethodName := ⟨"RealTextModel", "shortest", "(JZ)J"⟩
abbrev y_Mod_tens : MethodName := ⟨"RealTextModel", "tens", "(JI)I"⟩
abbrev y_Mod_scale : MethodName := ⟨"RealTextModel", "scale", "(I)V"⟩
abbrev y_Mod_compareDigits : MethodName := ⟨"RealTextModel", "compareDigits", "(JJI)I"⟩
abbrev y_Mod_most : MethodName := ⟨"RealTextModel", "most", "(JIJ)J"⟩
abbrev y_Mod_isRead : MethodName := ⟨"RealTextModel", "isRead", "(JJZ)Z"⟩
abbrev y_Mod_layDigits : MethodName := ⟨"RealTextModel", "layDigits", "(JIII)V"⟩
abbrev y_Mod_layNumber : MethodName := ⟨"RealTextModel", "layNumber", "(I)V"⟩
abbrev y_Mod_take : MethodName := ⟨"RealTextModel", "take", "()J"⟩
abbrev y_Mod_back : MethodName := ⟨"RealTextModel", "back", "()I"⟩
abbrev y_Mod_count : MethodName := ⟨"RealTextModel", "count", "(I)I"⟩
theorem wd_0 : Cond.initialized "RealTextLaw" ∈ zw := zw_1 (List.mem_of_getElem? (i := 0) rfl) rfl
theorem wd_1 : Cond.initialized "RealText" ∈ zw := zw_1 (List.mem_of_getElem? (i := 1) rfl) rfl
theorem wd_2 : Cond.initialized "RealText$Row" ∈ zw := zw_1 (List.mem_of_getElem? (i := 2) rfl) rfl
theorem wd_3 : Cond.initialized "RealText$Literal" ∈ zw := zw_1 (List.mem_of_getElem? (i := 3) rfl) rfl
theorem wd_4 : Cond.initialized "RealText$Quotient" ∈ zw := zw_1 (List.mem_of_getElem? (i := 4) rfl) rfl
theorem wd_5 : Cond.initialized "RealText$Big" ∈ zw := zw_1 (List.mem_of_getElem? (i := 5) rfl) rfl
theorem wd_6 : Cond.initialized "RealText$Shortest" ∈ zw := zw_1 (List.mem_of_getElem? (i := 6) rfl) rfl
theorem wd_7 : Cond.initialized "RealText$Decimal" ∈ zw := zw_1 (List.mem_of_getElem? (i := 7) rfl) rfl
theorem wd_8 : Cond.initialized "RealTextModel" ∈ zw := zw_1 (List.mem_of_getElem? (i := 8) rfl) rfl
theorem wd_9 : Cond.initialized "java/lang/Throwable" ∈ zw := zw_1 (List.mem_of_getElem? (i := 9) rfl) rfl
theorem wd_10 : Cond.initialized "java/lang/Exception" ∈ zw := zw_1 (List.mem_of_getElem? (i := 10) rfl) rfl
theorem wd_11 : Cond.initialized "java/lang/RuntimeException" ∈ zw := zw_1 (List.mem_of_getElem? (i := 11) rfl) rfl
theorem wd_12 : Cond.initialized "java/lang/IllegalArgumentException" ∈ zw := zw_1 (List.mem_of_getElem? (i := 12) rfl) rfl
theorem wd_13 : Cond.initialized "java/lang/IllegalStateException" ∈ zw := zw_1 (List.mem_of_getElem? (i := 13) rfl) rfl
theorem wd_14 : Cond.initialized "java/lang/Enum" ∈ zw := zw_1 (List.mem_of_getElem? (i := 14) rfl) rfl
theorem wd_15 : Cond.initialized "RealText$Format" ∈ zw := zw_1 (List.mem_of_getElem? (i := 15) rfl) rfl
theorem wd_16 : Cond.initialized "java/lang/Math" ∈ zw := zw_1 (List.mem_of_getElem? (i := 16) rfl) rfl
theorem wd_17 : Cond.initialized "java/lang/ArithmeticException" ∈ zw := zw_1 (List.mem_of_getElem? (i := 17) rfl) rfl
theorem wd_18 : Cond.initialized "java/lang/String" ∈ zw := zw_1 (List.mem_of_getElem? (i := 18) rfl) rfl
theorem wd_19 : Cond.initialized "java/lang/StringLatin1" ∈ zw := zw_1 (List.mem_of_getElem? (i := 19) rfl) rfl
theorem wd_20 : Cond.initialized "jdk/internal/util/Preconditions" ∈ zw := zw_1 (List.mem_of_getElem? (i := 20) rfl) rfl
theorem wd_21 : Cond.initialized "java/lang/StringUTF16" ∈ zw := zw_1 (List.mem_of_getElem? (i := 21) rfl) rfl
theorem wd_22 : Cond.initialized "java/lang/System" ∈ zw := zw_1 (List.mem_of_getElem? (i := 22) rfl) rfl
theorem wd_23 : Cond.classLink "RealTextLaw" 8 "RealText" ∈ zw := zw_1 (List.mem_of_getElem? (i := 23) rfl) rfl
theorem wd_24 : Cond.instantiable "RealText" 9 ∈ zw := zw_1 (List.mem_of_getElem? (i := 24) rfl) rfl
theorem wd_25 : Cond.methodLink "RealTextLaw" 27 y_RT_init ∈ zw := zw_1 (List.mem_of_getElem? (i := 25) rfl) rfl
theorem wd_26 : Cond.instanceMethod y_RT_init ∈ zw := zw_1 (List.mem_of_getElem? (i := 26) rfl) rfl
theorem wd_27 : Cond.code y_RT_init prog_1_method_1_code 1 none ∈ zw := zw_1 (List.mem_of_getElem? (i := 27) rfl) rfl
theorem wd_28 : Cond.methodLink "RealText" 1 y_Obj_init ∈ zw := zw_1 (List.mem_of_getElem? (i := 28) rfl) rfl
theorem wd_29 : Cond.instanceMethod y_Obj_init ∈ zw := zw_1 (List.mem_of_getElem? (i := 29) rfl) rfl
theorem wd_30 : Cond.code y_Obj_init object_method_1_code 1 none ∈ zw := zw_1 (List.mem_of_getElem? (i := 30) rfl) rfl
theorem wd_31 : Cond.classLink "RealText" 7 "RealText$Row" ∈ zw := zw_1 (List.mem_of_getElem? (i := 31) rfl) rfl
theorem wd_32 : Cond.instantiable "RealText$Row" 3 ∈ zw := zw_1 (List.mem_of_getElem? (i := 32) rfl) rfl
theorem wd_33 : Cond.methodLink "RealText" 11 y_Row_init ∈ zw := zw_1 (List.mem_of_getElem? (i := 33) rfl) rfl
theorem wd_34 : Cond.instanceMethod y_Row_init ∈ zw := zw_1 (List.mem_of_getElem? (i := 34) rfl) rfl
theorem wd_35 : Cond.code y_Row_init prog_7_method_1_code 2 none ∈ zw := zw_1 (List.mem_of_getElem? (i := 35) rfl) rfl
theorem wd_36 : Cond.methodLink "RealText$Row" 1 y_Obj_init ∈ zw := zw_1 (List.mem_of_getElem? (i := 36) rfl) rfl
theorem wd_37 : Cond.fieldLink "RealText$Row" 7 "RealText$Row" "letters" "[C" ∈ zw := zw_1 (List.mem_of_getElem? (i := 37) rfl) rfl
theorem wd_38 : Cond.fieldLink "RealText$Row" 17 "RealText$Row" "start" "I" ∈ zw := zw_1 (List.mem_of_getElem? (i := 38) rfl) rfl
theorem wd_39 : Cond.fieldLink "RealText$Row" 13 "RealText$Row" "end" "I" ∈ zw := zw_1 (List.mem_of_getElem? (i := 39) rfl) rfl
theorem wd_40 : Cond.laysFinal "RealText$Row" "RealText$Row" "letters" "[C" ∈ zw := zw_1 (List.mem_of_getElem? (i := 40) rfl) rfl
theorem wd_42 : Cond.lays "RealText$Row" "RealText$Row" "start" "I" ∈ zw := zw_1 (List.mem_of_getElem? (i := 42) rfl) rfl
theorem wd_44 : Cond.lays "RealText$Row" "RealText$Row" "end" "I" ∈ zw := zw_1 (List.mem_of_getElem? (i := 44) rfl) rfl
theorem wd_47 : Cond.arrayClass .char ∈ zw := zw_1 (List.mem_of_getElem? (i := 47) rfl) rfl
theorem wd_48 : Cond.classLink "RealText" 21 "RealText$Literal" ∈ zw := zw_1 (List.mem_of_getElem? (i := 48) rfl) rfl
theorem wd_49 : Cond.instantiable "RealText$Literal" 5 ∈ zw := zw_1 (List.mem_of_getElem? (i := 49) rfl) rfl
theorem wd_51 : Cond.instanceMethod y_Lit_init ∈ zw := zw_1 (List.mem_of_getElem? (i := 51) rfl) rfl
theorem wd_52 : Cond.code y_Lit_init prog_5_method_1_code 1 none ∈ zw := zw_1 (List.mem_of_getElem? (i := 52) rfl) rfl
theorem wd_53 : Cond.methodLink "RealText$Literal" 3 y_Obj_init ∈ zw := zw_1 (List.mem_of_getElem? (i := 53) rfl) rfl
theorem wd_54 : Cond.fieldLink "RealText$Literal" 9 "RealText$Literal" "digits" "[B" ∈ zw := zw_1 (List.mem_of_getElem? (i := 54) rfl) rfl
theorem wd_55 : Cond.fieldLink "RealText$Quotient" 61 "RealText$Literal" "digits" "[B" ∈ zw := zw_1 (List.mem_of_getElem? (i := 55) rfl) rfl
theorem wd_56 : Cond.fieldLink "RealText" 178 "RealText$Literal" "digits" "[B" ∈ zw := zw_1 (List.mem_of_getElem? (i := 56) rfl) rfl
theorem wd_57 : Cond.fieldLink "RealText$Literal" 33 "RealText$Literal" "digitCount" "I" ∈ zw := zw_1 (List.mem_of_getElem? (i := 57) rfl) rfl
theorem wd_58 : Cond.fieldLink "RealText$Quotient" 56 "RealText$Literal" "digitCount" "I" ∈ zw := zw_1 (List.mem_of_getElem? (i := 58) rfl) rfl
theorem wd_59 : Cond.fieldLink "RealText" 159 "RealText$Literal" "digitCount" "I" ∈ zw := zw_1 (List.mem_of_getElem? (i := 59) rfl) rfl
theorem wd_60 : Cond.fieldLink "RealText$Literal" 41 "RealText$Literal" "fraction" "I" ∈ zw := zw_1 (List.mem_of_getElem? (i := 60) rfl) rfl
theorem wd_61 : Cond.fieldLink "RealText" 175 "RealText$Literal" "fraction" "I" ∈ zw := zw_1 (List.mem_of_getElem? (i := 61) rfl) rfl
theorem wd_62 : Cond.fieldLink "RealText$Literal" 51 "RealText$Literal" "exponent" "I" ∈ zw := zw_1 (List.mem_of_getElem? (i := 62) rfl) rfl
theorem wd_63 : Cond.fieldLink "RealText" 172 "RealText$Literal" "exponent" "I" ∈ zw := zw_1 (List.mem_of_getElem? (i := 63) rfl) rfl
theorem wd_64 : Cond.fieldLink "RealText$Literal" 25 "RealText$Literal" "isHex" "Z" ∈ zw := zw_1 (List.mem_of_getElem? (i := 64) rfl) rfl
theorem wd_65 : Cond.fieldLink "RealText" 162 "RealText$Literal" "isHex" "Z" ∈ zw := zw_1 (List.mem_of_getElem? (i := 65) rfl) rfl
theorem wd_66 : Cond.laysFinal "RealText$Literal" "RealText$Literal" "digits" "[B" ∈ zw := zw_1 (List.mem_of_getElem? (i := 66) rfl) rfl
theorem wd_68 : Cond.lays "RealText$Literal" "RealText$Literal" "digitCount" "I" ∈ zw := zw_1 (List.mem_of_getElem? (i := 68) rfl) rfl
theorem wd_70 : Cond.lays "RealText$Literal" "RealText$Literal" "fraction" "I" ∈ zw := zw_1 (List.mem_of_getElem? (i := 70) rfl) rfl
theorem wd_72 : Cond.lays "RealText$Literal" "RealText$Literal" "exponent" "I" ∈ zw := zw_1 (List.mem_of_getElem? (i := 72) rfl) rfl
theorem wd_74 : Cond.lays "RealText$Literal" "RealText$Literal" "isHex" "Z" ∈ zw := zw_1 (List.mem_of_getElem? (i := 74) rfl) rfl
theorem wd_77 : Cond.arrayClass .byte ∈ zw := zw_1 (List.mem_of_getElem? (i := 77) rfl) rfl
theorem wd_78 : Cond.classLink "RealText" 28 "RealText$Quotient" ∈ zw := zw_1 (List.mem_of_getElem? (i := 78) rfl) rfl
theorem wd_79 : Cond.instantiable "RealText$Quotient" 5 ∈ zw := zw_1 (List.mem_of_getElem? (i := 79) rfl) rfl
theorem wd_81 : Cond.instanceMethod y_Quo_init ∈ zw := zw_1 (List.mem_of_getElem? (i := 81) rfl) rfl
theorem wd_82 : Cond.code y_Quo_init prog_6_method_1_code 1 none ∈ zw := zw_1 (List.mem_of_getElem? (i := 82) rfl) rfl
theorem wd_83 : Cond.methodLink "RealText$Quotient" 1 y_Obj_init ∈ zw := zw_1 (List.mem_of_getElem? (i := 83) rfl) rfl
theorem wd_84 : Cond.classLink "RealText$Quotient" 7 "RealText$Big" ∈ zw := zw_1 (List.mem_of_getElem? (i := 84) rfl) rfl
theorem wd_85 : Cond.instantiable "RealText$Big" 2 ∈ zw := zw_1 (List.mem_of_getElem? (i := 85) rfl) rfl
theorem wd_86 : Cond.methodLink "RealText$Quotient" 11 y_Big_init ∈ zw := zw_1 (List.mem_of_getElem? (i := 86) rfl) rfl
theorem wd_87 : Cond.instanceMethod y_Big_init ∈ zw := zw_1 (List.mem_of_getElem? (i := 87) rfl) rfl
theorem wd_88 : Cond.code y_Big_init prog_2_method_1_code 2 none ∈ zw := zw_1 (List.mem_of_getElem? (i := 88) rfl) rfl
theorem wd_89 : Cond.methodLink "RealText$Big" 1 y_Obj_init ∈ zw := zw_1 (List.mem_of_getElem? (i := 89) rfl) rfl
theorem wd_90 : Cond.fieldLink "RealText$Big" 7 "RealText$Big" "limbs" "[I" ∈ zw := zw_1 (List.mem_of_getElem? (i := 90) rfl) rfl
theorem wd_91 : Cond.fieldLink "RealText$Big" 13 "RealText$Big" "size" "I" ∈ zw := zw_1 (List.mem_of_getElem? (i := 91) rfl) rfl
theorem wd_92 : Cond.laysFinal "RealText$Big" "RealText$Big" "limbs" "[I" ∈ zw := zw_1 (List.mem_of_getElem? (i := 92) rfl) rfl
theorem wd_94 : Cond.lays "RealText$Big" "RealText$Big" "size" "I" ∈ zw := zw_1 (List.mem_of_getElem? (i := 94) rfl) rfl
theorem wd_97 : Cond.arrayClass .int ∈ zw := zw_1 (List.mem_of_getElem? (i := 97) rfl) rfl
theorem wd_98 : Cond.fieldLink "RealText$Quotient" 14 "RealText$Quotient" "numerator" "LRealText$Big;" ∈ zw := zw_1 (List.mem_of_getElem? (i := 98) rfl) rfl
theorem wd_99 : Cond.fieldLink "RealText$Quotient" 18 "RealText$Quotient" "denominator" "LRealText$Big;" ∈ zw := zw_1 (List.mem_of_getElem? (i := 99) rfl) rfl
theorem wd_100 : Cond.fieldLink "RealText$Quotient" 69 "RealText$Quotient" "lead" "J" ∈ zw := zw_1 (List.mem_of_getElem? (i := 100) rfl) rfl
theorem wd_101 : Cond.fieldLink "RealText" 190 "RealText$Quotient" "lead" "J" ∈ zw := zw_1 (List.mem_of_getElem? (i := 101) rfl) rfl
theorem wd_102 : Cond.fieldLink "RealText$Quotient" 44 "RealText$Quotient" "power" "I" ∈ zw := zw_1 (List.mem_of_getElem? (i := 102) rfl) rfl
theorem wd_103 : Cond.fieldLink "RealText" 193 "RealText$Quotient" "power" "I" ∈ zw := zw_1 (List.mem_of_getElem? (i := 103) rfl) rfl
theorem wd_104 : Cond.fieldLink "RealText$Quotient" 52 "RealText$Quotient" "more" "Z" ∈ zw := zw_1 (List.mem_of_getElem? (i := 104) rfl) rfl
theorem wd_105 : Cond.fieldLink "RealText" 194 "RealText$Quotient" "more" "Z" ∈ zw := zw_1 (List.mem_of_getElem? (i := 105) rfl) rfl
theorem wd_106 : Cond.laysFinal "RealText$Quotient" "RealText$Quotient" "numerator" "LRealText$Big;" ∈ zw := zw_1 (List.mem_of_getElem? (i := 106) rfl) rfl
theorem wd_108 : Cond.laysFinal "RealText$Quotient" "RealText$Quotient" "denominator" "LRealText$Big;" ∈ zw := zw_1 (List.mem_of_getElem? (i := 108) rfl) rfl
theorem wd_110 : Cond.lays "RealText$Quotient" "RealText$Quotient" "lead" "J" ∈ zw := zw_1 (List.mem_of_getElem? (i := 110) rfl) rfl
theorem wd_112 : Cond.lays "RealText$Quotient" "RealText$Quotient" "power" "I" ∈ zw := zw_1 (List.mem_of_getElem? (i := 112) rfl) rfl
theorem wd_114 : Cond.lays "RealText$Quotient" "RealText$Quotient" "more" "Z" ∈ zw := zw_1 (List.mem_of_getElem? (i := 114) rfl) rfl
theorem wd_117 : Cond.classLink "RealText" 35 "RealText$Shortest" ∈ zw := zw_1 (List.mem_of_getElem? (i := 117) rfl) rfl
theorem wd_118 : Cond.instantiable "RealText$Shortest" 8 ∈ zw := zw_1 (List.mem_of_getElem? (i := 118) rfl) rfl
theorem wd_120 : Cond.instanceMethod y_Sho_init ∈ zw := zw_1 (List.mem_of_getElem? (i := 120) rfl) rfl
theorem wd_121 : Cond.code y_Sho_init prog_8_method_1_code 1 none ∈ zw := zw_1 (List.mem_of_getElem? (i := 121) rfl) rfl
theorem wd_122 : Cond.methodLink "RealText$Shortest" 1 y_Obj_init ∈ zw := zw_1 (List.mem_of_getElem? (i := 122) rfl) rfl
theorem wd_123 : Cond.classLink "RealText$Shortest" 7 "RealText$Big" ∈ zw := zw_1 (List.mem_of_getElem? (i := 123) rfl) rfl
theorem wd_124 : Cond.methodLink "RealText$Shortest" 11 y_Big_init ∈ zw := zw_1 (List.mem_of_getElem? (i := 124) rfl) rfl
theorem wd_125 : Cond.fieldLink "RealText$Shortest" 14 "RealText$Shortest" "rest" "LRealText$Big;" ∈ zw := zw_1 (List.mem_of_getElem? (i := 125) rfl) rfl
theorem wd_126 : Cond.fieldLink "RealText$Shortest" 18 "RealText$Shortest" "unit" "LRealText$Big;" ∈ zw := zw_1 (List.mem_of_getElem? (i := 126) rfl) rfl
theorem wd_127 : Cond.fieldLink "RealText$Shortest" 21 "RealText$Shortest" "halfGap" "LRealText$Big;" ∈ zw := zw_1 (List.mem_of_getElem? (i := 127) rfl) rfl
theorem wd_128 : Cond.fieldLink "RealText$Shortest" 24 "RealText$Shortest" "sum" "LRealText$Big;" ∈ zw := zw_1 (List.mem_of_getElem? (i := 128) rfl) rfl
theorem wd_129 : Cond.fieldLink "RealText$Shortest" 37 "RealText$Shortest" "isNarrowBelow" "Z" ∈ zw := zw_1 (List.mem_of_getElem? (i := 129) rfl) rfl
theorem wd_130 : Cond.fieldLink "RealText$Shortest" 40 "RealText$Shortest" "isEven" "Z" ∈ zw := zw_1 (List.mem_of_getElem? (i := 130) rfl) rfl
theorem wd_131 : Cond.fieldLink "RealText$Shortest" 51 "RealText$Shortest" "number" "J" ∈ zw := zw_1 (List.mem_of_getElem? (i := 131) rfl) rfl
theorem wd_132 : Cond.fieldLink "RealText" 132 "RealText$Shortest" "number" "J" ∈ zw := zw_1 (List.mem_of_getElem? (i := 132) rfl) rfl
theorem wd_133 : Cond.fieldLink "RealText$Shortest" 61 "RealText$Shortest" "power" "I" ∈ zw := zw_1 (List.mem_of_getElem? (i := 133) rfl) rfl
theorem wd_134 : Cond.fieldLink "RealText" 136 "RealText$Shortest" "power" "I" ∈ zw := zw_1 (List.mem_of_getElem? (i := 134) rfl) rfl
theorem wd_135 : Cond.laysFinal "RealText$Shortest" "RealText$Shortest" "rest" "LRealText$Big;" ∈ zw := zw_1 (List.mem_of_getElem? (i := 135) rfl) rfl
theorem wd_137 : Cond.laysFinal "RealText$Shortest" "RealText$Shortest" "unit" "LRealText$Big;" ∈ zw := zw_1 (List.mem_of_getElem? (i := 137) rfl) rfl
theorem wd_139 : Cond.laysFinal "RealText$Shortest" "RealText$Shortest" "halfGap" "LRealText$Big;" ∈ zw := zw_1 (List.mem_of_getElem? (i := 139) rfl) rfl
theorem wd_141 : Cond.laysFinal "RealText$Shortest" "RealText$Shortest" "sum" "LRealText$Big;" ∈ zw := zw_1 (List.mem_of_getElem? (i := 141) rfl) rfl
theorem wd_143 : Cond.lays "RealText$Shortest" "RealText$Shortest" "isNarrowBelow" "Z" ∈ zw := zw_1 (List.mem_of_getElem? (i := 143) rfl) rfl
theorem wd_145 : Cond.lays "RealText$Shortest" "RealText$Shortest" "isEven" "Z" ∈ zw := zw_1 (List.mem_of_getElem? (i := 145) rfl) rfl
theorem wd_147 : Cond.lays "RealText$Shortest" "RealText$Shortest" "number" "J" ∈ zw := zw_1 (List.mem_of_getElem? (i := 147) rfl) rfl
theorem wd_149 : Cond.lays "RealText$Shortest" "RealText$Shortest" "power" "I" ∈ zw := zw_1 (List.mem_of_getElem? (i := 149) rfl) rfl
theorem wd_152 : Cond.classLink "RealText" 42 "RealText$Decimal" ∈ zw := zw_1 (List.mem_of_getElem? (i := 152) rfl) rfl
theorem wd_153 : Cond.instantiable "RealText$Decimal" 3 ∈ zw := zw_1 (List.mem_of_getElem? (i := 153) rfl) rfl
theorem wd_155 : Cond.instanceMethod y_Dec_init ∈ zw := zw_1 (List.mem_of_getElem? (i := 155) rfl) rfl
theorem wd_156 : Cond.code y_Dec_init prog_3_method_1_code 1 none ∈ zw := zw_1 (List.mem_of_getElem? (i := 156) rfl) rfl
theorem wd_157 : Cond.methodLink "RealText$Decimal" 1 y_Obj_init ∈ zw := zw_1 (List.mem_of_getElem? (i := 157) rfl) rfl
theorem wd_158 : Cond.fieldLink "RealText$Decimal" 9 "RealText$Decimal" "reversed" "[B" ∈ zw := zw_1 (List.mem_of_getElem? (i := 158) rfl) rfl
theorem wd_159 : Cond.fieldLink "RealText$Decimal" 13 "RealText$Decimal" "digitCount" "I" ∈ zw := zw_1 (List.mem_of_getElem? (i := 159) rfl) rfl
theorem wd_160 : Cond.fieldLink "RealText$Decimal" 17 "RealText$Decimal" "point" "I" ∈ zw := zw_1 (List.mem_of_getElem? (i := 160) rfl) rfl
theorem wd_161 : Cond.laysFinal "RealText$Decimal" "RealText$Decimal" "reversed" "[B" ∈ zw := zw_1 (List.mem_of_getElem? (i := 161) rfl) rfl
theorem wd_163 : Cond.lays "RealText$Decimal" "RealText$Decimal" "digitCount" "I" ∈ zw := zw_1 (List.mem_of_getElem? (i := 163) rfl) rfl
theorem wd_165 : Cond.lays "RealText$Decimal" "RealText$Decimal" "point" "I" ∈ zw := zw_1 (List.mem_of_getElem? (i := 165) rfl) rfl
theorem wd_168 : Cond.fieldLink "RealText" 14 "RealText" "theText" "LRealText$Row;" ∈ zw := zw_1 (List.mem_of_getElem? (i := 168) rfl) rfl
theorem wd_169 : Cond.fieldLink "RealText" 18 "RealText" "written" "LRealText$Row;" ∈ zw := zw_1 (List.mem_of_getElem? (i := 169) rfl) rfl
theorem wd_170 : Cond.fieldLink "RealText" 24 "RealText" "literal" "LRealText$Literal;" ∈ zw := zw_1 (List.mem_of_getElem? (i := 170) rfl) rfl
theorem wd_171 : Cond.fieldLink "RealText" 31 "RealText" "quotient" "LRealText$Quotient;" ∈ zw := zw_1 (List.mem_of_getElem? (i := 171) rfl) rfl
theorem wd_172 : Cond.fieldLink "RealText" 38 "RealText" "shortest" "LRealText$Shortest;" ∈ zw := zw_1 (List.mem_of_getElem? (i := 172) rfl) rfl
theorem wd_173 : Cond.fieldLink "RealText" 45 "RealText" "decimal" "LRealText$Decimal;" ∈ zw := zw_1 (List.mem_of_getElem? (i := 173) rfl) rfl
theorem wd_174 : Cond.fieldLink "RealText" 105 "RealText" "readCount" "I" ∈ zw := zw_1 (List.mem_of_getElem? (i := 174) rfl) rfl
theorem wd_175 : Cond.fieldLink "RealText" 93 "RealText" "noLiteralCount" "I" ∈ zw := zw_1 (List.mem_of_getElem? (i := 175) rfl) rfl
theorem wd_176 : Cond.fieldLink "RealText" 99 "RealText" "outOfRangeCount" "I" ∈ zw := zw_1 (List.mem_of_getElem? (i := 176) rfl) rfl
theorem wd_177 : Cond.laysFinal "RealText" "RealText" "theText" "LRealText$Row;" ∈ zw := zw_1 (List.mem_of_getElem? (i := 177) rfl) rfl
theorem wd_179 : Cond.laysFinal "RealText" "RealText" "written" "LRealText$Row;" ∈ zw := zw_1 (List.mem_of_getElem? (i := 179) rfl) rfl
theorem wd_181 : Cond.laysFinal "RealText" "RealText" "literal" "LRealText$Literal;" ∈ zw := zw_1 (List.mem_of_getElem? (i := 181) rfl) rfl
theorem wd_183 : Cond.laysFinal "RealText" "RealText" "quotient" "LRealText$Quotient;" ∈ zw := zw_1 (List.mem_of_getElem? (i := 183) rfl) rfl
theorem wd_185 : Cond.laysFinal "RealText" "RealText" "shortest" "LRealText$Shortest;" ∈ zw := zw_1 (List.mem_of_getElem? (i := 185) rfl) rfl
theorem wd_187 : Cond.laysFinal "RealText" "RealText" "decimal" "LRealText$Decimal;" ∈ zw := zw_1 (List.mem_of_getElem? (i := 187) rfl) rfl
theorem wd_189 : Cond.lays "RealText" "RealText" "readCount" "I" ∈ zw := zw_1 (List.mem_of_getElem? (i := 189) rfl) rfl
theorem wd_191 : Cond.lays "RealText" "RealText" "noLiteralCount" "I" ∈ zw := zw_1 (List.mem_of_getElem? (i := 191) rfl) rfl
theorem wd_193 : Cond.lays "RealText" "RealText" "outOfRangeCount" "I" ∈ zw := zw_1 (List.mem_of_getElem? (i := 193) rfl) rfl
theorem wd_196 : Cond.methodLink "RealTextLaw" 47 y_RT_write ∈ zw := zw_1 (List.mem_of_getElem? (i := 196) rfl) rfl
theorem wd_197 : Cond.instanceMethod y_RT_write ∈ zw := zw_1 (List.mem_of_getElem? (i := 197) rfl) rfl
theorem wd_198 : Cond.selects "RealText" y_RT_write y_RT_write ∈ zw := zw_1 (List.mem_of_getElem? (i := 198) rfl) rfl
theorem wd_199 : Cond.code y_RT_write prog_1_method_4_code 7 (some .int) ∈ zw := zw_1 (List.mem_of_getElem? (i := 199) rfl) rfl
theorem wd_200 : Cond.fieldLink "RealText" 75 "RealText$Format" "FLOAT" "LRealText$Format;" ∈ zw := zw_1 (List.mem_of_getElem? (i := 200) rfl) rfl
theorem wd_202 : Cond.fieldLink "RealText" 81 "RealText$Format" "DOUBLE" "LRealText$Format;" ∈ zw := zw_1 (List.mem_of_getElem? (i := 202) rfl) rfl
theorem wd_204 : Cond.methodLink "RealText" 108 y_Fmt_magnitudeMask ∈ zw := zw_1 (List.mem_of_getElem? (i := 204) rfl) rfl
theorem wd_205 : Cond.instanceMethod y_Fmt_magnitudeMask ∈ zw := zw_1 (List.mem_of_getElem? (i := 205) rfl) rfl
theorem wd_206 : Cond.selects "RealText$Format" y_Fmt_magnitudeMask y_Fmt_magnitudeMask ∈ zw := zw_1 (List.mem_of_getElem? (i := 206) rfl) rfl
theorem wd_207 : Cond.code y_Fmt_magnitudeMask prog_4_method_5_code 1 (some .long) ∈ zw := zw_1 (List.mem_of_getElem? (i := 207) rfl) rfl
theorem wd_208 : Cond.methodLink "RealText$Format" 41 y_Fmt_infinity ∈ zw := zw_1 (List.mem_of_getElem? (i := 208) rfl) rfl
theorem wd_209 : Cond.instanceMethod y_Fmt_infinity ∈ zw := zw_1 (List.mem_of_getElem? (i := 209) rfl) rfl
theorem wd_210 : Cond.selects "RealText$Format" y_Fmt_infinity y_Fmt_infinity ∈ zw := zw_1 (List.mem_of_getElem? (i := 210) rfl) rfl
theorem wd_211 : Cond.code y_Fmt_infinity prog_4_method_4_code 1 (some .long) ∈ zw := zw_1 (List.mem_of_getElem? (i := 211) rfl) rfl
theorem wd_212 : Cond.methodLink "RealText$Format" 45 y_Fmt_fractionMask ∈ zw := zw_1 (List.mem_of_getElem? (i := 212) rfl) rfl
theorem wd_214 : Cond.instanceMethod y_Fmt_fractionMask ∈ zw := zw_1 (List.mem_of_getElem? (i := 214) rfl) rfl
theorem wd_215 : Cond.instantiable "RealText$Format" 6 ∈ zw := zw_1 (List.mem_of_getElem? (i := 215) rfl) rfl
theorem wd_216 : Cond.code y_Fmt_fractionMask prog_4_method_8_code 1 (some .long) ∈ zw := zw_1 (List.mem_of_getElem? (i := 216) rfl) rfl
theorem wd_217 : Cond.methodLink "RealText$Format" 51 y_Fmt_hiddenBit ∈ zw := zw_1 (List.mem_of_getElem? (i := 217) rfl) rfl
theorem wd_219 : Cond.instanceMethod y_Fmt_hiddenBit ∈ zw := zw_1 (List.mem_of_getElem? (i := 219) rfl) rfl
theorem wd_220 : Cond.code y_Fmt_hiddenBit prog_4_method_7_code 1 (some .long) ∈ zw := zw_1 (List.mem_of_getElem? (i := 220) rfl) rfl
theorem wd_221 : Cond.methodLink "RealText" 88 y_Row_clear ∈ zw := zw_1 (List.mem_of_getElem? (i := 221) rfl) rfl
theorem wd_222 : Cond.instanceMethod y_Row_clear ∈ zw := zw_1 (List.mem_of_getElem? (i := 222) rfl) rfl
theorem wd_223 : Cond.selects "RealText$Row" y_Row_clear y_Row_clear ∈ zw := zw_1 (List.mem_of_getElem? (i := 223) rfl) rfl
theorem wd_224 : Cond.code y_Row_clear prog_7_method_7_code 1 none ∈ zw := zw_1 (List.mem_of_getElem? (i := 224) rfl) rfl
theorem wd_225 : Cond.methodLink "RealText" 112 y_Fmt_infinity ∈ zw := zw_1 (List.mem_of_getElem? (i := 225) rfl) rfl
theorem wd_227 : Cond.methodLink "RealText" 117 y_Row_putAll ∈ zw := zw_1 (List.mem_of_getElem? (i := 227) rfl) rfl
theorem wd_228 : Cond.instanceMethod y_Row_putAll ∈ zw := zw_1 (List.mem_of_getElem? (i := 228) rfl) rfl
theorem wd_229 : Cond.selects "RealText$Row" y_Row_putAll y_Row_putAll ∈ zw := zw_1 (List.mem_of_getElem? (i := 229) rfl) rfl
theorem wd_230 : Cond.code y_Row_putAll prog_7_method_5_code 3 none ∈ zw := zw_1 (List.mem_of_getElem? (i := 230) rfl) rfl
theorem wd_231 : Cond.methodLink "RealText$Row" 20 y_Str_length ∈ zw := zw_1 (List.mem_of_getElem? (i := 231) rfl) rfl
theorem wd_232 : Cond.instanceMethod y_Str_length ∈ zw := zw_1 (List.mem_of_getElem? (i := 232) rfl) rfl
theorem wd_233 : Cond.selects "java/lang/String" y_Str_length y_Str_length ∈ zw := zw_1 (List.mem_of_getElem? (i := 233) rfl) rfl
theorem wd_234 : Cond.code y_Str_length prog_18_method_54_code 1 (some .int) ∈ zw := zw_1 (List.mem_of_getElem? (i := 234) rfl) rfl
theorem wd_235 : Cond.methodLink "java/lang/String" 335 y_Str_coder ∈ zw := zw_1 (List.mem_of_getElem? (i := 235) rfl) rfl
theorem wd_236 : Cond.instanceMethod y_Str_coder ∈ zw := zw_1 (List.mem_of_getElem? (i := 236) rfl) rfl
theorem wd_237 : Cond.selects "java/lang/String" y_Str_coder y_Str_coder ∈ zw := zw_1 (List.mem_of_getElem? (i := 237) rfl) rfl
theorem wd_238 : Cond.code y_Str_coder prog_18_method_152_code 1 (some .byte) ∈ zw := zw_1 (List.mem_of_getElem? (i := 238) rfl) rfl
theorem wd_239 : Cond.fieldLink "java/lang/String" 38 "java/lang/String" "COMPACT_STRINGS" "Z" ∈ zw := zw_1 (List.mem_of_getElem? (i := 239) rfl) rfl
theorem wd_241 : Cond.methodLink "RealText$Row" 26 y_Str_charAt ∈ zw := zw_2 (List.mem_of_getElem? (i := 1) rfl) rfl
theorem wd_242 : Cond.instanceMethod y_Str_charAt ∈ zw := zw_2 (List.mem_of_getElem? (i := 2) rfl) rfl
theorem wd_243 : Cond.selects "java/lang/String" y_Str_charAt y_Str_charAt ∈ zw := zw_2 (List.mem_of_getElem? (i := 3) rfl) rfl
theorem wd_244 : Cond.code y_Str_charAt prog_18_method_56_code 2 (some .char) ∈ zw := zw_2 (List.mem_of_getElem? (i := 4) rfl) rfl
theorem wd_245 : Cond.methodLink "java/lang/String" 492 y_Str_isLatin1 ∈ zw := zw_2 (List.mem_of_getElem? (i := 5) rfl) rfl
theorem wd_246 : Cond.instanceMethod y_Str_isLatin1 ∈ zw := zw_2 (List.mem_of_getElem? (i := 6) rfl) rfl
theorem wd_247 : Cond.selects "java/lang/String" y_Str_isLatin1 y_Str_isLatin1 ∈ zw := zw_2 (List.mem_of_getElem? (i := 7) rfl) rfl
theorem wd_248 : Cond.code y_Str_isLatin1 prog_18_method_154_code 1 (some .boolean) ∈ zw := zw_2 (List.mem_of_getElem? (i := 8) rfl) rfl
theorem wd_249 : Cond.methodLink "java/lang/String" 495 y_Lat_charAt ∈ zw := zw_2 (List.mem_of_getElem? (i := 9) rfl) rfl
theorem wd_250 : Cond.static y_Lat_charAt ∈ zw := zw_2 (List.mem_of_getElem? (i := 10) rfl) rfl
theorem wd_251 : Cond.code y_Lat_charAt prog_19_method_2_code 2 (some .char) ∈ zw := zw_2 (List.mem_of_getElem? (i := 11) rfl) rfl
theorem wd_252 : Cond.methodLink "java/lang/StringLatin1" 9 y_Str_checkIndex ∈ zw := zw_2 (List.mem_of_getElem? (i := 12) rfl) rfl
theorem wd_253 : Cond.static y_Str_checkIndex ∈ zw := zw_2 (List.mem_of_getElem? (i := 13) rfl) rfl
theorem wd_254 : Cond.code y_Str_checkIndex prog_18_method_155_code 2 none ∈ zw := zw_2 (List.mem_of_getElem? (i := 14) rfl) rfl
theorem wd_255 : Cond.fieldLink "java/lang/String" 1053 "jdk/internal/util/Preconditions" "SIOOBE_FORMATTER" "Ljava/util/function/BiFunction;" ∈ zw := zw_2 (List.mem_of_getElem? (i := 15) rfl) rfl
theorem wd_257 : Cond.methodLink "java/lang/String" 1059 y_Preconditions_checkIndex ∈ zw := zw_2 (List.mem_of_getElem? (i := 17) rfl) rfl
theorem wd_258 : Cond.static y_Preconditions_checkIndex ∈ zw := zw_2 (List.mem_of_getElem? (i := 18) rfl) rfl
theorem wd_259 : Cond.code y_Preconditions_checkIndex prog_23_method_11_code 3 (some .int) ∈ zw := zw_2 (List.mem_of_getElem? (i := 19) rfl) rfl
theorem wd_260 : Cond.methodLink "java/lang/String" 498 y_U16_charAt ∈ zw := zw_2 (List.mem_of_getElem? (i := 20) rfl) rfl
theorem wd_261 : Cond.static y_U16_charAt ∈ zw := zw_2 (List.mem_of_getElem? (i := 21) rfl) rfl
theorem wd_262 : Cond.code y_U16_charAt prog_20_method_83_code 2 (some .char) ∈ zw := zw_2 (List.mem_of_getElem? (i := 22) rfl) rfl
theorem wd_263 : Cond.methodLink "java/lang/StringUTF16" 67 y_U16_checkIndex ∈ zw := zw_2 (List.mem_of_getElem? (i := 23) rfl) rfl
theorem wd_264 : Cond.static y_U16_checkIndex ∈ zw := zw_2 (List.mem_of_getElem? (i := 24) rfl) rfl
theorem wd_265 : Cond.code y_U16_checkIndex prog_20_method_91_code 2 none ∈ zw := zw_2 (List.mem_of_getElem? (i := 25) rfl) rfl
theorem wd_266 : Cond.methodLink "java/lang/StringUTF16" 48 y_U16_length ∈ zw := zw_2 (List.mem_of_getElem? (i := 26) rfl) rfl
theorem wd_267 : Cond.static y_U16_length ∈ zw := zw_2 (List.mem_of_getElem? (i := 27) rfl) rfl
theorem wd_268 : Cond.code y_U16_length prog_20_method_6_code 1 (some .int) ∈ zw := zw_2 (List.mem_of_getElem? (i := 28) rfl) rfl
theorem wd_269 : Cond.methodLink "java/lang/StringUTF16" 414 y_Str_checkIndex ∈ zw := zw_2 (List.mem_of_getElem? (i := 29) rfl) rfl
theorem wd_270 : Cond.methodLink "java/lang/StringUTF16" 71 y_U16_getChar ∈ zw := zw_2 (List.mem_of_getElem? (i := 30) rfl) rfl
theorem wd_271 : Cond.static y_U16_getChar ∈ zw := zw_2 (List.mem_of_getElem? (i := 31) rfl) rfl
theorem wd_272 : Cond.code y_U16_getChar prog_20_method_5_code 2 (some .char) ∈ zw := zw_2 (List.mem_of_getElem? (i := 32) rfl) rfl
theorem wd_273 : Cond.fieldLink "java/lang/StringUTF16" 44 "java/lang/StringUTF16" "$assertionsDisabled" "Z" ∈ zw := zw_2 (List.mem_of_getElem? (i := 33) rfl) rfl
theorem wd_275 : Cond.fieldLink "java/lang/StringUTF16" 59 "java/lang/StringUTF16" "HI_BYTE_SHIFT" "I" ∈ zw := zw_2 (List.mem_of_getElem? (i := 35) rfl) rfl
theorem wd_277 : Cond.fieldLink "java/lang/StringUTF16" 63 "java/lang/StringUTF16" "LO_BYTE_SHIFT" "I" ∈ zw := zw_2 (List.mem_of_getElem? (i := 37) rfl) rfl
theorem wd_279 : Cond.methodLink "RealText$Row" 30 y_Row_put ∈ zw := zw_2 (List.mem_of_getElem? (i := 39) rfl) rfl
theorem wd_280 : Cond.instanceMethod y_Row_put ∈ zw := zw_2 (List.mem_of_getElem? (i := 40) rfl) rfl
theorem wd_281 : Cond.selects "RealText$Row" y_Row_put y_Row_put ∈ zw := zw_2 (List.mem_of_getElem? (i := 41) rfl) rfl
theorem wd_282 : Cond.code y_Row_put prog_7_method_4_code 2 none ∈ zw := zw_2 (List.mem_of_getElem? (i := 42) rfl) rfl
theorem wd_283 : Cond.methodLink "RealText" 56 y_Row_length ∈ zw := zw_2 (List.mem_of_getElem? (i := 43) rfl) rfl
theorem wd_284 : Cond.instanceMethod y_Row_length ∈ zw := zw_2 (List.mem_of_getElem? (i := 44) rfl) rfl
theorem wd_285 : Cond.selects "RealText$Row" y_Row_length y_Row_length ∈ zw := zw_2 (List.mem_of_getElem? (i := 45) rfl) rfl
theorem wd_286 : Cond.code y_Row_length prog_7_method_2_code 1 (some .int) ∈ zw := zw_2 (List.mem_of_getElem? (i := 46) rfl) rfl
theorem wd_287 : Cond.methodLink "RealText" 121 y_Fmt_signMask ∈ zw := zw_2 (List.mem_of_getElem? (i := 47) rfl) rfl
theorem wd_288 : Cond.instanceMethod y_Fmt_signMask ∈ zw := zw_2 (List.mem_of_getElem? (i := 48) rfl) rfl
theorem wd_289 : Cond.selects "RealText$Format" y_Fmt_signMask y_Fmt_signMask ∈ zw := zw_2 (List.mem_of_getElem? (i := 49) rfl) rfl
theorem wd_290 : Cond.code y_Fmt_signMask prog_4_method_6_code 1 (some .long) ∈ zw := zw_2 (List.mem_of_getElem? (i := 50) rfl) rfl
theorem wd_291 : Cond.methodLink "RealText$Format" 48 y_Fmt_magnitudeMask ∈ zw := zw_2 (List.mem_of_getElem? (i := 51) rfl) rfl
theorem wd_292 : Cond.methodLink "RealText" 71 y_Row_put ∈ zw := zw_2 (List.mem_of_getElem? (i := 52) rfl) rfl
theorem wd_295 : Cond.methodLink "RealText" 128 y_Sho_find ∈ zw := zw_2 (List.mem_of_getElem? (i := 55) rfl) rfl
theorem wd_296 : Cond.instanceMethod y_Sho_find ∈ zw := zw_2 (List.mem_of_getElem? (i := 56) rfl) rfl
theorem wd_297 : Cond.selects "RealText$Shortest" y_Sho_find y_Sho_find ∈ zw := zw_2 (List.mem_of_getElem? (i := 57) rfl) rfl
theorem wd_298 : Cond.code y_Sho_find prog_8_method_2_code 9 none ∈ zw := zw_2 (List.mem_of_getElem? (i := 58) rfl) rfl
theorem wd_299 : Cond.methodLink "RealText$Shortest" 27 y_Fmt_significandOf ∈ zw := zw_2 (List.mem_of_getElem? (i := 59) rfl) rfl
theorem wd_300 : Cond.instanceMethod y_Fmt_significandOf ∈ zw := zw_2 (List.mem_of_getElem? (i := 60) rfl) rfl
theorem wd_301 : Cond.selects "RealText$Format" y_Fmt_significandOf y_Fmt_significandOf ∈ zw := zw_2 (List.mem_of_getElem? (i := 61) rfl) rfl
theorem wd_302 : Cond.code y_Fmt_significandOf prog_4_method_10_code 5 (some .long) ∈ zw := zw_2 (List.mem_of_getElem? (i := 62) rfl) rfl
theorem wd_303 : Cond.methodLink "RealText$Format" 54 y_Fmt_exponentOf ∈ zw := zw_2 (List.mem_of_getElem? (i := 63) rfl) rfl
theorem wd_305 : Cond.instanceMethod y_Fmt_exponentOf ∈ zw := zw_2 (List.mem_of_getElem? (i := 65) rfl) rfl
theorem wd_306 : Cond.code y_Fmt_exponentOf prog_4_method_9_code 3 (some .int) ∈ zw := zw_2 (List.mem_of_getElem? (i := 66) rfl) rfl
theorem wd_307 : Cond.methodLink "RealText$Shortest" 33 y_Fmt_isNarrowBelow ∈ zw := zw_2 (List.mem_of_getElem? (i := 67) rfl) rfl
theorem wd_308 : Cond.instanceMethod y_Fmt_isNarrowBelow ∈ zw := zw_2 (List.mem_of_getElem? (i := 68) rfl) rfl
theorem wd_309 : Cond.selects "RealText$Format" y_Fmt_isNarrowBelow y_Fmt_isNarrowBelow ∈ zw := zw_2 (List.mem_of_getElem? (i := 69) rfl) rfl
theorem wd_310 : Cond.code y_Fmt_isNarrowBelow prog_4_method_12_code 3 (some .boolean) ∈ zw := zw_2 (List.mem_of_getElem? (i := 70) rfl) rfl
theorem wd_311 : Cond.methodLink "RealText$Shortest" 43 y_Fmt_powerOf ∈ zw := zw_2 (List.mem_of_getElem? (i := 71) rfl) rfl
theorem wd_312 : Cond.instanceMethod y_Fmt_powerOf ∈ zw := zw_2 (List.mem_of_getElem? (i := 72) rfl) rfl
theorem wd_313 : Cond.selects "RealText$Format" y_Fmt_powerOf y_Fmt_powerOf ∈ zw := zw_2 (List.mem_of_getElem? (i := 73) rfl) rfl
theorem wd_314 : Cond.code y_Fmt_powerOf prog_4_method_11_code 3 (some .int) ∈ zw := zw_2 (List.mem_of_getElem? (i := 74) rfl) rfl
theorem wd_315 : Cond.methodLink "RealText$Format" 58 y_Mat_max ∈ zw := zw_2 (List.mem_of_getElem? (i := 75) rfl) rfl
theorem wd_316 : Cond.static y_Mat_max ∈ zw := zw_2 (List.mem_of_getElem? (i := 76) rfl) rfl
theorem wd_317 : Cond.code y_Mat_max prog_16_method_65_code 2 (some .int) ∈ zw := zw_2 (List.mem_of_getElem? (i := 77) rfl) rfl
theorem wd_318 : Cond.methodLink "RealText$Shortest" 47 y_Sho_start ∈ zw := zw_2 (List.mem_of_getElem? (i := 78) rfl) rfl
theorem wd_320 : Cond.instanceMethod y_Sho_start ∈ zw := zw_2 (List.mem_of_getElem? (i := 80) rfl) rfl
theorem wd_321 : Cond.code y_Sho_start prog_8_method_3_code 5 none ∈ zw := zw_2 (List.mem_of_getElem? (i := 81) rfl) rfl
theorem wd_322 : Cond.methodLink "RealText$Shortest" 75 y_Big_set ∈ zw := zw_2 (List.mem_of_getElem? (i := 82) rfl) rfl
theorem wd_323 : Cond.instanceMethod y_Big_set ∈ zw := zw_2 (List.mem_of_getElem? (i := 83) rfl) rfl
theorem wd_324 : Cond.selects "RealText$Big" y_Big_set y_Big_set ∈ zw := zw_2 (List.mem_of_getElem? (i := 84) rfl) rfl
theorem wd_325 : Cond.code y_Big_set prog_2_method_2_code 3 none ∈ zw := zw_2 (List.mem_of_getElem? (i := 85) rfl) rfl
theorem wd_326 : Cond.constantLong "RealText$Big" 17 4294967295 ∈ zw := zw_2 (List.mem_of_getElem? (i := 86) rfl) rfl
theorem wd_327 : Cond.methodLink "RealText$Big" 19 y_Big_addLimb ∈ zw := zw_2 (List.mem_of_getElem? (i := 87) rfl) rfl
theorem wd_329 : Cond.instanceMethod y_Big_addLimb ∈ zw := zw_2 (List.mem_of_getElem? (i := 89) rfl) rfl
theorem wd_330 : Cond.code y_Big_addLimb prog_2_method_15_code 3 none ∈ zw := zw_2 (List.mem_of_getElem? (i := 90) rfl) rfl
theorem wd_331 : Cond.methodLink "RealText$Big" 23 y_Big_trim ∈ zw := zw_2 (List.mem_of_getElem? (i := 91) rfl) rfl
theorem wd_333 : Cond.instanceMethod y_Big_trim ∈ zw := zw_2 (List.mem_of_getElem? (i := 93) rfl) rfl
theorem wd_334 : Cond.code y_Big_trim prog_2_method_16_code 1 none ∈ zw := zw_2 (List.mem_of_getElem? (i := 94) rfl) rfl
theorem wd_335 : Cond.methodLink "RealText$Shortest" 79 y_Big_shiftLeft ∈ zw := zw_2 (List.mem_of_getElem? (i := 95) rfl) rfl
theorem wd_336 : Cond.instanceMethod y_Big_shiftLeft ∈ zw := zw_2 (List.mem_of_getElem? (i := 96) rfl) rfl
theorem wd_337 : Cond.selects "RealText$Big" y_Big_shiftLeft y_Big_shiftLeft ∈ zw := zw_2 (List.mem_of_getElem? (i := 97) rfl) rfl
theorem wd_338 : Cond.code y_Big_shiftLeft prog_2_method_12_code 7 none ∈ zw := zw_2 (List.mem_of_getElem? (i := 98) rfl) rfl
theorem wd_339 : Cond.methodLink "RealText$Big" 38 y_Big_limbAt ∈ zw := zw_2 (List.mem_of_getElem? (i := 99) rfl) rfl
theorem wd_341 : Cond.instanceMethod y_Big_limbAt ∈ zw := zw_2 (List.mem_of_getElem? (i := 101) rfl) rfl
theorem wd_342 : Cond.code y_Big_limbAt prog_2_method_13_code 2 (some .long) ∈ zw := zw_2 (List.mem_of_getElem? (i := 102) rfl) rfl
theorem wd_343 : Cond.constantLong "RealText$Shortest" 82 4 ∈ zw := zw_2 (List.mem_of_getElem? (i := 103) rfl) rfl
theorem wd_344 : Cond.constantLong "RealText$Shortest" 84 2 ∈ zw := zw_2 (List.mem_of_getElem? (i := 104) rfl) rfl
theorem wd_345 : Cond.methodLink "RealText$Shortest" 86 y_Big_bitLength ∈ zw := zw_2 (List.mem_of_getElem? (i := 105) rfl) rfl
theorem wd_346 : Cond.instanceMethod y_Big_bitLength ∈ zw := zw_2 (List.mem_of_getElem? (i := 106) rfl) rfl
theorem wd_347 : Cond.selects "RealText$Big" y_Big_bitLength y_Big_bitLength ∈ zw := zw_2 (List.mem_of_getElem? (i := 107) rfl) rfl
theorem wd_348 : Cond.code y_Big_bitLength prog_2_method_5_code 4 (some .int) ∈ zw := zw_2 (List.mem_of_getElem? (i := 108) rfl) rfl
theorem wd_349 : Cond.constant "RealText$Shortest" 89 100000 ∈ zw := zw_2 (List.mem_of_getElem? (i := 109) rfl) rfl
theorem wd_350 : Cond.methodLink "RealText$Shortest" 90 y_Mat_floorDiv ∈ zw := zw_2 (List.mem_of_getElem? (i := 110) rfl) rfl
theorem wd_351 : Cond.static y_Mat_floorDiv ∈ zw := zw_2 (List.mem_of_getElem? (i := 111) rfl) rfl
theorem wd_352 : Cond.code y_Mat_floorDiv prog_16_method_47_code 3 (some .int) ∈ zw := zw_2 (List.mem_of_getElem? (i := 112) rfl) rfl
theorem wd_353 : Cond.methodLink "RealText$Shortest" 96 y_Big_multiplyByTens ∈ zw := zw_2 (List.mem_of_getElem? (i := 113) rfl) rfl
theorem wd_354 : Cond.instanceMethod y_Big_multiplyByTens ∈ zw := zw_2 (List.mem_of_getElem? (i := 114) rfl) rfl
theorem wd_355 : Cond.selects "RealText$Big" y_Big_multiplyByTens y_Big_multiplyByTens ∈ zw := zw_2 (List.mem_of_getElem? (i := 115) rfl) rfl
theorem wd_356 : Cond.code y_Big_multiplyByTens prog_2_method_11_code 2 none ∈ zw := zw_2 (List.mem_of_getElem? (i := 116) rfl) rfl
theorem wd_357 : Cond.methodLink "RealText$Big" 56 y_Big_multiplyByFives ∈ zw := zw_2 (List.mem_of_getElem? (i := 117) rfl) rfl
theorem wd_358 : Cond.instanceMethod y_Big_multiplyByFives ∈ zw := zw_2 (List.mem_of_getElem? (i := 118) rfl) rfl
theorem wd_359 : Cond.selects "RealText$Big" y_Big_multiplyByFives y_Big_multiplyByFives ∈ zw := zw_2 (List.mem_of_getElem? (i := 119) rfl) rfl
theorem wd_360 : Cond.code y_Big_multiplyByFives prog_2_method_10_code 3 none ∈ zw := zw_2 (List.mem_of_getElem? (i := 120) rfl) rfl
theorem wd_361 : Cond.fieldLink "RealText$Big" 49 "RealText$Big" "POWERS_OF_FIVE" "[I" ∈ zw := zw_2 (List.mem_of_getElem? (i := 121) rfl) rfl
theorem wd_363 : Cond.methodLink "RealText$Big" 26 y_Mat_min ∈ zw := zw_2 (List.mem_of_getElem? (i := 123) rfl) rfl
theorem wd_364 : Cond.static y_Mat_min ∈ zw := zw_2 (List.mem_of_getElem? (i := 124) rfl) rfl
theorem wd_365 : Cond.code y_Mat_min prog_16_method_69_code 2 (some .int) ∈ zw := zw_2 (List.mem_of_getElem? (i := 125) rfl) rfl
theorem wd_366 : Cond.methodLink "RealText$Big" 52 y_Big_multiplyAndAdd ∈ zw := zw_2 (List.mem_of_getElem? (i := 126) rfl) rfl
theorem wd_367 : Cond.instanceMethod y_Big_multiplyAndAdd ∈ zw := zw_2 (List.mem_of_getElem? (i := 127) rfl) rfl
theorem wd_368 : Cond.selects "RealText$Big" y_Big_multiplyAndAdd y_Big_multiplyAndAdd ∈ zw := zw_2 (List.mem_of_getElem? (i := 128) rfl) rfl
theorem wd_369 : Cond.code y_Big_multiplyAndAdd prog_2_method_9_code 6 none ∈ zw := zw_2 (List.mem_of_getElem? (i := 129) rfl) rfl
theorem wd_370 : Cond.methodLink "RealText$Big" 60 y_Big_shiftLeft ∈ zw := zw_2 (List.mem_of_getElem? (i := 130) rfl) rfl
theorem wd_371 : Cond.methodLink "RealText$Shortest" 99 y_Big_compare ∈ zw := zw_2 (List.mem_of_getElem? (i := 131) rfl) rfl
theorem wd_372 : Cond.instanceMethod y_Big_compare ∈ zw := zw_2 (List.mem_of_getElem? (i := 132) rfl) rfl
theorem wd_373 : Cond.selects "RealText$Big" y_Big_compare y_Big_compare ∈ zw := zw_2 (List.mem_of_getElem? (i := 133) rfl) rfl
theorem wd_374 : Cond.code y_Big_compare prog_2_method_6_code 3 (some .int) ∈ zw := zw_2 (List.mem_of_getElem? (i := 134) rfl) rfl
theorem wd_375 : Cond.methodLink "RealText$Shortest" 103 y_Big_multiplyAndAdd ∈ zw := zw_2 (List.mem_of_getElem? (i := 135) rfl) rfl
theorem wd_376 : Cond.constantLong "RealText$Shortest" 55 10 ∈ zw := zw_2 (List.mem_of_getElem? (i := 136) rfl) rfl
theorem wd_377 : Cond.methodLink "RealText$Shortest" 57 y_Sho_nextDigit ∈ zw := zw_2 (List.mem_of_getElem? (i := 137) rfl) rfl
theorem wd_379 : Cond.instanceMethod y_Sho_nextDigit ∈ zw := zw_2 (List.mem_of_getElem? (i := 139) rfl) rfl
theorem wd_380 : Cond.code y_Sho_nextDigit prog_8_method_4_code 3 (some .int) ∈ zw := zw_2 (List.mem_of_getElem? (i := 140) rfl) rfl
theorem wd_381 : Cond.methodLink "RealText$Shortest" 107 y_Big_subtract ∈ zw := zw_2 (List.mem_of_getElem? (i := 141) rfl) rfl
theorem wd_382 : Cond.instanceMethod y_Big_subtract ∈ zw := zw_2 (List.mem_of_getElem? (i := 142) rfl) rfl
theorem wd_383 : Cond.selects "RealText$Big" y_Big_subtract y_Big_subtract ∈ zw := zw_2 (List.mem_of_getElem? (i := 143) rfl) rfl
theorem wd_384 : Cond.code y_Big_subtract prog_2_method_8_code 7 none ∈ zw := zw_2 (List.mem_of_getElem? (i := 144) rfl) rfl
theorem wd_385 : Cond.methodLink "RealText$Shortest" 65 y_Sho_isReadBelow ∈ zw := zw_2 (List.mem_of_getElem? (i := 145) rfl) rfl
theorem wd_387 : Cond.instanceMethod y_Sho_isReadBelow ∈ zw := zw_2 (List.mem_of_getElem? (i := 147) rfl) rfl
theorem wd_388 : Cond.code y_Sho_isReadBelow prog_8_method_5_code 2 (some .boolean) ∈ zw := zw_2 (List.mem_of_getElem? (i := 148) rfl) rfl
theorem wd_389 : Cond.methodLink "RealText$Shortest" 69 y_Sho_isReadAbove ∈ zw := zw_2 (List.mem_of_getElem? (i := 149) rfl) rfl
theorem wd_391 : Cond.instanceMethod y_Sho_isReadAbove ∈ zw := zw_2 (List.mem_of_getElem? (i := 151) rfl) rfl
theorem wd_392 : Cond.code y_Sho_isReadAbove prog_8_method_6_code 2 (some .boolean) ∈ zw := zw_2 (List.mem_of_getElem? (i := 152) rfl) rfl
theorem wd_393 : Cond.methodLink "RealText$Shortest" 111 y_Big_copy ∈ zw := zw_2 (List.mem_of_getElem? (i := 153) rfl) rfl
theorem wd_394 : Cond.instanceMethod y_Big_copy ∈ zw := zw_2 (List.mem_of_getElem? (i := 154) rfl) rfl
theorem wd_395 : Cond.selects "RealText$Big" y_Big_copy y_Big_copy ∈ zw := zw_2 (List.mem_of_getElem? (i := 155) rfl) rfl
theorem wd_396 : Cond.code y_Big_copy prog_2_method_3_code 2 none ∈ zw := zw_2 (List.mem_of_getElem? (i := 156) rfl) rfl
theorem wd_397 : Cond.methodLink "RealText$Big" 32 y_Sys_arraycopy ∈ zw := zw_2 (List.mem_of_getElem? (i := 157) rfl) rfl
theorem wd_398 : Cond.static y_Sys_arraycopy ∈ zw := zw_2 (List.mem_of_getElem? (i := 158) rfl) rfl
theorem wd_399 : Cond.native y_Sys_arraycopy ∈ zw := zw_2 (List.mem_of_getElem? (i := 159) rfl) rfl
theorem wd_400 : Cond.methodLink "RealText$Shortest" 114 y_Big_add ∈ zw := zw_2 (List.mem_of_getElem? (i := 160) rfl) rfl
theorem wd_401 : Cond.instanceMethod y_Big_add ∈ zw := zw_2 (List.mem_of_getElem? (i := 161) rfl) rfl
theorem wd_402 : Cond.selects "RealText$Big" y_Big_add y_Big_add ∈ zw := zw_2 (List.mem_of_getElem? (i := 162) rfl) rfl
theorem wd_403 : Cond.code y_Big_add prog_2_method_7_code 6 none ∈ zw := zw_2 (List.mem_of_getElem? (i := 163) rfl) rfl
theorem wd_404 : Cond.methodLink "RealText$Big" 42 y_Mat_max ∈ zw := zw_2 (List.mem_of_getElem? (i := 164) rfl) rfl
theorem wd_405 : Cond.methodLink "RealText$Big" 45 y_Big_setLimb ∈ zw := zw_2 (List.mem_of_getElem? (i := 165) rfl) rfl
theorem wd_407 : Cond.instanceMethod y_Big_setLimb ∈ zw := zw_2 (List.mem_of_getElem? (i := 167) rfl) rfl
theorem wd_408 : Cond.code y_Big_setLimb prog_2_method_14_code 4 none ∈ zw := zw_2 (List.mem_of_getElem? (i := 168) rfl) rfl
theorem wd_409 : Cond.methodLink "RealText$Shortest" 72 y_Sho_isNearerAbove ∈ zw := zw_2 (List.mem_of_getElem? (i := 169) rfl) rfl
theorem wd_411 : Cond.instanceMethod y_Sho_isNearerAbove ∈ zw := zw_2 (List.mem_of_getElem? (i := 171) rfl) rfl
theorem wd_412 : Cond.code y_Sho_isNearerAbove prog_8_method_7_code 2 (some .boolean) ∈ zw := zw_2 (List.mem_of_getElem? (i := 172) rfl) rfl
theorem wd_413 : Cond.methodLink "RealText" 139 y_Dec_set ∈ zw := zw_2 (List.mem_of_getElem? (i := 173) rfl) rfl
theorem wd_414 : Cond.instanceMethod y_Dec_set ∈ zw := zw_2 (List.mem_of_getElem? (i := 174) rfl) rfl
theorem wd_415 : Cond.selects "RealText$Decimal" y_Dec_set y_Dec_set ∈ zw := zw_2 (List.mem_of_getElem? (i := 175) rfl) rfl
theorem wd_416 : Cond.code y_Dec_set prog_3_method_2_code 8 none ∈ zw := zw_2 (List.mem_of_getElem? (i := 176) rfl) rfl
theorem wd_417 : Cond.constantLong "RealText$Decimal" 20 10 ∈ zw := zw_2 (List.mem_of_getElem? (i := 177) rfl) rfl
theorem wd_418 : Cond.methodLink "RealText" 143 y_Dec_putOn ∈ zw := zw_2 (List.mem_of_getElem? (i := 178) rfl) rfl
theorem wd_419 : Cond.instanceMethod y_Dec_putOn ∈ zw := zw_2 (List.mem_of_getElem? (i := 179) rfl) rfl
theorem wd_420 : Cond.selects "RealText$Decimal" y_Dec_putOn y_Dec_putOn ∈ zw := zw_2 (List.mem_of_getElem? (i := 180) rfl) rfl
theorem wd_421 : Cond.code y_Dec_putOn prog_3_method_3_code 2 none ∈ zw := zw_2 (List.mem_of_getElem? (i := 181) rfl) rfl
theorem wd_422 : Cond.methodLink "RealText$Decimal" 22 y_Dec_putDigits ∈ zw := zw_2 (List.mem_of_getElem? (i := 182) rfl) rfl
theorem wd_424 : Cond.instanceMethod y_Dec_putDigits ∈ zw := zw_2 (List.mem_of_getElem? (i := 184) rfl) rfl
theorem wd_425 : Cond.code y_Dec_putDigits prog_3_method_4_code 5 none ∈ zw := zw_2 (List.mem_of_getElem? (i := 185) rfl) rfl
theorem wd_426 : Cond.methodLink "RealText$Decimal" 45 y_Dec_digitAt ∈ zw := zw_2 (List.mem_of_getElem? (i := 186) rfl) rfl
theorem wd_428 : Cond.instanceMethod y_Dec_digitAt ∈ zw := zw_2 (List.mem_of_getElem? (i := 188) rfl) rfl
theorem wd_429 : Cond.code y_Dec_digitAt prog_3_method_5_code 2 (some .int) ∈ zw := zw_2 (List.mem_of_getElem? (i := 189) rfl) rfl
theorem wd_430 : Cond.methodLink "RealText$Decimal" 26 y_Row_put ∈ zw := zw_2 (List.mem_of_getElem? (i := 190) rfl) rfl
theorem wd_431 : Cond.methodLink "RealText$Decimal" 32 y_Mat_max ∈ zw := zw_2 (List.mem_of_getElem? (i := 191) rfl) rfl
theorem wd_432 : Cond.methodLink "RealText$Decimal" 38 y_Dec_putExponent ∈ zw := zw_2 (List.mem_of_getElem? (i := 192) rfl) rfl
theorem wd_433 : Cond.static y_Dec_putExponent ∈ zw := zw_2 (List.mem_of_getElem? (i := 193) rfl) rfl
theorem wd_434 : Cond.code y_Dec_putExponent prog_3_method_6_code 4 none ∈ zw := zw_2 (List.mem_of_getElem? (i := 194) rfl) rfl
theorem wd_435 : Cond.methodLink "RealText$Decimal" 49 y_Mat_abs ∈ zw := zw_2 (List.mem_of_getElem? (i := 195) rfl) rfl
theorem wd_436 : Cond.static y_Mat_abs ∈ zw := zw_2 (List.mem_of_getElem? (i := 196) rfl) rfl
theorem wd_437 : Cond.code y_Mat_abs prog_16_method_59_code 1 (some .int) ∈ zw := zw_2 (List.mem_of_getElem? (i := 197) rfl) rfl
theorem wd_438 : Cond.methodLink "RealText$Decimal" 42 y_Mat_min ∈ zw := zw_2 (List.mem_of_getElem? (i := 198) rfl) rfl
theorem wd_439 : Cond.methodLink "RealTextLaw" 52 y_RT_take ∈ zw := zw_2 (List.mem_of_getElem? (i := 199) rfl) rfl
theorem wd_440 : Cond.instanceMethod y_RT_take ∈ zw := zw_2 (List.mem_of_getElem? (i := 200) rfl) rfl
theorem wd_441 : Cond.selects "RealText" y_RT_take y_RT_take ∈ zw := zw_2 (List.mem_of_getElem? (i := 201) rfl) rfl
theorem wd_442 : Cond.code y_RT_take prog_1_method_5_code 4 (some .long) ∈ zw := zw_2 (List.mem_of_getElem? (i := 202) rfl) rfl
theorem wd_443 : Cond.methodLink "RealText" 147 y_Row_takeFirst ∈ zw := zw_2 (List.mem_of_getElem? (i := 203) rfl) rfl
theorem wd_444 : Cond.instanceMethod y_Row_takeFirst ∈ zw := zw_2 (List.mem_of_getElem? (i := 204) rfl) rfl
theorem wd_445 : Cond.selects "RealText$Row" y_Row_takeFirst y_Row_takeFirst ∈ zw := zw_2 (List.mem_of_getElem? (i := 205) rfl) rfl
theorem wd_446 : Cond.code y_Row_takeFirst prog_7_method_6_code 2 (some .char) ∈ zw := zw_2 (List.mem_of_getElem? (i := 206) rfl) rfl
theorem wd_447 : Cond.methodLink "RealText$Row" 34 y_Row_at ∈ zw := zw_2 (List.mem_of_getElem? (i := 207) rfl) rfl
theorem wd_448 : Cond.instanceMethod y_Row_at ∈ zw := zw_2 (List.mem_of_getElem? (i := 208) rfl) rfl
theorem wd_449 : Cond.selects "RealText$Row" y_Row_at y_Row_at ∈ zw := zw_2 (List.mem_of_getElem? (i := 209) rfl) rfl
theorem wd_450 : Cond.code y_Row_at prog_7_method_3_code 2 (some .char) ∈ zw := zw_2 (List.mem_of_getElem? (i := 210) rfl) rfl
theorem wd_451 : Cond.methodLink "RealTextLaw" 57 y_RT_back ∈ zw := zw_2 (List.mem_of_getElem? (i := 211) rfl) rfl
theorem wd_452 : Cond.instanceMethod y_RT_back ∈ zw := zw_2 (List.mem_of_getElem? (i := 212) rfl) rfl
theorem wd_453 : Cond.selects "RealText" y_RT_back y_RT_back ∈ zw := zw_2 (List.mem_of_getElem? (i := 213) rfl) rfl
theorem wd_454 : Cond.code y_RT_back prog_1_method_6_code 2 (some .int) ∈ zw := zw_2 (List.mem_of_getElem? (i := 214) rfl) rfl
theorem wd_455 : Cond.methodLink "RealText" 151 y_Row_at ∈ zw := zw_2 (List.mem_of_getElem? (i := 215) rfl) rfl
theorem wd_456 : Cond.methodLink "RealTextLaw" 33 y_Law_text ∈ zw := zw_2 (List.mem_of_getElem? (i := 216) rfl) rfl
theorem wd_457 : Cond.static y_Law_text ∈ zw := zw_2 (List.mem_of_getElem? (i := 217) rfl) rfl
theorem wd_459 : Cond.classLink "RealTextLaw" 13 "java/lang/IllegalArgumentException" ∈ zw := zw_2 (List.mem_of_getElem? (i := 219) rfl) rfl
theorem wd_460 : Cond.classLink "RealTextLaw" 15 "java/lang/IllegalStateException" ∈ zw := zw_2 (List.mem_of_getElem? (i := 220) rfl) rfl
theorem wd_461 : Cond.methodLink "RealTextLaw" 7 y_RT_text ∈ zw := zw_2 (List.mem_of_getElem? (i := 221) rfl) rfl
theorem wd_462 : Cond.instanceMethod y_RT_text ∈ zw := zw_2 (List.mem_of_getElem? (i := 222) rfl) rfl
theorem wd_463 : Cond.selects "RealText" y_RT_text y_RT_text ∈ zw := zw_2 (List.mem_of_getElem? (i := 223) rfl) rfl
theorem wd_464 : Cond.code y_RT_text prog_1_method_2_code 5 (some .int) ∈ zw := zw_2 (List.mem_of_getElem? (i := 224) rfl) rfl
theorem wd_465 : Cond.methodLink "RealText" 49 y_RT_hasOnlyCharacters ∈ zw := zw_2 (List.mem_of_getElem? (i := 225) rfl) rfl
theorem wd_466 : Cond.static y_RT_hasOnlyCharacters ∈ zw := zw_2 (List.mem_of_getElem? (i := 226) rfl) rfl
theorem wd_467 : Cond.code y_RT_hasOnlyCharacters prog_1_method_9_code 4 (some .boolean) ∈ zw := zw_2 (List.mem_of_getElem? (i := 227) rfl) rfl
theorem wd_468 : Cond.methodLink "RealText" 67 y_RT_byteAt ∈ zw := zw_2 (List.mem_of_getElem? (i := 228) rfl) rfl
theorem wd_469 : Cond.static y_RT_byteAt ∈ zw := zw_2 (List.mem_of_getElem? (i := 229) rfl) rfl
theorem wd_470 : Cond.code y_RT_byteAt prog_1_method_8_code 3 (some .int) ∈ zw := zw_2 (List.mem_of_getElem? (i := 230) rfl) rfl
theorem wd_471 : Cond.classLink "RealText" 53 "java/lang/IllegalArgumentException" ∈ zw := zw_2 (List.mem_of_getElem? (i := 231) rfl) rfl
theorem wd_472 : Cond.instantiable "java/lang/IllegalArgumentException" 6 ∈ zw := zw_2 (List.mem_of_getElem? (i := 232) rfl) rfl
theorem wd_480 : Cond.selects "java/lang/IllegalArgumentException" y_Thr_fillInStackTrace_0 y_Thr_fillInStackTrace_0 ∈ zw := zw_3 (List.mem_of_getElem? (i := 0) rfl) rfl
theorem wd_481 : Cond.selects "java/lang/IllegalArgumentException" y_Thr_fillInStackTrace_1 y_Thr_fillInStackTrace_1 ∈ zw := zw_3 (List.mem_of_getElem? (i := 1) rfl) rfl
theorem wd_482 : Cond.lays "java/lang/IllegalArgumentException" "java/lang/Throwable" "cause" "Ljava/lang/Throwable;" ∈ zw := zw_3 (List.mem_of_getElem? (i := 2) rfl) rfl
theorem wd_483 : Cond.lays "java/lang/Throwable" "java/lang/Throwable" "cause" "Ljava/lang/Throwable;" ∈ zw := zw_3 (List.mem_of_getElem? (i := 3) rfl) rfl
theorem wd_484 : Cond.lays "java/lang/IllegalArgumentException" "java/lang/Throwable" "stackTrace" "[Ljava/lang/StackTraceElement;" ∈ zw := zw_3 (List.mem_of_getElem? (i := 4) rfl) rfl
theorem wd_485 : Cond.lays "java/lang/Throwable" "java/lang/Throwable" "stackTrace" "[Ljava/lang/StackTraceElement;" ∈ zw := zw_3 (List.mem_of_getElem? (i := 5) rfl) rfl
theorem wd_486 : Cond.lays "java/lang/IllegalArgumentException" "java/lang/Throwable" "suppressedExceptions" "Ljava/util/List;" ∈ zw := zw_3 (List.mem_of_getElem? (i := 6) rfl) rfl
theorem wd_487 : Cond.lays "java/lang/Throwable" "java/lang/Throwable" "suppressedExceptions" "Ljava/util/List;" ∈ zw := zw_3 (List.mem_of_getElem? (i := 7) rfl) rfl
theorem wd_488 : Cond.lays "java/lang/IllegalArgumentException" "java/lang/Throwable" "detailMessage" "Ljava/lang/String;" ∈ zw := zw_3 (List.mem_of_getElem? (i := 8) rfl) rfl
theorem wd_489 : Cond.lays "java/lang/Throwable" "java/lang/Throwable" "detailMessage" "Ljava/lang/String;" ∈ zw := zw_3 (List.mem_of_getElem? (i := 9) rfl) rfl
theorem wd_490 : Cond.lays "java/lang/IllegalArgumentException" "java/lang/Throwable" "backtrace" "Ljava/lang/Object;" ∈ zw := zw_3 (List.mem_of_getElem? (i := 10) rfl) rfl
theorem wd_491 : Cond.lays "java/lang/Throwable" "java/lang/Throwable" "backtrace" "Ljava/lang/Object;" ∈ zw := zw_3 (List.mem_of_getElem? (i := 11) rfl) rfl
theorem wd_492 : Cond.fieldLink "java/lang/Throwable" 198 "java/lang/Throwable" "backtrace" "Ljava/lang/Object;" ∈ zw := zw_3 (List.mem_of_getElem? (i := 12) rfl) rfl
theorem wd_494 : Cond.instanceMethod y_Thr_init_0 ∈ zw := zw_3 (List.mem_of_getElem? (i := 14) rfl) rfl
theorem wd_495 : Cond.code y_Thr_init_0 prog_22_method_1_code 1 none ∈ zw := zw_3 (List.mem_of_getElem? (i := 15) rfl) rfl
theorem wd_496 : Cond.methodLink "java/lang/Throwable" 1 y_Obj_init ∈ zw := zw_3 (List.mem_of_getElem? (i := 16) rfl) rfl
theorem wd_497 : Cond.fieldLink "java/lang/Throwable" 13 "java/lang/Throwable" "UNASSIGNED_STACK" "[Ljava/lang/StackTraceElement;" ∈ zw := zw_3 (List.mem_of_getElem? (i := 17) rfl) rfl
theorem wd_499 : Cond.fieldLink "java/lang/Throwable" 20 "java/lang/Throwable" "SUPPRESSED_SENTINEL" "Ljava/util/List;" ∈ zw := zw_3 (List.mem_of_getElem? (i := 19) rfl) rfl
theorem wd_501 : Cond.methodLink "java/lang/Throwable" 27 y_Thr_fillInStackTrace_1 ∈ zw := zw_3 (List.mem_of_getElem? (i := 21) rfl) rfl
theorem wd_502 : Cond.instanceMethod y_Thr_fillInStackTrace_1 ∈ zw := zw_3 (List.mem_of_getElem? (i := 22) rfl) rfl
theorem wd_504 : Cond.selects "java/lang/ArithmeticException" y_Thr_fillInStackTrace_1 y_Thr_fillInStackTrace_1 ∈ zw := zw_3 (List.mem_of_getElem? (i := 24) rfl) rfl
theorem wd_505 : Cond.selects "java/lang/IllegalStateException" y_Thr_fillInStackTrace_1 y_Thr_fillInStackTrace_1 ∈ zw := zw_3 (List.mem_of_getElem? (i := 25) rfl) rfl
theorem wd_507 : Cond.methodLink "java/lang/Throwable" 202 y_Thr_fillInStackTrace_0 ∈ zw := zw_3 (List.mem_of_getElem? (i := 27) rfl) rfl
theorem wd_509 : Cond.instanceMethod y_Thr_fillInStackTrace_0 ∈ zw := zw_3 (List.mem_of_getElem? (i := 29) rfl) rfl
theorem wd_510 : Cond.instantiable "java/lang/Throwable" 6 ∈ zw := zw_3 (List.mem_of_getElem? (i := 30) rfl) rfl
theorem wd_511 : Cond.native y_Thr_fillInStackTrace_0 ∈ zw := zw_3 (List.mem_of_getElem? (i := 31) rfl) rfl
theorem wd_512 : Cond.methodLink "RealText" 55 y_IllegalArgumentException_init ∈ zw := zw_3 (List.mem_of_getElem? (i := 32) rfl) rfl
theorem wd_513 : Cond.instanceMethod y_IllegalArgumentException_init ∈ zw := zw_3 (List.mem_of_getElem? (i := 33) rfl) rfl
theorem wd_514 : Cond.code y_IllegalArgumentException_init prog_14_method_1_code 1 none ∈ zw := zw_3 (List.mem_of_getElem? (i := 34) rfl) rfl
theorem wd_515 : Cond.methodLink "java/lang/IllegalArgumentException" 1 y_RuntimeException_init_0 ∈ zw := zw_3 (List.mem_of_getElem? (i := 35) rfl) rfl
theorem wd_516 : Cond.instanceMethod y_RuntimeException_init_0 ∈ zw := zw_3 (List.mem_of_getElem? (i := 36) rfl) rfl
theorem wd_517 : Cond.code y_RuntimeException_init_0 prog_17_method_1_code 1 none ∈ zw := zw_3 (List.mem_of_getElem? (i := 37) rfl) rfl
theorem wd_518 : Cond.methodLink "java/lang/RuntimeException" 1 y_Exception_init_0 ∈ zw := zw_3 (List.mem_of_getElem? (i := 38) rfl) rfl
theorem wd_519 : Cond.instanceMethod y_Exception_init_0 ∈ zw := zw_3 (List.mem_of_getElem? (i := 39) rfl) rfl
theorem wd_520 : Cond.code y_Exception_init_0 prog_13_method_1_code 1 none ∈ zw := zw_3 (List.mem_of_getElem? (i := 40) rfl) rfl
theorem wd_521 : Cond.methodLink "java/lang/Exception" 1 y_Thr_init_0 ∈ zw := zw_3 (List.mem_of_getElem? (i := 41) rfl) rfl
theorem wd_523 : Cond.fieldLink "java/lang/Throwable" 7 "java/lang/Throwable" "cause" "Ljava/lang/Throwable;" ∈ zw := zw_3 (List.mem_of_getElem? (i := 43) rfl) rfl
theorem wd_524 : Cond.fieldLink "java/lang/Throwable" 17 "java/lang/Throwable" "stackTrace" "[Ljava/lang/StackTraceElement;" ∈ zw := zw_3 (List.mem_of_getElem? (i := 44) rfl) rfl
theorem wd_525 : Cond.fieldLink "java/lang/Throwable" 24 "java/lang/Throwable" "suppressedExceptions" "Ljava/util/List;" ∈ zw := zw_3 (List.mem_of_getElem? (i := 45) rfl) rfl
theorem wd_530 : Cond.lays "java/lang/IllegalArgumentException" "java/lang/Throwable" "depth" "I" ∈ zw := zw_3 (List.mem_of_getElem? (i := 50) rfl) rfl
theorem wd_534 : Cond.methodLink "RealText" 60 y_RT_charactersIn ∈ zw := zw_3 (List.mem_of_getElem? (i := 54) rfl) rfl
theorem wd_535 : Cond.static y_RT_charactersIn ∈ zw := zw_3 (List.mem_of_getElem? (i := 55) rfl) rfl
theorem wd_536 : Cond.code y_RT_charactersIn prog_1_method_10_code 4 (some .int) ∈ zw := zw_3 (List.mem_of_getElem? (i := 56) rfl) rfl
theorem wd_537 : Cond.classLink "RealText" 64 "java/lang/IllegalStateException" ∈ zw := zw_3 (List.mem_of_getElem? (i := 57) rfl) rfl
theorem wd_538 : Cond.instantiable "java/lang/IllegalStateException" 6 ∈ zw := zw_3 (List.mem_of_getElem? (i := 58) rfl) rfl
theorem wd_540 : Cond.selects "java/lang/IllegalStateException" y_Thr_fillInStackTrace_0 y_Thr_fillInStackTrace_0 ∈ zw := zw_3 (List.mem_of_getElem? (i := 60) rfl) rfl
theorem wd_541 : Cond.lays "java/lang/IllegalStateException" "java/lang/Throwable" "cause" "Ljava/lang/Throwable;" ∈ zw := zw_3 (List.mem_of_getElem? (i := 61) rfl) rfl
theorem wd_542 : Cond.lays "java/lang/IllegalStateException" "java/lang/Throwable" "stackTrace" "[Ljava/lang/StackTraceElement;" ∈ zw := zw_3 (List.mem_of_getElem? (i := 62) rfl) rfl
theorem wd_543 : Cond.lays "java/lang/IllegalStateException" "java/lang/Throwable" "suppressedExceptions" "Ljava/util/List;" ∈ zw := zw_3 (List.mem_of_getElem? (i := 63) rfl) rfl
theorem wd_544 : Cond.lays "java/lang/IllegalStateException" "java/lang/Throwable" "detailMessage" "Ljava/lang/String;" ∈ zw := zw_3 (List.mem_of_getElem? (i := 64) rfl) rfl
theorem wd_545 : Cond.lays "java/lang/IllegalStateException" "java/lang/Throwable" "backtrace" "Ljava/lang/Object;" ∈ zw := zw_3 (List.mem_of_getElem? (i := 65) rfl) rfl
theorem wd_546 : Cond.methodLink "RealText" 66 y_IllegalStateException_init ∈ zw := zw_3 (List.mem_of_getElem? (i := 66) rfl) rfl
theorem wd_547 : Cond.instanceMethod y_IllegalStateException_init ∈ zw := zw_3 (List.mem_of_getElem? (i := 67) rfl) rfl
theorem wd_548 : Cond.code y_IllegalStateException_init prog_15_method_1_code 1 none ∈ zw := zw_3 (List.mem_of_getElem? (i := 68) rfl) rfl
theorem wd_549 : Cond.methodLink "java/lang/IllegalStateException" 1 y_RuntimeException_init_0 ∈ zw := zw_3 (List.mem_of_getElem? (i := 69) rfl) rfl
theorem wd_550 : Cond.lays "java/lang/IllegalStateException" "java/lang/Throwable" "depth" "I" ∈ zw := zw_3 (List.mem_of_getElem? (i := 70) rfl) rfl
theorem wd_552 : Cond.methodLink "RealTextLaw" 43 y_Law_read ∈ zw := zw_3 (List.mem_of_getElem? (i := 72) rfl) rfl
theorem wd_553 : Cond.static y_Law_read ∈ zw := zw_3 (List.mem_of_getElem? (i := 73) rfl) rfl
theorem wd_555 : Cond.classLink "RealTextLaw" 21 "java/lang/ArithmeticException" ∈ zw := zw_3 (List.mem_of_getElem? (i := 75) rfl) rfl
theorem wd_556 : Cond.methodLink "RealTextLaw" 17 y_RT_read ∈ zw := zw_3 (List.mem_of_getElem? (i := 76) rfl) rfl
theorem wd_557 : Cond.instanceMethod y_RT_read ∈ zw := zw_3 (List.mem_of_getElem? (i := 77) rfl) rfl
theorem wd_558 : Cond.selects "RealText" y_RT_read y_RT_read ∈ zw := zw_3 (List.mem_of_getElem? (i := 78) rfl) rfl
theorem wd_559 : Cond.code y_RT_read prog_1_method_3_code 4 (some .long) ∈ zw := zw_3 (List.mem_of_getElem? (i := 79) rfl) rfl
theorem wd_560 : Cond.methodLink "RealText" 84 y_RT_bitsOfText ∈ zw := zw_3 (List.mem_of_getElem? (i := 80) rfl) rfl
theorem wd_562 : Cond.instanceMethod y_RT_bitsOfText ∈ zw := zw_3 (List.mem_of_getElem? (i := 82) rfl) rfl
theorem wd_563 : Cond.code y_RT_bitsOfText prog_1_method_11_code 2 (some .long) ∈ zw := zw_3 (List.mem_of_getElem? (i := 83) rfl) rfl
theorem wd_564 : Cond.methodLink "RealText" 155 y_Lit_scan ∈ zw := zw_3 (List.mem_of_getElem? (i := 84) rfl) rfl
theorem wd_565 : Cond.instanceMethod y_Lit_scan ∈ zw := zw_3 (List.mem_of_getElem? (i := 85) rfl) rfl
theorem wd_566 : Cond.selects "RealText$Literal" y_Lit_scan y_Lit_scan ∈ zw := zw_3 (List.mem_of_getElem? (i := 86) rfl) rfl
theorem wd_567 : Cond.code y_Lit_scan prog_5_method_2_code 7 (some .boolean) ∈ zw := zw_3 (List.mem_of_getElem? (i := 87) rfl) rfl
theorem wd_568 : Cond.methodLink "RealText$Literal" 15 y_Row_at ∈ zw := zw_3 (List.mem_of_getElem? (i := 88) rfl) rfl
theorem wd_569 : Cond.methodLink "RealText$Literal" 21 y_Lit_isEither ∈ zw := zw_3 (List.mem_of_getElem? (i := 89) rfl) rfl
theorem wd_570 : Cond.static y_Lit_isEither ∈ zw := zw_3 (List.mem_of_getElem? (i := 90) rfl) rfl
theorem wd_571 : Cond.code y_Lit_isEither prog_5_method_4_code 3 (some .boolean) ∈ zw := zw_3 (List.mem_of_getElem? (i := 91) rfl) rfl
theorem wd_572 : Cond.methodLink "RealText$Literal" 29 y_Lit_endOfDigits ∈ zw := zw_3 (List.mem_of_getElem? (i := 92) rfl) rfl
theorem wd_573 : Cond.static y_Lit_endOfDigits ∈ zw := zw_3 (List.mem_of_getElem? (i := 93) rfl) rfl
theorem wd_574 : Cond.code y_Lit_endOfDigits prog_5_method_5_code 6 (some .int) ∈ zw := zw_3 (List.mem_of_getElem? (i := 94) rfl) rfl
theorem wd_575 : Cond.methodLink "RealText$Literal" 54 y_Row_length ∈ zw := zw_3 (List.mem_of_getElem? (i := 95) rfl) rfl
theorem wd_576 : Cond.methodLink "RealText$Literal" 61 y_Lit_digitOf ∈ zw := zw_3 (List.mem_of_getElem? (i := 96) rfl) rfl
theorem wd_577 : Cond.static y_Lit_digitOf ∈ zw := zw_3 (List.mem_of_getElem? (i := 97) rfl) rfl
theorem wd_578 : Cond.code y_Lit_digitOf prog_5_method_6_code 2 (some .int) ∈ zw := zw_3 (List.mem_of_getElem? (i := 98) rfl) rfl
theorem wd_579 : Cond.methodLink "RealText$Literal" 37 y_Lit_addDigits ∈ zw := zw_3 (List.mem_of_getElem? (i := 99) rfl) rfl
theorem wd_581 : Cond.instanceMethod y_Lit_addDigits ∈ zw := zw_3 (List.mem_of_getElem? (i := 101) rfl) rfl
theorem wd_582 : Cond.code y_Lit_addDigits prog_5_method_7_code 8 (some .int) ∈ zw := zw_3 (List.mem_of_getElem? (i := 102) rfl) rfl
theorem wd_583 : Cond.methodLink "RealText$Literal" 65 y_Lit_addDigit ∈ zw := zw_3 (List.mem_of_getElem? (i := 103) rfl) rfl
theorem wd_585 : Cond.instanceMethod y_Lit_addDigit ∈ zw := zw_3 (List.mem_of_getElem? (i := 105) rfl) rfl
theorem wd_586 : Cond.code y_Lit_addDigit prog_5_method_8_code 3 none ∈ zw := zw_3 (List.mem_of_getElem? (i := 106) rfl) rfl
theorem wd_587 : Cond.methodLink "RealText$Literal" 44 y_Lit_dropZerosBehind ∈ zw := zw_3 (List.mem_of_getElem? (i := 107) rfl) rfl
theorem wd_589 : Cond.instanceMethod y_Lit_dropZerosBehind ∈ zw := zw_3 (List.mem_of_getElem? (i := 109) rfl) rfl
theorem wd_590 : Cond.code y_Lit_dropZerosBehind prog_5_method_9_code 1 none ∈ zw := zw_3 (List.mem_of_getElem? (i := 110) rfl) rfl
theorem wd_591 : Cond.methodLink "RealText$Literal" 47 y_Lit_scanExponent ∈ zw := zw_3 (List.mem_of_getElem? (i := 111) rfl) rfl
theorem wd_593 : Cond.instanceMethod y_Lit_scanExponent ∈ zw := zw_3 (List.mem_of_getElem? (i := 113) rfl) rfl
theorem wd_594 : Cond.code y_Lit_scanExponent prog_5_method_3_code 8 (some .boolean) ∈ zw := zw_3 (List.mem_of_getElem? (i := 114) rfl) rfl
theorem wd_595 : Cond.methodLink "RealText$Literal" 58 y_Lit_exponentIn ∈ zw := zw_3 (List.mem_of_getElem? (i := 115) rfl) rfl
theorem wd_596 : Cond.static y_Lit_exponentIn ∈ zw := zw_3 (List.mem_of_getElem? (i := 116) rfl) rfl
theorem wd_597 : Cond.code y_Lit_exponentIn prog_5_method_10_code 6 (some .int) ∈ zw := zw_3 (List.mem_of_getElem? (i := 117) rfl) rfl
theorem wd_598 : Cond.constant "RealText$Literal" 69 1000000 ∈ zw := zw_3 (List.mem_of_getElem? (i := 118) rfl) rfl
theorem wd_599 : Cond.methodLink "RealText$Literal" 70 y_Mat_min ∈ zw := zw_3 (List.mem_of_getElem? (i := 119) rfl) rfl
theorem wd_600 : Cond.constantLong "RealText" 91 (-1) ∈ zw := zw_3 (List.mem_of_getElem? (i := 120) rfl) rfl
theorem wd_601 : Cond.methodLink "RealText" 166 y_RT_bitsOfHex ∈ zw := zw_3 (List.mem_of_getElem? (i := 121) rfl) rfl
theorem wd_603 : Cond.instanceMethod y_RT_bitsOfHex ∈ zw := zw_3 (List.mem_of_getElem? (i := 123) rfl) rfl
theorem wd_604 : Cond.code y_RT_bitsOfHex prog_1_method_12_code 8 (some .long) ∈ zw := zw_3 (List.mem_of_getElem? (i := 124) rfl) rfl
theorem wd_605 : Cond.methodLink "RealText" 182 y_Fmt_nearest ∈ zw := zw_3 (List.mem_of_getElem? (i := 125) rfl) rfl
theorem wd_606 : Cond.instanceMethod y_Fmt_nearest ∈ zw := zw_3 (List.mem_of_getElem? (i := 126) rfl) rfl
theorem wd_607 : Cond.selects "RealText$Format" y_Fmt_nearest y_Fmt_nearest ∈ zw := zw_3 (List.mem_of_getElem? (i := 127) rfl) rfl
theorem wd_608 : Cond.code y_Fmt_nearest prog_4_method_13_code 9 (some .long) ∈ zw := zw_3 (List.mem_of_getElem? (i := 128) rfl) rfl
theorem wd_609 : Cond.constantLong "RealText$Format" 64 4611686018427387904 ∈ zw := zw_3 (List.mem_of_getElem? (i := 129) rfl) rfl
theorem wd_610 : Cond.constantLong "RealText$Format" 66 (-2) ∈ zw := zw_3 (List.mem_of_getElem? (i := 130) rfl) rfl
theorem wd_611 : Cond.methodLink "RealText$Format" 68 y_Fmt_rounded ∈ zw := zw_3 (List.mem_of_getElem? (i := 131) rfl) rfl
theorem wd_612 : Cond.static y_Fmt_rounded ∈ zw := zw_3 (List.mem_of_getElem? (i := 132) rfl) rfl
theorem wd_613 : Cond.code y_Fmt_rounded prog_4_method_14_code 12 (some .long) ∈ zw := zw_3 (List.mem_of_getElem? (i := 133) rfl) rfl
theorem wd_614 : Cond.methodLink "RealText$Format" 72 y_Fmt_join ∈ zw := zw_3 (List.mem_of_getElem? (i := 134) rfl) rfl
theorem wd_616 : Cond.instanceMethod y_Fmt_join ∈ zw := zw_3 (List.mem_of_getElem? (i := 136) rfl) rfl
theorem wd_617 : Cond.code y_Fmt_join prog_4_method_15_code 7 (some .long) ∈ zw := zw_3 (List.mem_of_getElem? (i := 137) rfl) rfl
theorem wd_618 : Cond.methodLink "RealText" 169 y_RT_bitsOfDecimal ∈ zw := zw_3 (List.mem_of_getElem? (i := 138) rfl) rfl
theorem wd_620 : Cond.instanceMethod y_RT_bitsOfDecimal ∈ zw := zw_3 (List.mem_of_getElem? (i := 140) rfl) rfl
theorem wd_621 : Cond.code y_RT_bitsOfDecimal prog_1_method_13_code 4 (some .long) ∈ zw := zw_3 (List.mem_of_getElem? (i := 141) rfl) rfl
theorem wd_622 : Cond.constantLong "RealText" 97 (-2) ∈ zw := zw_3 (List.mem_of_getElem? (i := 142) rfl) rfl
theorem wd_623 : Cond.methodLink "RealText" 186 y_Quo_divide ∈ zw := zw_3 (List.mem_of_getElem? (i := 143) rfl) rfl
theorem wd_624 : Cond.instanceMethod y_Quo_divide ∈ zw := zw_3 (List.mem_of_getElem? (i := 144) rfl) rfl
theorem wd_625 : Cond.selects "RealText$Quotient" y_Quo_divide y_Quo_divide ∈ zw := zw_3 (List.mem_of_getElem? (i := 145) rfl) rfl
theorem wd_626 : Cond.code y_Quo_divide prog_6_method_2_code 4 none ∈ zw := zw_3 (List.mem_of_getElem? (i := 146) rfl) rfl
theorem wd_627 : Cond.methodLink "RealText$Quotient" 21 y_Quo_setNumerator ∈ zw := zw_3 (List.mem_of_getElem? (i := 147) rfl) rfl
theorem wd_629 : Cond.instanceMethod y_Quo_setNumerator ∈ zw := zw_3 (List.mem_of_getElem? (i := 149) rfl) rfl
theorem wd_630 : Cond.code y_Quo_setNumerator prog_6_method_3_code 6 none ∈ zw := zw_3 (List.mem_of_getElem? (i := 150) rfl) rfl
theorem wd_631 : Cond.methodLink "RealText$Quotient" 25 y_Big_set ∈ zw := zw_3 (List.mem_of_getElem? (i := 151) rfl) rfl
theorem wd_632 : Cond.methodLink "RealText$Quotient" 65 y_Big_multiplyAndAdd ∈ zw := zw_3 (List.mem_of_getElem? (i := 152) rfl) rfl
theorem wd_633 : Cond.methodLink "RealText$Quotient" 29 y_Big_multiplyByFives ∈ zw := zw_3 (List.mem_of_getElem? (i := 153) rfl) rfl
theorem wd_634 : Cond.methodLink "RealText$Quotient" 32 y_Big_bitLength ∈ zw := zw_3 (List.mem_of_getElem? (i := 154) rfl) rfl
theorem wd_635 : Cond.methodLink "RealText$Quotient" 36 y_Big_shiftLeft ∈ zw := zw_3 (List.mem_of_getElem? (i := 155) rfl) rfl
theorem wd_636 : Cond.methodLink "RealText$Quotient" 39 y_Quo_divideBits ∈ zw := zw_3 (List.mem_of_getElem? (i := 156) rfl) rfl
theorem wd_638 : Cond.instanceMethod y_Quo_divideBits ∈ zw := zw_3 (List.mem_of_getElem? (i := 158) rfl) rfl
theorem wd_639 : Cond.code y_Quo_divideBits prog_6_method_4_code 2 none ∈ zw := zw_3 (List.mem_of_getElem? (i := 159) rfl) rfl
theorem wd_640 : Cond.methodLink "RealText$Quotient" 73 y_Big_compare ∈ zw := zw_3 (List.mem_of_getElem? (i := 160) rfl) rfl
theorem wd_641 : Cond.methodLink "RealText$Quotient" 77 y_Big_subtract ∈ zw := zw_3 (List.mem_of_getElem? (i := 161) rfl) rfl
theorem wd_642 : Cond.methodLink "RealText$Quotient" 48 y_Big_isZero ∈ zw := zw_3 (List.mem_of_getElem? (i := 162) rfl) rfl
theorem wd_643 : Cond.instanceMethod y_Big_isZero ∈ zw := zw_3 (List.mem_of_getElem? (i := 163) rfl) rfl
theorem wd_644 : Cond.selects "RealText$Big" y_Big_isZero y_Big_isZero ∈ zw := zw_3 (List.mem_of_getElem? (i := 164) rfl) rfl
theorem wd_645 : Cond.code y_Big_isZero prog_2_method_4_code 1 (some .boolean) ∈ zw := zw_3 (List.mem_of_getElem? (i := 165) rfl) rfl
theorem wd_646 : Cond.classLink "RealText" 102 "java/lang/ArithmeticException" ∈ zw := zw_3 (List.mem_of_getElem? (i := 166) rfl) rfl
theorem wd_647 : Cond.instantiable "java/lang/ArithmeticException" 6 ∈ zw := zw_3 (List.mem_of_getElem? (i := 167) rfl) rfl
theorem wd_649 : Cond.selects "java/lang/ArithmeticException" y_Thr_fillInStackTrace_0 y_Thr_fillInStackTrace_0 ∈ zw := zw_3 (List.mem_of_getElem? (i := 169) rfl) rfl
theorem wd_650 : Cond.lays "java/lang/ArithmeticException" "java/lang/Throwable" "cause" "Ljava/lang/Throwable;" ∈ zw := zw_3 (List.mem_of_getElem? (i := 170) rfl) rfl
theorem wd_651 : Cond.lays "java/lang/ArithmeticException" "java/lang/Throwable" "stackTrace" "[Ljava/lang/StackTraceElement;" ∈ zw := zw_3 (List.mem_of_getElem? (i := 171) rfl) rfl
theorem wd_652 : Cond.lays "java/lang/ArithmeticException" "java/lang/Throwable" "suppressedExceptions" "Ljava/util/List;" ∈ zw := zw_3 (List.mem_of_getElem? (i := 172) rfl) rfl
theorem wd_653 : Cond.lays "java/lang/ArithmeticException" "java/lang/Throwable" "detailMessage" "Ljava/lang/String;" ∈ zw := zw_3 (List.mem_of_getElem? (i := 173) rfl) rfl
theorem wd_654 : Cond.lays "java/lang/ArithmeticException" "java/lang/Throwable" "backtrace" "Ljava/lang/Object;" ∈ zw := zw_3 (List.mem_of_getElem? (i := 174) rfl) rfl
theorem wd_655 : Cond.methodLink "RealText" 104 y_ArithmeticException_init ∈ zw := zw_3 (List.mem_of_getElem? (i := 175) rfl) rfl
theorem wd_656 : Cond.instanceMethod y_ArithmeticException_init ∈ zw := zw_3 (List.mem_of_getElem? (i := 176) rfl) rfl
theorem wd_657 : Cond.code y_ArithmeticException_init prog_11_method_1_code 1 none ∈ zw := zw_3 (List.mem_of_getElem? (i := 177) rfl) rfl
theorem wd_658 : Cond.methodLink "java/lang/ArithmeticException" 1 y_RuntimeException_init_0 ∈ zw := zw_3 (List.mem_of_getElem? (i := 178) rfl) rfl
theorem wd_659 : Cond.lays "java/lang/ArithmeticException" "java/lang/Throwable" "depth" "I" ∈ zw := zw_3 (List.mem_of_getElem? (i := 179) rfl) rfl
theorem wd_661 : Cond.methodLink "RealTextLaw" 61 y_Law_count ∈ zw := zw_3 (List.mem_of_getElem? (i := 181) rfl) rfl
theorem wd_662 : Cond.static y_Law_count ∈ zw := zw_3 (List.mem_of_getElem? (i := 182) rfl) rfl
theorem wd_664 : Cond.methodLink "RealTextLaw" 23 y_RT_count ∈ zw := zw_3 (List.mem_of_getElem? (i := 184) rfl) rfl
theorem wd_665 : Cond.instanceMethod y_RT_count ∈ zw := zw_3 (List.mem_of_getElem? (i := 185) rfl) rfl
theorem wd_666 : Cond.selects "RealText" y_RT_count y_RT_count ∈ zw := zw_3 (List.mem_of_getElem? (i := 186) rfl) rfl
theorem wd_667 : Cond.code y_RT_count prog_1_method_7_code 2 (some .int) ∈ zw := zw_3 (List.mem_of_getElem? (i := 187) rfl) rfl
theorem wd_668 : Cond.classLink "RealTextLaw" 28 "RealTextModel" ∈ zw := zw_3 (List.mem_of_getElem? (i := 188) rfl) rfl
theorem wd_669 : Cond.instantiable "RealTextModel" 26 ∈ zw := zw_3 (List.mem_of_getElem? (i := 189) rfl) rfl
theorem wd_670 : Cond.methodLink "RealTextLaw" 30 y_Mod_init ∈ zw := zw_3 (List.mem_of_getElem? (i := 190) rfl) rfl
theorem wd_671 : Cond.instanceMethod y_Mod_init ∈ zw := zw_3 (List.mem_of_getElem? (i := 191) rfl) rfl
theorem wd_672 : Cond.code y_Mod_init prog_10_method_1_code 1 none ∈ zw := zw_3 (List.mem_of_getElem? (i := 192) rfl) rfl
theorem wd_673 : Cond.methodLink "RealTextModel" 1 y_Obj_init ∈ zw := zw_3 (List.mem_of_getElem? (i := 193) rfl) rfl
theorem wd_674 : Cond.fieldLink "RealTextModel" 7 "RealTextModel" "text" "[I" ∈ zw := zw_3 (List.mem_of_getElem? (i := 194) rfl) rfl
theorem wd_675 : Cond.fieldLink "RealTextModel" 13 "RealTextModel" "written" "[I" ∈ zw := zw_3 (List.mem_of_getElem? (i := 195) rfl) rfl
theorem wd_676 : Cond.fieldLink "RealTextModel" 46 "RealTextModel" "length" "I" ∈ zw := zw_3 (List.mem_of_getElem? (i := 196) rfl) rfl
theorem wd_677 : Cond.fieldLink "RealTextModel" 168 "RealTextModel" "laid" "I" ∈ zw := zw_3 (List.mem_of_getElem? (i := 197) rfl) rfl
theorem wd_678 : Cond.fieldLink "RealTextModel" 214 "RealTextModel" "gone" "I" ∈ zw := zw_3 (List.mem_of_getElem? (i := 198) rfl) rfl
theorem wd_679 : Cond.fieldLink "RealTextModel" 34 "RealTextModel" "thrown" "I" ∈ zw := zw_3 (List.mem_of_getElem? (i := 199) rfl) rfl
theorem wd_680 : Cond.fieldLink "RealTextModel" 155 "RealTextModel" "were" "I" ∈ zw := zw_3 (List.mem_of_getElem? (i := 200) rfl) rfl
theorem wd_681 : Cond.fieldLink "RealTextModel" 145 "RealTextModel" "none" "I" ∈ zw := zw_3 (List.mem_of_getElem? (i := 201) rfl) rfl
theorem wd_682 : Cond.fieldLink "RealTextModel" 152 "RealTextModel" "beyond" "I" ∈ zw := zw_3 (List.mem_of_getElem? (i := 202) rfl) rfl
theorem wd_683 : Cond.fieldLink "RealTextModel" 16 "RealTextModel" "a" "[I" ∈ zw := zw_3 (List.mem_of_getElem? (i := 203) rfl) rfl
theorem wd_684 : Cond.fieldLink "RealTextModel" 19 "RealTextModel" "b" "[I" ∈ zw := zw_3 (List.mem_of_getElem? (i := 204) rfl) rfl
theorem wd_685 : Cond.fieldLink "RealTextModel" 22 "RealTextModel" "five" "[I" ∈ zw := zw_3 (List.mem_of_getElem? (i := 205) rfl) rfl
theorem wd_686 : Cond.fieldLink "RealTextModel" 25 "RealTextModel" "left" "[I" ∈ zw := zw_3 (List.mem_of_getElem? (i := 206) rfl) rfl
theorem wd_687 : Cond.fieldLink "RealTextModel" 28 "RealTextModel" "right" "[I" ∈ zw := zw_3 (List.mem_of_getElem? (i := 207) rfl) rfl
theorem wd_688 : Cond.fieldLink "RealTextModel" 31 "RealTextModel" "part" "[I" ∈ zw := zw_3 (List.mem_of_getElem? (i := 208) rfl) rfl
theorem wd_689 : Cond.fieldLink "RealTextModel" 62 "RealTextModel" "aMany" "I" ∈ zw := zw_3 (List.mem_of_getElem? (i := 209) rfl) rfl
theorem wd_690 : Cond.fieldLink "RealTextModel" 72 "RealTextModel" "bMany" "I" ∈ zw := zw_3 (List.mem_of_getElem? (i := 210) rfl) rfl
theorem wd_691 : Cond.fieldLink "RealTextModel" 171 "RealTextModel" "fiveMany" "I" ∈ zw := zw_3 (List.mem_of_getElem? (i := 211) rfl) rfl
theorem wd_692 : Cond.fieldLink "RealTextModel" 69 "RealTextModel" "leftMany" "I" ∈ zw := zw_3 (List.mem_of_getElem? (i := 212) rfl) rfl
theorem wd_693 : Cond.fieldLink "RealTextModel" 79 "RealTextModel" "rightMany" "I" ∈ zw := zw_3 (List.mem_of_getElem? (i := 213) rfl) rfl
theorem wd_694 : Cond.fieldLink "RealTextModel" 59 "RealTextModel" "twos" "I" ∈ zw := zw_3 (List.mem_of_getElem? (i := 214) rfl) rfl
theorem wd_695 : Cond.fieldLink "RealTextModel" 107 "RealTextModel" "at" "I" ∈ zw := zw_3 (List.mem_of_getElem? (i := 215) rfl) rfl
theorem wd_696 : Cond.fieldLink "RealTextModel" 118 "RealTextModel" "digits" "I" ∈ zw := zw_3 (List.mem_of_getElem? (i := 216) rfl) rfl
theorem wd_697 : Cond.fieldLink "RealTextModel" 127 "RealTextModel" "power" "I" ∈ zw := zw_3 (List.mem_of_getElem? (i := 217) rfl) rfl
theorem wd_698 : Cond.fieldLink "RealTextModel" 121 "RealTextModel" "good" "Z" ∈ zw := zw_3 (List.mem_of_getElem? (i := 218) rfl) rfl
theorem wd_699 : Cond.laysFinal "RealTextModel" "RealTextModel" "text" "[I" ∈ zw := zw_3 (List.mem_of_getElem? (i := 219) rfl) rfl
theorem wd_701 : Cond.laysFinal "RealTextModel" "RealTextModel" "written" "[I" ∈ zw := zw_3 (List.mem_of_getElem? (i := 221) rfl) rfl
theorem wd_703 : Cond.lays "RealTextModel" "RealTextModel" "length" "I" ∈ zw := zw_3 (List.mem_of_getElem? (i := 223) rfl) rfl
theorem wd_705 : Cond.lays "RealTextModel" "RealTextModel" "laid" "I" ∈ zw := zw_3 (List.mem_of_getElem? (i := 225) rfl) rfl
theorem wd_707 : Cond.lays "RealTextModel" "RealTextModel" "gone" "I" ∈ zw := zw_3 (List.mem_of_getElem? (i := 227) rfl) rfl
theorem wd_709 : Cond.lays "RealTextModel" "RealTextModel" "thrown" "I" ∈ zw := zw_3 (List.mem_of_getElem? (i := 229) rfl) rfl
theorem wd_711 : Cond.lays "RealTextModel" "RealTextModel" "were" "I" ∈ zw := zw_3 (List.mem_of_getElem? (i := 231) rfl) rfl
theorem wd_713 : Cond.lays "RealTextModel" "RealTextModel" "none" "I" ∈ zw := zw_3 (List.mem_of_getElem? (i := 233) rfl) rfl
theorem wd_715 : Cond.lays "RealTextModel" "RealTextModel" "beyond" "I" ∈ zw := zw_3 (List.mem_of_getElem? (i := 235) rfl) rfl
theorem wd_717 : Cond.laysFinal "RealTextModel" "RealTextModel" "a" "[I" ∈ zw := zw_3 (List.mem_of_getElem? (i := 237) rfl) rfl
theorem wd_719 : Cond.laysFinal "RealTextModel" "RealTextModel" "b" "[I" ∈ zw := zw_3 (List.mem_of_getElem? (i := 239) rfl) rfl
theorem wd_721 : Cond.laysFinal "RealTextModel" "RealTextModel" "five" "[I" ∈ zw := zw_4 (List.mem_of_getElem? (i := 1) rfl) rfl
theorem wd_723 : Cond.laysFinal "RealTextModel" "RealTextModel" "left" "[I" ∈ zw := zw_4 (List.mem_of_getElem? (i := 3) rfl) rfl
theorem wd_725 : Cond.laysFinal "RealTextModel" "RealTextModel" "right" "[I" ∈ zw := zw_4 (List.mem_of_getElem? (i := 5) rfl) rfl
theorem wd_727 : Cond.laysFinal "RealTextModel" "RealTextModel" "part" "[I" ∈ zw := zw_4 (List.mem_of_getElem? (i := 7) rfl) rfl
theorem wd_729 : Cond.lays "RealTextModel" "RealTextModel" "aMany" "I" ∈ zw := zw_4 (List.mem_of_getElem? (i := 9) rfl) rfl
theorem wd_731 : Cond.lays "RealTextModel" "RealTextModel" "bMany" "I" ∈ zw := zw_4 (List.mem_of_getElem? (i := 11) rfl) rfl
theorem wd_733 : Cond.lays "RealTextModel" "RealTextModel" "fiveMany" "I" ∈ zw := zw_4 (List.mem_of_getElem? (i := 13) rfl) rfl
theorem wd_735 : Cond.lays "RealTextModel" "RealTextModel" "leftMany" "I" ∈ zw := zw_4 (List.mem_of_getElem? (i := 15) rfl) rfl
theorem wd_737 : Cond.lays "RealTextModel" "RealTextModel" "rightMany" "I" ∈ zw := zw_4 (List.mem_of_getElem? (i := 17) rfl) rfl
theorem wd_739 : Cond.lays "RealTextModel" "RealTextModel" "partMany" "I" ∈ zw := zw_4 (List.mem_of_getElem? (i := 19) rfl) rfl
theorem wd_741 : Cond.lays "RealTextModel" "RealTextModel" "twos" "I" ∈ zw := zw_4 (List.mem_of_getElem? (i := 21) rfl) rfl
theorem wd_743 : Cond.lays "RealTextModel" "RealTextModel" "at" "I" ∈ zw := zw_4 (List.mem_of_getElem? (i := 23) rfl) rfl
theorem wd_745 : Cond.lays "RealTextModel" "RealTextModel" "digits" "I" ∈ zw := zw_4 (List.mem_of_getElem? (i := 25) rfl) rfl
theorem wd_747 : Cond.lays "RealTextModel" "RealTextModel" "power" "I" ∈ zw := zw_4 (List.mem_of_getElem? (i := 27) rfl) rfl
theorem wd_749 : Cond.lays "RealTextModel" "RealTextModel" "good" "Z" ∈ zw := zw_4 (List.mem_of_getElem? (i := 29) rfl) rfl
theorem wd_752 : Cond.methodLink "RealTextLaw" 39 y_Mod_thrown ∈ zw := zw_4 (List.mem_of_getElem? (i := 32) rfl) rfl
theorem wd_753 : Cond.instanceMethod y_Mod_thrown ∈ zw := zw_4 (List.mem_of_getElem? (i := 33) rfl) rfl
theorem wd_754 : Cond.selects "RealTextModel" y_Mod_thrown y_Mod_thrown ∈ zw := zw_4 (List.mem_of_getElem? (i := 34) rfl) rfl
theorem wd_755 : Cond.code y_Mod_thrown prog_10_method_2_code 1 (some .int) ∈ zw := zw_4 (List.mem_of_getElem? (i := 35) rfl) rfl
theorem wd_756 : Cond.methodLink "RealTextLaw" 38 y_Mod_text ∈ zw := zw_4 (List.mem_of_getElem? (i := 36) rfl) rfl
theorem wd_757 : Cond.instanceMethod y_Mod_text ∈ zw := zw_4 (List.mem_of_getElem? (i := 37) rfl) rfl
theorem wd_758 : Cond.selects "RealTextModel" y_Mod_text y_Mod_text ∈ zw := zw_4 (List.mem_of_getElem? (i := 38) rfl) rfl
theorem wd_759 : Cond.code y_Mod_text prog_10_method_5_code 6 (some .int) ∈ zw := zw_4 (List.mem_of_getElem? (i := 39) rfl) rfl
theorem wd_760 : Cond.methodLink "RealTextModel" 38 y_Mod_in ∈ zw := zw_4 (List.mem_of_getElem? (i := 40) rfl) rfl
theorem wd_761 : Cond.static y_Mod_in ∈ zw := zw_4 (List.mem_of_getElem? (i := 41) rfl) rfl
theorem wd_762 : Cond.code y_Mod_in prog_10_method_3_code 3 (some .boolean) ∈ zw := zw_4 (List.mem_of_getElem? (i := 42) rfl) rfl
theorem wd_763 : Cond.methodLink "RealTextModel" 42 y_Mod_fail ∈ zw := zw_4 (List.mem_of_getElem? (i := 43) rfl) rfl
theorem wd_765 : Cond.instanceMethod y_Mod_fail ∈ zw := zw_4 (List.mem_of_getElem? (i := 45) rfl) rfl
theorem wd_766 : Cond.code y_Mod_fail prog_10_method_4_code 2 (some .int) ∈ zw := zw_4 (List.mem_of_getElem? (i := 46) rfl) rfl
theorem wd_767 : Cond.methodLink "RealTextLaw" 46 y_Mod_read ∈ zw := zw_4 (List.mem_of_getElem? (i := 47) rfl) rfl
theorem wd_768 : Cond.instanceMethod y_Mod_read ∈ zw := zw_4 (List.mem_of_getElem? (i := 48) rfl) rfl
theorem wd_769 : Cond.selects "RealTextModel" y_Mod_read y_Mod_read ∈ zw := zw_4 (List.mem_of_getElem? (i := 49) rfl) rfl
theorem wd_770 : Cond.code y_Mod_read prog_10_method_24_code 7 (some .long) ∈ zw := zw_4 (List.mem_of_getElem? (i := 50) rfl) rfl
theorem wd_771 : Cond.methodLink "RealTextModel" 137 y_Mod_isBinary ∈ zw := zw_4 (List.mem_of_getElem? (i := 51) rfl) rfl
theorem wd_773 : Cond.instanceMethod y_Mod_isBinary ∈ zw := zw_4 (List.mem_of_getElem? (i := 53) rfl) rfl
theorem wd_774 : Cond.code y_Mod_isBinary prog_10_method_22_code 1 (some .boolean) ∈ zw := zw_4 (List.mem_of_getElem? (i := 54) rfl) rfl
theorem wd_775 : Cond.methodLink "RealTextModel" 141 y_Mod_literal ∈ zw := zw_4 (List.mem_of_getElem? (i := 55) rfl) rfl
theorem wd_777 : Cond.instanceMethod y_Mod_literal ∈ zw := zw_4 (List.mem_of_getElem? (i := 57) rfl) rfl
theorem wd_778 : Cond.code y_Mod_literal prog_10_method_23_code 5 (some .boolean) ∈ zw := zw_4 (List.mem_of_getElem? (i := 58) rfl) rfl
theorem wd_779 : Cond.methodLink "RealTextModel" 130 y_Mod_row ∈ zw := zw_4 (List.mem_of_getElem? (i := 59) rfl) rfl
theorem wd_781 : Cond.instanceMethod y_Mod_row ∈ zw := zw_4 (List.mem_of_getElem? (i := 61) rfl) rfl
theorem wd_782 : Cond.code y_Mod_row prog_10_method_20_code 4 (some .int) ∈ zw := zw_4 (List.mem_of_getElem? (i := 62) rfl) rfl
theorem wd_783 : Cond.methodLink "RealTextModel" 110 y_Mod_look ∈ zw := zw_4 (List.mem_of_getElem? (i := 63) rfl) rfl
theorem wd_785 : Cond.instanceMethod y_Mod_look ∈ zw := zw_4 (List.mem_of_getElem? (i := 65) rfl) rfl
theorem wd_786 : Cond.code y_Mod_look prog_10_method_18_code 1 (some .int) ∈ zw := zw_4 (List.mem_of_getElem? (i := 66) rfl) rfl
theorem wd_787 : Cond.methodLink "RealTextModel" 114 y_Mod_digit ∈ zw := zw_4 (List.mem_of_getElem? (i := 67) rfl) rfl
theorem wd_788 : Cond.static y_Mod_digit ∈ zw := zw_4 (List.mem_of_getElem? (i := 68) rfl) rfl
theorem wd_789 : Cond.code y_Mod_digit prog_10_method_19_code 2 (some .int) ∈ zw := zw_4 (List.mem_of_getElem? (i := 69) rfl) rfl
theorem wd_790 : Cond.methodLink "RealTextModel" 55 y_Mod_grow ∈ zw := zw_4 (List.mem_of_getElem? (i := 70) rfl) rfl
theorem wd_791 : Cond.static y_Mod_grow ∈ zw := zw_4 (List.mem_of_getElem? (i := 71) rfl) rfl
theorem wd_792 : Cond.code y_Mod_grow prog_10_method_7_code 9 (some .int) ∈ zw := zw_4 (List.mem_of_getElem? (i := 72) rfl) rfl
theorem wd_793 : Cond.constantLong "RealTextModel" 49 65535 ∈ zw := zw_4 (List.mem_of_getElem? (i := 73) rfl) rfl
theorem wd_794 : Cond.methodLink "RealTextModel" 51 y_Mod_trimmed ∈ zw := zw_4 (List.mem_of_getElem? (i := 74) rfl) rfl
theorem wd_795 : Cond.static y_Mod_trimmed ∈ zw := zw_4 (List.mem_of_getElem? (i := 75) rfl) rfl
theorem wd_796 : Cond.code y_Mod_trimmed prog_10_method_6_code 3 (some .int) ∈ zw := zw_4 (List.mem_of_getElem? (i := 76) rfl) rfl
theorem wd_797 : Cond.methodLink "RealTextModel" 134 y_Mod_exponentRow ∈ zw := zw_4 (List.mem_of_getElem? (i := 77) rfl) rfl
theorem wd_799 : Cond.instanceMethod y_Mod_exponentRow ∈ zw := zw_4 (List.mem_of_getElem? (i := 79) rfl) rfl
theorem wd_800 : Cond.code y_Mod_exponentRow prog_10_method_21_code 5 none ∈ zw := zw_4 (List.mem_of_getElem? (i := 80) rfl) rfl
theorem wd_801 : Cond.constant "RealTextModel" 125 10000000 ∈ zw := zw_4 (List.mem_of_getElem? (i := 81) rfl) rfl
theorem wd_802 : Cond.constant "RealTextModel" 126 100000000 ∈ zw := zw_4 (List.mem_of_getElem? (i := 82) rfl) rfl
theorem wd_803 : Cond.methodLink "RealTextModel" 100 y_Mod_greatest ∈ zw := zw_4 (List.mem_of_getElem? (i := 83) rfl) rfl
theorem wd_804 : Cond.static y_Mod_greatest ∈ zw := zw_4 (List.mem_of_getElem? (i := 84) rfl) rfl
theorem wd_805 : Cond.code y_Mod_greatest prog_10_method_15_code 1 (some .long) ∈ zw := zw_4 (List.mem_of_getElem? (i := 85) rfl) rfl
theorem wd_806 : Cond.constantLong "RealTextModel" 82 2139095039 ∈ zw := zw_4 (List.mem_of_getElem? (i := 86) rfl) rfl
theorem wd_807 : Cond.constantLong "RealTextModel" 84 9218868437227405311 ∈ zw := zw_4 (List.mem_of_getElem? (i := 87) rfl) rfl
theorem wd_808 : Cond.methodLink "RealTextModel" 148 y_Mod_found ∈ zw := zw_4 (List.mem_of_getElem? (i := 88) rfl) rfl
theorem wd_810 : Cond.instanceMethod y_Mod_found ∈ zw := zw_4 (List.mem_of_getElem? (i := 90) rfl) rfl
theorem wd_811 : Cond.code y_Mod_found prog_10_method_25_code 3 (some .long) ∈ zw := zw_4 (List.mem_of_getElem? (i := 91) rfl) rfl
theorem wd_812 : Cond.methodLink "RealTextModel" 158 y_Mod_set ∈ zw := zw_4 (List.mem_of_getElem? (i := 92) rfl) rfl
theorem wd_813 : Cond.static y_Mod_set ∈ zw := zw_4 (List.mem_of_getElem? (i := 93) rfl) rfl
theorem wd_814 : Cond.code y_Mod_set prog_10_method_9_code 4 (some .int) ∈ zw := zw_4 (List.mem_of_getElem? (i := 94) rfl) rfl
theorem wd_815 : Cond.methodLink "RealTextModel" 162 y_Mod_fives ∈ zw := zw_4 (List.mem_of_getElem? (i := 95) rfl) rfl
theorem wd_816 : Cond.static y_Mod_fives ∈ zw := zw_4 (List.mem_of_getElem? (i := 96) rfl) rfl
theorem wd_817 : Cond.code y_Mod_fives prog_10_method_8_code 5 (some .int) ∈ zw := zw_4 (List.mem_of_getElem? (i := 97) rfl) rfl
theorem wd_818 : Cond.methodLink "RealTextModel" 165 y_Mod_nearest ∈ zw := zw_4 (List.mem_of_getElem? (i := 98) rfl) rfl
theorem wd_820 : Cond.instanceMethod y_Mod_nearest ∈ zw := zw_4 (List.mem_of_getElem? (i := 100) rfl) rfl
theorem wd_821 : Cond.code y_Mod_nearest prog_10_method_17_code 9 (some .long) ∈ zw := zw_4 (List.mem_of_getElem? (i := 101) rfl) rfl
theorem wd_822 : Cond.constantLong "RealTextModel" 86 2 ∈ zw := zw_4 (List.mem_of_getElem? (i := 102) rfl) rfl
theorem wd_823 : Cond.methodLink "RealTextModel" 88 y_Mod_mantissa ∈ zw := zw_4 (List.mem_of_getElem? (i := 103) rfl) rfl
theorem wd_824 : Cond.static y_Mod_mantissa ∈ zw := zw_4 (List.mem_of_getElem? (i := 104) rfl) rfl
theorem wd_825 : Cond.code y_Mod_mantissa prog_10_method_13_code 6 (some .long) ∈ zw := zw_4 (List.mem_of_getElem? (i := 105) rfl) rfl
theorem wd_826 : Cond.methodLink "RealTextModel" 92 y_Mod_exponent ∈ zw := zw_4 (List.mem_of_getElem? (i := 106) rfl) rfl
theorem wd_827 : Cond.static y_Mod_exponent ∈ zw := zw_4 (List.mem_of_getElem? (i := 107) rfl) rfl
theorem wd_828 : Cond.code y_Mod_exponent prog_10_method_14_code 4 (some .int) ∈ zw := zw_4 (List.mem_of_getElem? (i := 108) rfl) rfl
theorem wd_829 : Cond.methodLink "RealTextModel" 96 y_Mod_compare ∈ zw := zw_4 (List.mem_of_getElem? (i := 109) rfl) rfl
theorem wd_831 : Cond.instanceMethod y_Mod_compare ∈ zw := zw_4 (List.mem_of_getElem? (i := 111) rfl) rfl
theorem wd_832 : Cond.code y_Mod_compare prog_10_method_12_code 6 (some .int) ∈ zw := zw_4 (List.mem_of_getElem? (i := 112) rfl) rfl
theorem wd_833 : Cond.methodLink "RealTextModel" 65 y_Mod_shifted ∈ zw := zw_4 (List.mem_of_getElem? (i := 113) rfl) rfl
theorem wd_834 : Cond.static y_Mod_shifted ∈ zw := zw_4 (List.mem_of_getElem? (i := 114) rfl) rfl
theorem wd_835 : Cond.code y_Mod_shifted prog_10_method_10_code 6 (some .int) ∈ zw := zw_4 (List.mem_of_getElem? (i := 115) rfl) rfl
theorem wd_836 : Cond.methodLink "RealTextModel" 75 y_Mod_times ∈ zw := zw_4 (List.mem_of_getElem? (i := 116) rfl) rfl
theorem wd_838 : Cond.instanceMethod y_Mod_times ∈ zw := zw_4 (List.mem_of_getElem? (i := 118) rfl) rfl
theorem wd_839 : Cond.code y_Mod_times prog_10_method_11_code 14 (some .int) ∈ zw := zw_4 (List.mem_of_getElem? (i := 119) rfl) rfl
theorem wd_840 : Cond.methodLink "RealTextModel" 104 y_Mod_above ∈ zw := zw_4 (List.mem_of_getElem? (i := 120) rfl) rfl
theorem wd_842 : Cond.instanceMethod y_Mod_above ∈ zw := zw_4 (List.mem_of_getElem? (i := 122) rfl) rfl
theorem wd_843 : Cond.code y_Mod_above prog_10_method_16_code 4 (some .int) ∈ zw := zw_4 (List.mem_of_getElem? (i := 123) rfl) rfl
theorem wd_844 : Cond.methodLink "RealTextLaw" 51 y_Mod_write ∈ zw := zw_4 (List.mem_of_getElem? (i := 124) rfl) rfl
theorem wd_845 : Cond.instanceMethod y_Mod_write ∈ zw := zw_4 (List.mem_of_getElem? (i := 125) rfl) rfl
theorem wd_846 : Cond.selects "RealTextModel" y_Mod_write y_Mod_write ∈ zw := zw_4 (List.mem_of_getElem? (i := 126) rfl) rfl
theorem wd_847 : Cond.code y_Mod_write prog_10_method_37_code 7 (some .int) ∈ zw := zw_4 (List.mem_of_getElem? (i := 127) rfl) rfl
theorem wd_848 : Cond.constantLong "RealTextModel" 217 2147483647 ∈ zw := zw_4 (List.mem_of_getElem? (i := 128) rfl) rfl
theorem wd_849 : Cond.constantLong "RealTextModel" 219 9223372036854775807 ∈ zw := zw_4 (List.mem_of_getElem? (i := 129) rfl) rfl
theorem wd_850 : Cond.constantLong "RealTextModel" 221 5136718 ∈ zw := zw_4 (List.mem_of_getElem? (i := 130) rfl) rfl
theorem wd_851 : Cond.methodLink "RealTextModel" 223 y_Mod_layWord ∈ zw := zw_4 (List.mem_of_getElem? (i := 131) rfl) rfl
theorem wd_853 : Cond.instanceMethod y_Mod_layWord ∈ zw := zw_4 (List.mem_of_getElem? (i := 133) rfl) rfl
theorem wd_854 : Cond.code y_Mod_layWord prog_10_method_36_code 5 none ∈ zw := zw_4 (List.mem_of_getElem? (i := 134) rfl) rfl
theorem wd_855 : Cond.constantLong "RealTextModel" 212 255 ∈ zw := zw_4 (List.mem_of_getElem? (i := 135) rfl) rfl
theorem wd_856 : Cond.methodLink "RealTextModel" 197 y_Mod_lay ∈ zw := zw_4 (List.mem_of_getElem? (i := 136) rfl) rfl
theorem wd_858 : Cond.instanceMethod y_Mod_lay ∈ zw := zw_4 (List.mem_of_getElem? (i := 138) rfl) rfl
theorem wd_859 : Cond.code y_Mod_lay prog_10_method_26_code 2 none ∈ zw := zw_4 (List.mem_of_getElem? (i := 139) rfl) rfl
theorem wd_860 : Cond.constantLong "RealTextModel" 227 5291279215216915577 ∈ zw := zw_4 (List.mem_of_getElem? (i := 140) rfl) rfl
theorem wd_861 : Cond.constantLong "RealTextModel" 229 3157552 ∈ zw := zw_4 (List.mem_of_getElem? (i := 141) rfl) rfl
theorem wd_862 : Cond.methodLink "RealTextModel" 231 y_Mod_layDecimal ∈ zw := zw_4 (List.mem_of_getElem? (i := 142) rfl) rfl
theorem wd_864 : Cond.instanceMethod y_Mod_layDecimal ∈ zw := zw_4 (List.mem_of_getElem? (i := 144) rfl) rfl
theorem wd_865 : Cond.code y_Mod_layDecimal prog_10_method_35_code 10 none ∈ zw := zw_4 (List.mem_of_getElem? (i := 145) rfl) rfl
theorem wd_866 : Cond.methodLink "RealTextModel" 200 y_Mod_shortest ∈ zw := zw_4 (List.mem_of_getElem? (i := 146) rfl) rfl
theorem wd_868 : Cond.instanceMethod y_Mod_shortest ∈ zw := zw_4 (List.mem_of_getElem? (i := 148) rfl) rfl
theorem wd_869 : Cond.code y_Mod_shortest prog_10_method_32_code 16 (some .long) ∈ zw := zw_4 (List.mem_of_getElem? (i := 149) rfl) rfl
theorem wd_870 : Cond.constantLong "RealTextModel" 182 10 ∈ zw := zw_4 (List.mem_of_getElem? (i := 150) rfl) rfl
theorem wd_871 : Cond.methodLink "RealTextModel" 184 y_Mod_tens ∈ zw := zw_4 (List.mem_of_getElem? (i := 151) rfl) rfl
theorem wd_873 : Cond.instanceMethod y_Mod_tens ∈ zw := zw_4 (List.mem_of_getElem? (i := 153) rfl) rfl
theorem wd_874 : Cond.code y_Mod_tens prog_10_method_29_code 7 (some .int) ∈ zw := zw_4 (List.mem_of_getElem? (i := 154) rfl) rfl
theorem wd_875 : Cond.methodLink "RealTextModel" 174 y_Mod_scale ∈ zw := zw_4 (List.mem_of_getElem? (i := 155) rfl) rfl
theorem wd_877 : Cond.instanceMethod y_Mod_scale ∈ zw := zw_4 (List.mem_of_getElem? (i := 157) rfl) rfl
theorem wd_878 : Cond.code y_Mod_scale prog_10_method_27_code 2 none ∈ zw := zw_4 (List.mem_of_getElem? (i := 158) rfl) rfl
theorem wd_879 : Cond.methodLink "RealTextModel" 178 y_Mod_compareDigits ∈ zw := zw_4 (List.mem_of_getElem? (i := 159) rfl) rfl
theorem wd_881 : Cond.instanceMethod y_Mod_compareDigits ∈ zw := zw_4 (List.mem_of_getElem? (i := 161) rfl) rfl
theorem wd_882 : Cond.code y_Mod_compareDigits prog_10_method_28_code 6 (some .int) ∈ zw := zw_4 (List.mem_of_getElem? (i := 162) rfl) rfl
theorem wd_883 : Cond.methodLink "RealTextModel" 187 y_Mod_most ∈ zw := zw_4 (List.mem_of_getElem? (i := 163) rfl) rfl
theorem wd_885 : Cond.instanceMethod y_Mod_most ∈ zw := zw_4 (List.mem_of_getElem? (i := 165) rfl) rfl
theorem wd_886 : Cond.code y_Mod_most prog_10_method_31_code 12 (some .long) ∈ zw := zw_4 (List.mem_of_getElem? (i := 166) rfl) rfl
theorem wd_887 : Cond.methodLink "RealTextModel" 191 y_Mod_isRead ∈ zw := zw_4 (List.mem_of_getElem? (i := 167) rfl) rfl
theorem wd_889 : Cond.instanceMethod y_Mod_isRead ∈ zw := zw_4 (List.mem_of_getElem? (i := 169) rfl) rfl
theorem wd_890 : Cond.code y_Mod_isRead prog_10_method_30_code 9 (some .boolean) ∈ zw := zw_4 (List.mem_of_getElem? (i := 170) rfl) rfl
theorem wd_891 : Cond.constantLong "RealTextModel" 203 9 ∈ zw := zw_4 (List.mem_of_getElem? (i := 171) rfl) rfl
theorem wd_892 : Cond.methodLink "RealTextModel" 205 y_Mod_layDigits ∈ zw := zw_4 (List.mem_of_getElem? (i := 172) rfl) rfl
theorem wd_894 : Cond.instanceMethod y_Mod_layDigits ∈ zw := zw_4 (List.mem_of_getElem? (i := 174) rfl) rfl
theorem wd_895 : Cond.code y_Mod_layDigits prog_10_method_33_code 10 none ∈ zw := zw_4 (List.mem_of_getElem? (i := 175) rfl) rfl
theorem wd_896 : Cond.constantLong "RealTextModel" 195 48 ∈ zw := zw_4 (List.mem_of_getElem? (i := 176) rfl) rfl
theorem wd_897 : Cond.methodLink "RealTextModel" 209 y_Mod_layNumber ∈ zw := zw_4 (List.mem_of_getElem? (i := 177) rfl) rfl
theorem wd_899 : Cond.instanceMethod y_Mod_layNumber ∈ zw := zw_4 (List.mem_of_getElem? (i := 179) rfl) rfl
theorem wd_900 : Cond.code y_Mod_layNumber prog_10_method_34_code 3 none ∈ zw := zw_4 (List.mem_of_getElem? (i := 180) rfl) rfl
theorem wd_901 : Cond.methodLink "RealTextLaw" 56 y_Mod_take ∈ zw := zw_4 (List.mem_of_getElem? (i := 181) rfl) rfl
theorem wd_902 : Cond.instanceMethod y_Mod_take ∈ zw := zw_4 (List.mem_of_getElem? (i := 182) rfl) rfl
theorem wd_903 : Cond.selects "RealTextModel" y_Mod_take y_Mod_take ∈ zw := zw_4 (List.mem_of_getElem? (i := 183) rfl) rfl
theorem wd_904 : Cond.code y_Mod_take prog_10_method_38_code 4 (some .long) ∈ zw := zw_4 (List.mem_of_getElem? (i := 184) rfl) rfl
theorem wd_905 : Cond.methodLink "RealTextLaw" 60 y_Mod_back ∈ zw := zw_4 (List.mem_of_getElem? (i := 185) rfl) rfl
theorem wd_906 : Cond.instanceMethod y_Mod_back ∈ zw := zw_4 (List.mem_of_getElem? (i := 186) rfl) rfl
theorem wd_907 : Cond.selects "RealTextModel" y_Mod_back y_Mod_back ∈ zw := zw_4 (List.mem_of_getElem? (i := 187) rfl) rfl
theorem wd_908 : Cond.code y_Mod_back prog_10_method_39_code 2 (some .int) ∈ zw := zw_4 (List.mem_of_getElem? (i := 188) rfl) rfl
theorem wd_909 : Cond.methodLink "RealTextLaw" 64 y_Mod_count ∈ zw := zw_4 (List.mem_of_getElem? (i := 189) rfl) rfl
theorem wd_910 : Cond.instanceMethod y_Mod_count ∈ zw := zw_4 (List.mem_of_getElem? (i := 190) rfl) rfl
theorem wd_911 : Cond.selects "RealTextModel" y_Mod_count y_Mod_count ∈ zw := zw_4 (List.mem_of_getElem? (i := 191) rfl) rfl
theorem wd_912 : Cond.code y_Mod_count prog_10_method_40_code 2 (some .int) ∈ zw := zw_4 (List.mem_of_getElem? (i := 192) rfl) rfl
theorem wd_913 : Cond.constantLong "RealTextLaw" 31 4294967295 ∈ zw := zw_4 (List.mem_of_getElem? (i := 193) rfl) rfl
theorem wd_914 : Cond.arrayClass .long ∈ zw := zw_4 (List.mem_of_getElem? (i := 194) rfl) rfl
theorem wd_916 : Cond.fieldLink "RealText$Format" 31 "RealText$Format" "fractionBits" "I" ∈ zw := zw_4 (List.mem_of_getElem? (i := 196) rfl) rfl
theorem wd_917 : Cond.fieldLink "RealText$Format" 38 "RealText$Format" "leastPower" "I" ∈ zw := zw_4 (List.mem_of_getElem? (i := 197) rfl) rfl
theorem wd_918 : Cond.fieldLink "RealText$Format" 35 "RealText$Format" "exponentMask" "I" ∈ zw := zw_4 (List.mem_of_getElem? (i := 198) rfl) rfl
theorem wd_919 : Cond.fieldLink "java/lang/String" 9 "java/lang/String" "value" "[B" ∈ zw := zw_4 (List.mem_of_getElem? (i := 199) rfl) rfl
theorem wd_920 : Cond.fieldLink "java/lang/String" 15 "java/lang/String" "coder" "B" ∈ zw := zw_4 (List.mem_of_getElem? (i := 200) rfl) rfl
theorem we_0_0 : Cond.selects "RealText$Format" y_Fmt_fractionMask y_Fmt_fractionMask ∈ zw := zw_s (List.mem_map.mpr ⟨(y_Fmt_fractionMask, _), List.mem_append_left _ (List.mem_of_getElem? (i := 0) rfl), rfl⟩) rfl
theorem we_0_1 : Cond.selects "RealText$Format" y_Fmt_hiddenBit y_Fmt_hiddenBit ∈ zw := zw_s (List.mem_map.mpr ⟨(y_Fmt_hiddenBit, _), List.mem_append_left _ (List.mem_of_getElem? (i := 1) rfl), rfl⟩) rfl
theorem we_0_2 : Cond.selects "RealText$Format" y_Fmt_exponentOf y_Fmt_exponentOf ∈ zw := zw_s (List.mem_map.mpr ⟨(y_Fmt_exponentOf, _), List.mem_append_left _ (List.mem_of_getElem? (i := 2) rfl), rfl⟩) rfl
theorem we_0_3 : Cond.selects "RealText$Shortest" y_Sho_start y_Sho_start ∈ zw := zw_s (List.mem_map.mpr ⟨(y_Sho_start, _), List.mem_append_left _ (List.mem_of_getElem? (i := 3) rfl), rfl⟩) rfl
theorem we_0_4 : Cond.selects "RealText$Big" y_Big_addLimb y_Big_addLimb ∈ zw := zw_s (List.mem_map.mpr ⟨(y_Big_addLimb, _), List.mem_append_left _ (List.mem_of_getElem? (i := 4) rfl), rfl⟩) rfl
theorem we_0_5 : Cond.selects "RealText$Big" y_Big_trim y_Big_trim ∈ zw := zw_s (List.mem_map.mpr ⟨(y_Big_trim, _), List.mem_append_left _ (List.mem_of_getElem? (i := 5) rfl), rfl⟩) rfl
theorem we_0_6 : Cond.selects "RealText$Big" y_Big_limbAt y_Big_limbAt ∈ zw := zw_s (List.mem_map.mpr ⟨(y_Big_limbAt, _), List.mem_append_left _ (List.mem_of_getElem? (i := 6) rfl), rfl⟩) rfl
theorem we_0_7 : Cond.selects "RealText$Shortest" y_Sho_nextDigit y_Sho_nextDigit ∈ zw := zw_s (List.mem_map.mpr ⟨(y_Sho_nextDigit, _), List.mem_append_left _ (List.mem_of_getElem? (i := 7) rfl), rfl⟩) rfl
theorem we_0_8 : Cond.selects "RealText$Shortest" y_Sho_isReadBelow y_Sho_isReadBelow ∈ zw := zw_s (List.mem_map.mpr ⟨(y_Sho_isReadBelow, _), List.mem_append_left _ (List.mem_of_getElem? (i := 8) rfl), rfl⟩) rfl
theorem we_0_9 : Cond.selects "RealText$Shortest" y_Sho_isReadAbove y_Sho_isReadAbove ∈ zw := zw_s (List.mem_map.mpr ⟨(y_Sho_isReadAbove, _), List.mem_append_left _ (List.mem_of_getElem? (i := 9) rfl), rfl⟩) rfl
theorem we_0_10 : Cond.selects "RealText$Big" y_Big_setLimb y_Big_setLimb ∈ zw := zw_s (List.mem_map.mpr ⟨(y_Big_setLimb, _), List.mem_append_left _ (List.mem_of_getElem? (i := 10) rfl), rfl⟩) rfl
theorem we_0_11 : Cond.selects "RealText$Shortest" y_Sho_isNearerAbove y_Sho_isNearerAbove ∈ zw := zw_s (List.mem_map.mpr ⟨(y_Sho_isNearerAbove, _), List.mem_append_left _ (List.mem_of_getElem? (i := 11) rfl), rfl⟩) rfl
theorem we_0_12 : Cond.selects "RealText$Decimal" y_Dec_putDigits y_Dec_putDigits ∈ zw := zw_s (List.mem_map.mpr ⟨(y_Dec_putDigits, _), List.mem_append_left _ (List.mem_of_getElem? (i := 12) rfl), rfl⟩) rfl
theorem we_0_13 : Cond.selects "RealText$Decimal" y_Dec_digitAt y_Dec_digitAt ∈ zw := zw_s (List.mem_map.mpr ⟨(y_Dec_digitAt, _), List.mem_append_left _ (List.mem_of_getElem? (i := 13) rfl), rfl⟩) rfl
theorem we_0_14 : Cond.selects "java/lang/Throwable" y_Thr_fillInStackTrace_0 y_Thr_fillInStackTrace_0 ∈ zw := zw_s (List.mem_map.mpr ⟨(y_Thr_fillInStackTrace_0, _), List.mem_append_left _ (List.mem_of_getElem? (i := 14) rfl), rfl⟩) rfl
theorem we_0_15 : Cond.selects "RealText" y_RT_bitsOfText y_RT_bitsOfText ∈ zw := zw_s (List.mem_map.mpr ⟨(y_RT_bitsOfText, _), List.mem_append_left _ (List.mem_of_getElem? (i := 15) rfl), rfl⟩) rfl
theorem we_1_0 : Cond.selects "RealText$Literal" y_Lit_addDigits y_Lit_addDigits ∈ zw := zw_s (List.mem_map.mpr ⟨(y_Lit_addDigits, _), List.mem_append_right _ (List.mem_append_left _ (List.mem_of_getElem? (i := 0) rfl)), rfl⟩) rfl
theorem we_1_1 : Cond.selects "RealText$Literal" y_Lit_addDigit y_Lit_addDigit ∈ zw := zw_s (List.mem_map.mpr ⟨(y_Lit_addDigit, _), List.mem_append_right _ (List.mem_append_left _ (List.mem_of_getElem? (i := 1) rfl)), rfl⟩) rfl
theorem we_1_2 : Cond.selects "RealText$Literal" y_Lit_dropZerosBehind y_Lit_dropZerosBehind ∈ zw := zw_s (List.mem_map.mpr ⟨(y_Lit_dropZerosBehind, _), List.mem_append_right _ (List.mem_append_left _ (List.mem_of_getElem? (i := 2) rfl)), rfl⟩) rfl
theorem we_1_3 : Cond.selects "RealText$Literal" y_Lit_scanExponent y_Lit_scanExponent ∈ zw := zw_s (List.mem_map.mpr ⟨(y_Lit_scanExponent, _), List.mem_append_right _ (List.mem_append_left _ (List.mem_of_getElem? (i := 3) rfl)), rfl⟩) rfl
theorem we_1_4 : Cond.selects "RealText" y_RT_bitsOfHex y_RT_bitsOfHex ∈ zw := zw_s (List.mem_map.mpr ⟨(y_RT_bitsOfHex, _), List.mem_append_right _ (List.mem_append_left _ (List.mem_of_getElem? (i := 4) rfl)), rfl⟩) rfl
theorem we_1_5 : Cond.selects "RealText$Format" y_Fmt_join y_Fmt_join ∈ zw := zw_s (List.mem_map.mpr ⟨(y_Fmt_join, _), List.mem_append_right _ (List.mem_append_left _ (List.mem_of_getElem? (i := 5) rfl)), rfl⟩) rfl
theorem we_1_6 : Cond.selects "RealText" y_RT_bitsOfDecimal y_RT_bitsOfDecimal ∈ zw := zw_s (List.mem_map.mpr ⟨(y_RT_bitsOfDecimal, _), List.mem_append_right _ (List.mem_append_left _ (List.mem_of_getElem? (i := 6) rfl)), rfl⟩) rfl
theorem we_1_7 : Cond.selects "RealText$Quotient" y_Quo_setNumerator y_Quo_setNumerator ∈ zw := zw_s (List.mem_map.mpr ⟨(y_Quo_setNumerator, _), List.mem_append_right _ (List.mem_append_left _ (List.mem_of_getElem? (i := 7) rfl)), rfl⟩) rfl
theorem we_1_8 : Cond.selects "RealText$Quotient" y_Quo_divideBits y_Quo_divideBits ∈ zw := zw_s (List.mem_map.mpr ⟨(y_Quo_divideBits, _), List.mem_append_right _ (List.mem_append_left _ (List.mem_of_getElem? (i := 8) rfl)), rfl⟩) rfl
theorem we_1_9 : Cond.selects "RealTextModel" y_Mod_fail y_Mod_fail ∈ zw := zw_s (List.mem_map.mpr ⟨(y_Mod_fail, _), List.mem_append_right _ (List.mem_append_left _ (List.mem_of_getElem? (i := 9) rfl)), rfl⟩) rfl
theorem we_1_10 : Cond.selects "RealTextModel" y_Mod_isBinary y_Mod_isBinary ∈ zw := zw_s (List.mem_map.mpr ⟨(y_Mod_isBinary, _), List.mem_append_right _ (List.mem_append_left _ (List.mem_of_getElem? (i := 10) rfl)), rfl⟩) rfl
theorem we_1_11 : Cond.selects "RealTextModel" y_Mod_literal y_Mod_literal ∈ zw := zw_s (List.mem_map.mpr ⟨(y_Mod_literal, _), List.mem_append_right _ (List.mem_append_left _ (List.mem_of_getElem? (i := 11) rfl)), rfl⟩) rfl
theorem we_1_12 : Cond.selects "RealTextModel" y_Mod_row y_Mod_row ∈ zw := zw_s (List.mem_map.mpr ⟨(y_Mod_row, _), List.mem_append_right _ (List.mem_append_left _ (List.mem_of_getElem? (i := 12) rfl)), rfl⟩) rfl
theorem we_1_13 : Cond.selects "RealTextModel" y_Mod_look y_Mod_look ∈ zw := zw_s (List.mem_map.mpr ⟨(y_Mod_look, _), List.mem_append_right _ (List.mem_append_left _ (List.mem_of_getElem? (i := 13) rfl)), rfl⟩) rfl
theorem we_1_14 : Cond.selects "RealTextModel" y_Mod_exponentRow y_Mod_exponentRow ∈ zw := zw_s (List.mem_map.mpr ⟨(y_Mod_exponentRow, _), List.mem_append_right _ (List.mem_append_left _ (List.mem_of_getElem? (i := 14) rfl)), rfl⟩) rfl
theorem we_1_15 : Cond.selects "RealTextModel" y_Mod_found y_Mod_found ∈ zw := zw_s (List.mem_map.mpr ⟨(y_Mod_found, _), List.mem_append_right _ (List.mem_append_left _ (List.mem_of_getElem? (i := 15) rfl)), rfl⟩) rfl
theorem we_2_0 : Cond.selects "RealTextModel" y_Mod_nearest y_Mod_nearest ∈ zw := zw_s (List.mem_map.mpr ⟨(y_Mod_nearest, _), List.mem_append_right _ (List.mem_append_right _ ((List.mem_of_getElem? (i := 0) rfl))), rfl⟩) rfl
theorem we_2_1 : Cond.selects "RealTextModel" y_Mod_compare y_Mod_compare ∈ zw := zw_s (List.mem_map.mpr ⟨(y_Mod_compare, _), List.mem_append_right _ (List.mem_append_right _ ((List.mem_of_getElem? (i := 1) rfl))), rfl⟩) rfl
theorem we_2_2 : Cond.selects "RealTextModel" y_Mod_times y_Mod_times ∈ zw := zw_s (List.mem_map.mpr ⟨(y_Mod_times, _), List.mem_append_right _ (List.mem_append_right _ ((List.mem_of_getElem? (i := 2) rfl))), rfl⟩) rfl
theorem we_2_3 : Cond.selects "RealTextModel" y_Mod_above y_Mod_above ∈ zw := zw_s (List.mem_map.mpr ⟨(y_Mod_above, _), List.mem_append_right _ (List.mem_append_right _ ((List.mem_of_getElem? (i := 3) rfl))), rfl⟩) rfl
theorem we_2_4 : Cond.selects "RealTextModel" y_Mod_layWord y_Mod_layWord ∈ zw := zw_s (List.mem_map.mpr ⟨(y_Mod_layWord, _), List.mem_append_right _ (List.mem_append_right _ ((List.mem_of_getElem? (i := 4) rfl))), rfl⟩) rfl
theorem we_2_5 : Cond.selects "RealTextModel" y_Mod_lay y_Mod_lay ∈ zw := zw_s (List.mem_map.mpr ⟨(y_Mod_lay, _), List.mem_append_right _ (List.mem_append_right _ ((List.mem_of_getElem? (i := 5) rfl))), rfl⟩) rfl
theorem we_2_6 : Cond.selects "RealTextModel" y_Mod_layDecimal y_Mod_layDecimal ∈ zw := zw_s (List.mem_map.mpr ⟨(y_Mod_layDecimal, _), List.mem_append_right _ (List.mem_append_right _ ((List.mem_of_getElem? (i := 6) rfl))), rfl⟩) rfl
theorem we_2_7 : Cond.selects "RealTextModel" y_Mod_shortest y_Mod_shortest ∈ zw := zw_s (List.mem_map.mpr ⟨(y_Mod_shortest, _), List.mem_append_right _ (List.mem_append_right _ ((List.mem_of_getElem? (i := 7) rfl))), rfl⟩) rfl
theorem we_2_8 : Cond.selects "RealTextModel" y_Mod_tens y_Mod_tens ∈ zw := zw_s (List.mem_map.mpr ⟨(y_Mod_tens, _), List.mem_append_right _ (List.mem_append_right _ ((List.mem_of_getElem? (i := 8) rfl))), rfl⟩) rfl
theorem we_2_9 : Cond.selects "RealTextModel" y_Mod_scale y_Mod_scale ∈ zw := zw_s (List.mem_map.mpr ⟨(y_Mod_scale, _), List.mem_append_right _ (List.mem_append_right _ ((List.mem_of_getElem? (i := 9) rfl))), rfl⟩) rfl
theorem we_2_10 : Cond.selects "RealTextModel" y_Mod_compareDigits y_Mod_compareDigits ∈ zw := zw_s (List.mem_map.mpr ⟨(y_Mod_compareDigits, _), List.mem_append_right _ (List.mem_append_right _ ((List.mem_of_getElem? (i := 10) rfl))), rfl⟩) rfl
theorem we_2_11 : Cond.selects "RealTextModel" y_Mod_most y_Mod_most ∈ zw := zw_s (List.mem_map.mpr ⟨(y_Mod_most, _), List.mem_append_right _ (List.mem_append_right _ ((List.mem_of_getElem? (i := 11) rfl))), rfl⟩) rfl
theorem we_2_12 : Cond.selects "RealTextModel" y_Mod_isRead y_Mod_isRead ∈ zw := zw_s (List.mem_map.mpr ⟨(y_Mod_isRead, _), List.mem_append_right _ (List.mem_append_right _ ((List.mem_of_getElem? (i := 12) rfl))), rfl⟩) rfl
theorem we_2_13 : Cond.selects "RealTextModel" y_Mod_layDigits y_Mod_layDigits ∈ zw := zw_s (List.mem_map.mpr ⟨(y_Mod_layDigits, _), List.mem_append_right _ (List.mem_append_right _ ((List.mem_of_getElem? (i := 13) rfl))), rfl⟩) rfl
theorem we_2_14 : Cond.selects "RealTextModel" y_Mod_layNumber y_Mod_layNumber ∈ zw := zw_s (List.mem_map.mpr ⟨(y_Mod_layNumber, _), List.mem_append_right _ (List.mem_append_right _ ((List.mem_of_getElem? (i := 14) rfl))), rfl⟩) rfl
theorem zw_good : ∀ w ∈ zw, ((w.onTables && w.keeps) = true ∨ ∃ ty, w = .arrayClass ty) := fun w h => good_of_word (List.mem_filter.mp h).2
theorem zg_V {own C : String} {ix n : Nat} {y : MethodName} {c : ByteArray} {r : Option FieldType} (h1 : Cond.methodLink own ix y ∈ zw) (h2 : Cond.instanceMethod y ∈ zw) (h3 : Cond.selects C y y ∈ zw) (h4 : Cond.initialized C ∈ zw) (h5 : Cond.code y c n r ∈ zw) : GoodIn zw (wsV own ix C y (.code y c n r :: zw)) := by
  intro w hw
  have hm : w ∈ zw := by
    simp only [wsV, List.mem_append, List.mem_cons, List.not_mem_nil, or_false] at hw
    rcases hw with (rfl | rfl | rfl | rfl) | rfl | hw
    · exact h1
    · exact h2
    · exact h3
    · exact h4
    · exact h5
    · exact hw
  exact ⟨hm, zw_good w hm⟩
theorem zg_S {own : String} {ix n : Nat} {y : MethodName} {c : ByteArray} {r : Option FieldType} (h1 : Cond.methodLink own ix y ∈ zw) (h2 : Cond.static y ∈ zw) (h4 : Cond.initialized y.cls ∈ zw) (h5 : Cond.code y c n r ∈ zw) : GoodIn zw (va_wsS own ix y (.code y c n r :: zw)) := by
  intro w hw
  have hm : w ∈ zw := by
    simp only [va_wsS, List.mem_append, List.mem_cons, List.not_mem_nil, or_false] at hw
    rcases hw with (rfl | rfl | rfl) | rfl | hw
    · exact h1
    · exact h2
    · exact h4
    · exact h5
    · exact hw
  exact ⟨hm, zw_good w hm⟩
abbrev R_Big : String := "RealText$Big"
abbrev R_Dec : String := "RealText$Decimal"
abbrev R_Lit : String := "RealText$Literal"
abbrev R_Quo : String := "RealText$Quotient"
abbrev R_Row : String := "RealText$Row"
abbrev R_Sho : String := "RealText$Shortest"
abbrev R_RT : String := "RealText"
abbrev R_Mod : String := "RealTextModel"
abbrev R_Fmt : String := "RealText$Format"
abbrev R_Law : String := "RealTextLaw"
abbrev R_Mat : String := "java/lang/Math"
def T_Big : u_T := fun k => match k with
  | 0 => ("RealText$Big", "limbs", "[I", true)
  | _ => ("RealText$Big", "size", "I", false)
def ty_Big : Nat → FieldType := fun k => match k with
  | 0 => .array .int
  | _ => .int
theorem nm_Big : ∀ a, a < 2 → ∀ b, b < 2 → a ≠ b → (T_Big a).2.1 ≠ (T_Big b).2.1 := by decide +kernel
theorem tyok_Big : ∀ k, k < 2 → parseFieldDescriptor (T_Big k).2.2.1 = some (ty_Big k) := by decide +kernel
theorem in_Big : ∀ w ∈ u_ws R_Big T_Big 2, w ∈ zw := by
  intro w h
  simp only [u_ws, List.mem_map, List.mem_range] at h
  obtain ⟨k, hk, rfl⟩ := h
  rcases (show k = 0 ∨ k = 1 by omega) with rfl | rfl
  · exact wd_92
  · exact wd_94
def T_Dec : u_T := fun k => match k with
  | 0 => ("RealText$Decimal", "reversed", "[B", true)
  | 1 => ("RealText$Decimal", "digitCount", "I", false)
  | _ => ("RealText$Decimal", "point", "I", false)
def ty_Dec : Nat → FieldType := fun k => match k with
  | 0 => .array .byte
  | 1 => .int
  | _ => .int
theorem nm_Dec : ∀ a, a < 3 → ∀ b, b < 3 → a ≠ b → (T_Dec a).2.1 ≠ (T_Dec b).2.1 := by decide +kernel
theorem tyok_Dec : ∀ k, k < 3 → parseFieldDescriptor (T_Dec k).2.2.1 = some (ty_Dec k) := by decide +kernel
theorem in_Dec : ∀ w ∈ u_ws R_Dec T_Dec 3, w ∈ zw := by
  intro w h
  simp only [u_ws, List.mem_map, List.mem_range] at h
  obtain ⟨k, hk, rfl⟩ := h
  rcases (show k = 0 ∨ k = 1 ∨ k = 2 by omega) with rfl | rfl | rfl
  · exact wd_161
  · exact wd_163
  · exact wd_165
def T_Lit : u_T := fun k => match k with
  | 0 => ("RealText$Literal", "digits", "[B", true)
  | 1 => ("RealText$Literal", "digitCount", "I", false)
  | 2 => ("RealText$Literal", "fraction", "I", false)
  | 3 => ("RealText$Literal", "exponent", "I", false)
  | _ => ("RealText$Literal", "isHex", "Z", false)
def ty_Lit : Nat → FieldType := fun k => match k with
  | 0 => .array .byte
  | 1 => .int
  | 2 => .int
  | 3 => .int
  | _ => .boolean
theorem nm_Lit : ∀ a, a < 5 → ∀ b, b < 5 → a ≠ b → (T_Lit a).2.1 ≠ (T_Lit b).2.1 := by decide +kernel
theorem tyok_Lit : ∀ k, k < 5 → parseFieldDescriptor (T_Lit k).2.2.1 = some (ty_Lit k) := by decide +kernel
theorem in_Lit : ∀ w ∈ u_ws R_Lit T_Lit 5, w ∈ zw := by
  intro w h
  simp only [u_ws, List.mem_map, List.mem_range] at h
  obtain ⟨k, hk, rfl⟩ := h
  rcases (show k = 0 ∨ k = 1 ∨ k = 2 ∨ k = 3 ∨ k = 4 by omega) with rfl | rfl | rfl | rfl | rfl
  · exact wd_66
  · exact wd_68
  · exact wd_70
  · exact wd_72
  · exact wd_74
def T_Quo : u_T := fun k => match k with
  | 0 => ("RealText$Quotient", "numerator", "LRealText$Big;", true)
  | 1 => ("RealText$Quotient", "denominator", "LRealText$Big;", true)
  | 2 => ("RealText$Quotient", "lead", "J", false)
  | 3 => ("RealText$Quotient", "power", "I", false)
  | _ => ("RealText$Quotient", "more", "Z", false)
def ty_Quo : Nat → FieldType := fun k => match k with
  | 0 => .object "RealText$Big"
  | 1 => .object "RealText$Big"
  | 2 => .long
  | 3 => .int
  | _ => .boolean
theorem nm_Quo : ∀ a, a < 5 → ∀ b, b < 5 → a ≠ b → (T_Quo a).2.1 ≠ (T_Quo b).2.1 := by decide +kernel
theorem tyok_Quo : ∀ k, k < 5 → parseFieldDescriptor (T_Quo k).2.2.1 = some (ty_Quo k) := by decide +kernel
theorem in_Quo : ∀ w ∈ u_ws R_Quo T_Quo 5, w ∈ zw := by
  intro w h
  simp only [u_ws, List.mem_map, List.mem_range] at h
  obtain ⟨k, hk, rfl⟩ := h
  rcases (show k = 0 ∨ k = 1 ∨ k = 2 ∨ k = 3 ∨ k = 4 by omega) with rfl | rfl | rfl | rfl | rfl
  · exact wd_106
  · exact wd_108
  · exact wd_110
  · exact wd_112
  · exact wd_114
def T_Row : u_T := fun k => match k with
  | 0 => ("RealText$Row", "letters", "[C", true)
  | 1 => ("RealText$Row", "start", "I", false)
  | _ => ("RealText$Row", "end", "I", false)
def ty_Row : Nat → FieldType := fun k => match k with
  | 0 => .array .char
  | 1 => .int
  | _ => .int
theorem nm_Row : ∀ a, a < 3 → ∀ b, b < 3 → a ≠ b → (T_Row a).2.1 ≠ (T_Row b).2.1 := by decide +kernel
theorem tyok_Row : ∀ k, k < 3 → parseFieldDescriptor (T_Row k).2.2.1 = some (ty_Row k) := by decide +kernel
theorem in_Row : ∀ w ∈ u_ws R_Row T_Row 3, w ∈ zw := by
  intro w h
  simp only [u_ws, List.mem_map, List.mem_range] at h
  obtain ⟨k, hk, rfl⟩ := h
  rcases (show k = 0 ∨ k = 1 ∨ k = 2 by omega) with rfl | rfl | rfl
  · exact wd_40
  · exact wd_42
  · exact wd_44
def T_Sho : u_T := fun k => match k with
  | 0 => ("RealText$Shortest", "rest", "LRealText$Big;", true)
  | 1 => ("RealText$Shortest", "unit", "LRealText$Big;", true)
  | 2 => ("RealText$Shortest", "halfGap", "LRealText$Big;", true)
  | 3 => ("RealText$Shortest", "sum", "LRealText$Big;", true)
  | 4 => ("RealText$Shortest", "isNarrowBelow", "Z", false)
  | 5 => ("RealText$Shortest", "isEven", "Z", false)
  | 6 => ("RealText$Shortest", "number", "J", false)
  | _ => ("RealText$Shortest", "power", "I", false)
def ty_Sho : Nat → FieldType := fun k => match k with
  | 0 => .object "RealText$Big"
  | 1 => .object "RealText$Big"
  | 2 => .object "RealText$Big"
  | 3 => .object "RealText$Big"
  | 4 => .boolean
  | 5 => .boolean
  | 6 => .long
  | _ => .int
theorem nm_Sho : ∀ a, a < 8 → ∀ b, b < 8 → a ≠ b → (T_Sho a).2.1 ≠ (T_Sho b).2.1 := by decide +kernel
theorem tyok_Sho : ∀ k, k < 8 → parseFieldDescriptor (T_Sho k).2.2.1 = some (ty_Sho k) := by decide +kernel
theorem in_Sho : ∀ w ∈ u_ws R_Sho T_Sho 8, w ∈ zw := by
  intro w h
  simp only [u_ws, List.mem_map, List.mem_range] at h
  obtain ⟨k, hk, rfl⟩ := h
  rcases (show k = 0 ∨ k = 1 ∨ k = 2 ∨ k = 3 ∨ k = 4 ∨ k = 5 ∨ k = 6 ∨ k = 7 by omega) with rfl | rfl | rfl | rfl | rfl | rfl | rfl | rfl
  · exact wd_135
  · exact wd_137
  · exact wd_139
  · exact wd_141
  · exact wd_143
  · exact wd_145
  · exact wd_147
  · exact wd_149
def T_RT : u_T := fun k => match k with
  | 0 => ("RealText", "theText", "LRealText$Row;", true)
  | 1 => ("RealText", "written", "LRealText$Row;", true)
  | 2 => ("RealText", "literal", "LRealText$Literal;", true)
  | 3 => ("RealText", "quotient", "LRealText$Quotient;", true)
  | 4 => ("RealText", "shortest", "LRealText$Shortest;", true)
  | 5 => ("RealText", "decimal", "LRealText$Decimal;", true)
  | 6 => ("RealText", "readCount", "I", false)
  | 7 => ("RealText", "noLiteralCount", "I", false)
  | _ => ("RealText", "outOfRangeCount", "I", false)
def ty_RT : Nat → FieldType := fun k => match k with
  | 0 => .object "RealText$Row"
  | 1 => .object "RealText$Row"
  | 2 => .object "RealText$Literal"
  | 3 => .object "RealText$Quotient"
  | 4 => .object "RealText$Shortest"
  | 5 => .object "RealText$Decimal"
  | 6 => .int
  | 7 => .int
  | _ => .int
theorem nm_RT : ∀ a, a < 9 → ∀ b, b < 9 → a ≠ b → (T_RT a).2.1 ≠ (T_RT b).2.1 := by decide +kernel
theorem tyok_RT : ∀ k, k < 9 → parseFieldDescriptor (T_RT k).2.2.1 = some (ty_RT k) := by decide +kernel
theorem in_RT : ∀ w ∈ u_ws R_RT T_RT 9, w ∈ zw := by
  intro w h
  simp only [u_ws, List.mem_map, List.mem_range] at h
  obtain ⟨k, hk, rfl⟩ := h
  rcases (show k = 0 ∨ k = 1 ∨ k = 2 ∨ k = 3 ∨ k = 4 ∨ k = 5 ∨ k = 6 ∨ k = 7 ∨ k = 8 by omega) with rfl | rfl | rfl | rfl | rfl | rfl | rfl | rfl | rfl
  · exact wd_177
  · exact wd_179
  · exact wd_181
  · exact wd_183
  · exact wd_185
  · exact wd_187
  · exact wd_189
  · exact wd_191
  · exact wd_193
def T_Mod : u_T := fun k => match k with
  | 0 => ("RealTextModel", "text", "[I", true)
  | 1 => ("RealTextModel", "written", "[I", true)
  | 2 => ("RealTextModel", "length", "I", false)
  | 3 => ("RealTextModel", "laid", "I", false)
  | 4 => ("RealTextModel", "gone", "I", false)
  | 5 => ("RealTextModel", "thrown", "I", false)
  | 6 => ("RealTextModel", "were", "I", false)
  | 7 => ("RealTextModel", "none", "I", false)
  | 8 => ("RealTextModel", "beyond", "I", false)
  | 9 => ("RealTextModel", "a", "[I", true)
  | 10 => ("RealTextModel", "b", "[I", true)
  | 11 => ("RealTextModel", "five", "[I", true)
  | 12 => ("RealTextModel", "left", "[I", true)
  | 13 => ("RealTextModel", "right", "[I", true)
  | 14 => ("RealTextModel", "part", "[I", true)
  | 15 => ("RealTextModel", "aMany", "I", false)
  | 16 => ("RealTextModel", "bMany", "I", false)
  | 17 => ("RealTextModel", "fiveMany", "I", false)
  | 18 => ("RealTextModel", "leftMany", "I", false)
  | 19 => ("RealTextModel", "rightMany", "I", false)
  | 20 => ("RealTextModel", "partMany", "I", false)
  | 21 => ("RealTextModel", "twos", "I", false)
  | 22 => ("RealTextModel", "at", "I", false)
  | 23 => ("RealTextModel", "digits", "I", false)
  | 24 => ("RealTextModel", "power", "I", false)
  | _ => ("RealTextModel", "good", "Z", false)
def ty_Mod : Nat → FieldType := fun k => match k with
  | 0 => .array .int
  | 1 => .array .int
  | 2 => .int
  | 3 => .int
  | 4 => .int
  | 5 => .int
  | 6 => .int
  | 7 => .int
  | 8 => .int
  | 9 => .array .int
  | 10 => .array .int
  | 11 => .array .int
  | 12 => .array .int
  | 13 => .array .int
  | 14 => .array .int
  | 15 => .int
  | 16 => .int
  | 17 => .int
  | 18 => .int
  | 19 => .int
  | 20 => .int
  | 21 => .int
  | 22 => .int
  | 23 => .int
  | 24 => .int
  | _ => .boolean
theorem nm_Mod : ∀ a, a < 26 → ∀ b, b < 26 → a ≠ b → (T_Mod a).2.1 ≠ (T_Mod b).2.1 := by decide +kernel
theorem tyok_Mod : ∀ k, k < 26 → parseFieldDescriptor (T_Mod k).2.2.1 = some (ty_Mod k) := by decide +kernel
theorem in_Mod : ∀ w ∈ u_ws R_Mod T_Mod 26, w ∈ zw := by
  intro w h
  simp only [u_ws, List.mem_map, List.mem_range] at h
  obtain ⟨k, hk, rfl⟩ := h
  rcases (show k = 0 ∨ k = 1 ∨ k = 2 ∨ k = 3 ∨ k = 4 ∨ k = 5 ∨ k = 6 ∨ k = 7 ∨ k = 8 ∨ k = 9 ∨ k = 10 ∨ k = 11 ∨ k = 12 ∨ k = 13 ∨ k = 14 ∨ k = 15 ∨ k = 16 ∨ k = 17 ∨ k = 18 ∨ k = 19 ∨ k = 20 ∨ k = 21 ∨ k = 22 ∨ k = 23 ∨ k = 24 ∨ k = 25 by omega) with rfl | rfl | rfl | rfl | rfl | rfl | rfl | rfl | rfl | rfl | rfl | rfl | rfl | rfl | rfl | rfl | rfl | rfl | rfl | rfl | rfl | rfl | rfl | rfl | rfl | rfl
  · exact wd_699
  · exact wd_701
  · exact wd_703
  · exact wd_705
  · exact wd_707
  · exact wd_709
  · exact wd_711
  · exact wd_713
  · exact wd_715
  · exact wd_717
  · exact wd_719
  · exact wd_721
  · exact wd_723
  · exact wd_725
  · exact wd_727
  · exact wd_729
  · exact wd_731
  · exact wd_733
  · exact wd_735
  · exact wd_737
  · exact wd_739
  · exact wd_741
  · exact wd_743
  · exact wd_745
  · exact wd_747
  · exact wd_749
abbrev vwCl : List vw_C := [(R_Big, T_Big, 2), (R_Dec, T_Dec, 3), (R_Lit, T_Lit, 5), (R_Quo, T_Quo, 5), (R_Row, T_Row, 3), (R_Sho, T_Sho, 8), (R_RT, T_RT, 9), (R_Mod, T_Mod, 26)]
end
section
-- own rows over the kit's: a contract's start and end, the statics' context, calls with their frame in one step
def zz_lt {α β : Type} (e : α) (f : α → β) : β := f e
theorem zz_ltp {α β : Type} {e : α} {f : α → Option β} {u : β} (h : zz_lt e f = some u) (x : α) (hx : x = e) : f x = some u := by
  rw [hx]
  exact h
theorem zz_gd {c : Prop} [Decidable c] {β : Type} {a : Option β} {u : β} (h : (if c then a else none) = some u) : c ∧ a = some u := by
  by_cases hc : c
  · rw [if_pos hc] at h
    exact ⟨hc, h⟩
  · rw [if_neg hc] at h
    cases h
theorem zz_bd {α β : Type} {o : Option α} {f : α → Option β} {u : β} (h : o.bind f = some u) : ∃ v, o = some v ∧ f v = some u := by
  cases o with
  | none => cases h
  | some v => exact ⟨v, rfl, h⟩
theorem zz_ifp {c : Prop} [Decidable c] {β : Type} {a b : Option β} {u : β} (hc : c) (h : (if c then a else b) = some u) : a = some u := by
  rw [if_pos hc] at h
  exact h
theorem zz_ifn {c : Prop} [Decidable c] {β : Type} {a b : Option β} {u : β} (hc : ¬ c) (h : (if c then a else b) = some u) : b = some u := by
  rw [if_neg hc] at h
  exact h
theorem zz_no {β : Type} {u : β} {P : Prop} (h : (none : Option β) = some u) : P := by cases h
/-- an index within a row -/
def zz_in (i : Int32) (n : Nat) : Bool := decide (0 ≤ i.toInt) && decide (i.toInt < n)
theorem zz_vp {i : Int32} {n : Nat} (h : zz_in i n = true) : vp_in i n := by
  rw [vp_in_iff]
  simpa [zz_in] using h
/-- the statics' context: what it must bear -/
def zz_E (E : (Nat → Prop) → State → Heap → Prop) : Prop :=
  (∀ (A : Nat → Prop) (u U : State) (H : Heap), u.WarmedH U.vm → E A u H → E A U H) ∧
  (∀ (A : Nat → Prop) (U : State) (H H1 : Heap), E A U H → (∀ a : Nat, a < H.size → ¬ A a → H1[a]? = H[a]?) → E A U H1) ∧
  (∀ (A B : Nat → Prop) (U : State) (H : Heap), E A U H → (∀ q, B q → A q) → E B U H)
def zz_T : (Nat → Prop) → State → Heap → Prop := fun _ _ _ => True
theorem zz_TE : zz_E zz_T := ⟨fun _ _ _ _ _ _ => trivial, fun _ _ _ _ _ _ => trivial, fun _ _ _ _ _ _ => trivial⟩
def zz_P (E : (Nat → Prop) → State → Heap → Prop) (D : va_G) (cl : List vw_C) (tys : List (ClassId × FieldType)) (av : List Value) (wc : va_W) (sz : Nat) : Array Value → State → Prop :=
  va_Pc av (fun U => U.heap.size = sz ∧ va_P D cl wc U.heap ∧ va_K D cl tys U ∧ va_D (fun _ => True) wc ∧ E (va_A wc sz) U U.heap)
def zz_B (D : va_G) (cl : List vw_C) (A : Nat → Prop) (w' : va_W) (t : State) : Prop := va_P D cl w' t.heap ∧ va_D A w'
abbrev zz_Qi (D : va_G) (cl : List vw_C) (r : Int32) (w' : va_W) (A : Nat → Prop) : Array Value → State → Outcome → State → Prop := va_Qi (S := Unit) (fun r0 _ => r0 = r) (fun _ t => zz_B D cl A w' t) A
abbrev zz_Ql (D : va_G) (cl : List vw_C) (r : Int64) (w' : va_W) (A : Nat → Prop) : Array Value → State → Outcome → State → Prop := va_Ql (S := Unit) (fun r0 _ => r0 = r) (fun _ t => zz_B D cl A w' t) A
abbrev zz_Qv (D : va_G) (cl : List vw_C) (w' : va_W) (A : Nat → Prop) : Array Value → State → Outcome → State → Prop := va_Qv (S := Unit) (fun _ => True) (fun _ t => zz_B D cl A w' t) A
section Zz
variable {p : Program} {l : Launch} {e : Env} {R : Room} {s : State} {m : MethodId} {args : Array Value} {below : List Frame} {meth : Method} {c : Code} {H : Heap} {locs : List Loc} {cells slots : Nat} {Q : State → Prop}
variable {E : (Nat → Prop) → State → Heap → Prop} {D : va_G} {cl : List vw_C} {tys : List (ClassId × FieldType)} {ws wc w' ws' : va_W} {A : Nat → Prop}
variable {pc : Nat} {ls : Array Slot} {rest st0 : List Value} {a : Array Value}
theorem zz_blind (hE : zz_E E) {av : List Value} {sz : Nat} : FrameBlind (zz_P E D cl tys av wc sz) := by
  intro a U g mk q
  obtain ⟨q0, q1, qP, qK, qD, qE⟩ := q
  exact ⟨q0, q1, qP, va_K.moved (u := U) (U := U.calling g mk a) (Vm.Alike.refl U.vm) qK, qD, hE.1 _ U (U.calling g mk a) _ (State.WarmedH.refl U) qE⟩
theorem zz_at (hE : zz_E E) (hP : va_P D cl ws H) (hD : va_D A ws) (hK : va_K D cl tys s) (hS : va_S A s.heap H locs) (hA : ∀ q, s.heap.size ≤ q → A q) (hX : E A s s.heap) (isC : List Nat) (hC : isC.map (fun i => ws[i]?) = wc.map some) (hn : va_nd isC = true) {av : List Value} :
    ∀ U : State, U.heap = H → s.WarmedH U.vm → zz_P E D cl tys av wc H.size av.toArray U := by
  intro U hU hW
  have hF := va_free hD hS hA isC hC
  have hPc : va_P D cl wc H := by
    intro k q hk
    have h1 : (isC.map (fun i => ws[i]?))[k]? = some (some q) := by rw [hC, List.getElem?_map, hk]; rfl
    rw [List.getElem?_map] at h1
    cases hi : isC[k]? with
    | none => rw [hi] at h1; cases h1
    | some i => rw [hi] at h1; exact hP i q (Option.some.inj h1)
  have h0 : E A s H := hE.2.1 A s s.heap H hX (fun q h1 h2 => hS.2.1 q h1 h2)
  have h1 : E (va_A wc H.size) U H := hE.2.2 _ _ _ _ (hE.1 _ _ _ _ hW h0) hF
  exact ⟨rfl, by rw [hU], by rw [hU]; exact hPc, va_K.moved hW.alike hK, (hD.sub isC hn hC).weaken (fun _ _ _ _ => trivial), by rw [hU]; exact h1⟩
theorem zz_preS (hE : zz_E E) (hP : va_P D cl ws H) (hD : va_D A ws) (hK : va_K D cl tys s) (hS : va_S A s.heap H locs) (hA : ∀ q, s.heap.size ≤ q → A q) (hX : E A s s.heap) (isC : List Nat) (hC : isC.map (fun i => ws[i]?) = wc.map some) (hn : va_nd isC = true) {As : List Value} :
    PreS s H (zz_P E D cl tys As wc H.size) As := ⟨zz_blind hE, zz_at hE hP hD hK hS hA hX isC hC hn⟩
theorem zz_preV {C : String} {b : Nat} (hE : zz_E E) (hr : ∃ cell : Cell, H[b]? = some cell ∧ cell.vm.isStatics = false ∧ s.vm.findClass C = some cell.cls) (hP : va_P D cl ws H) (hD : va_D A ws) (hK : va_K D cl tys s) (hS : va_S A s.heap H locs) (hA : ∀ q, s.heap.size ≤ q → A q) (hX : E A s s.heap) (isC : List Nat) (hC : isC.map (fun i => ws[i]?) = wc.map some) (hn : va_nd isC = true) {As : List Value} :
    PreV s H C b (zz_P E D cl tys (.ref b :: As) wc H.size) As := ⟨zz_blind hE, hr, zz_at hE hP hD hK hS hA hX isC hC hn⟩
theorem zz_back (hP : va_P D cl ws H) (hD : va_D A ws) (hS : va_S A s.heap H locs) (hA : ∀ q, s.heap.size ≤ q → A q) (isC isR perm : List Nat) (hC : isC.map (fun i => ws[i]?) = wc.map some) (hR : isR.map (fun i => ws[i]?) = (isR.filterMap (fun i => ws[i]?)).map some) (hn : va_nd isR = true) (hdis : ∀ i ∈ isR, i ∉ isC)
    (hp : perm.map (fun i => (isR.filterMap (fun i => ws[i]?) ++ w')[i]?) = ws'.map some) (hpn : va_nd perm = true) {H1 : Heap} (hk : ∀ q : Nat, q < H.size → ¬ va_A wc H.size q → H1[q]? = H[q]?) (hP1 : va_P D cl w' H1) (hD1 : va_D (va_A wc H.size) w') : va_P D cl ws' H1 ∧ va_D A ws' := by
  obtain ⟨h1, h2⟩ := va_join hP hD isC isR hC hR hn hdis hk (va_free hD hS hA isC hC) hP1 hD1
  refine ⟨fun k q hq => ?_, h2.sub perm hpn hp⟩
  have h3 : (perm.map (fun i => (isR.filterMap (fun i => ws[i]?) ++ w')[i]?))[k]? = some (some q) := by rw [hp, List.getElem?_map, hq]; rfl
  rw [List.getElem?_map] at h3
  cases hi : perm[k]? with
  | none => rw [hi] at h3; cases h3
  | some i => rw [hi] at h3; exact h1 i q (Option.some.inj h3)
theorem zz_ci {r : Int32} (hP : va_P D cl ws H) (hD : va_D A ws) (hS : va_S A s.heap H locs) (hA : ∀ q, s.heap.size ≤ q → A q) (isC isR perm : List Nat) (hC : isC.map (fun i => ws[i]?) = wc.map some) (hR : isR.map (fun i => ws[i]?) = (isR.filterMap (fun i => ws[i]?)).map some) (hn : va_nd isR = true) (hdis : ∀ i ∈ isR, i ∉ isC)
    (hp : perm.map (fun i => (isR.filterMap (fun i => ws[i]?) ++ w')[i]?) = ws'.map some) (hpn : va_nd perm = true) (hr : va_Run p l e R s m args below meth c H locs cells slots 0 0 (F0 m pc ls st0) rest (zz_Qi D cl r w' (va_A wc H.size) a) (va_A wc H.size))
    (kk : ∀ (H1 : Heap) (locs1 : List Loc), va_P D cl ws' H1 → va_D A ws' → va_S A s.heap H1 locs1 → W p l e R s m args below meth c H1 locs1 cells slots Q (F0 m (pc + 3) ls (.int r :: rest))) : W p l e R s m args below meth c H locs cells slots Q (F0 m pc ls st0) := by
  have hF := va_free hD hS hA isC hC
  refine va_calli hr hS (fun q _ h => hF q h) hF (fun r0 u t H1 locs1 ht hvm hw hB hz1 hk1 hS1 => ?_)
  subst hw
  have hB1 : va_P D cl w' H1 := by rw [← ht]; exact hB.1
  obtain ⟨g1, g2⟩ := zz_back hP hD hS hA isC isR perm hC hR hn hdis hp hpn hk1 hB1 hB.2
  exact kk H1 locs1 g1 g2 hS1
theorem zz_cl {r : Int64} (hP : va_P D cl ws H) (hD : va_D A ws) (hS : va_S A s.heap H locs) (hA : ∀ q, s.heap.size ≤ q → A q) (isC isR perm : List Nat) (hC : isC.map (fun i => ws[i]?) = wc.map some) (hR : isR.map (fun i => ws[i]?) = (isR.filterMap (fun i => ws[i]?)).map some) (hn : va_nd isR = true) (hdis : ∀ i ∈ isR, i ∉ isC)
    (hp : perm.map (fun i => (isR.filterMap (fun i => ws[i]?) ++ w')[i]?) = ws'.map some) (hpn : va_nd perm = true) (hr : va_Run p l e R s m args below meth c H locs cells slots 0 0 (F0 m pc ls st0) rest (zz_Ql D cl r w' (va_A wc H.size) a) (va_A wc H.size))
    (kk : ∀ (H1 : Heap) (locs1 : List Loc), va_P D cl ws' H1 → va_D A ws' → va_S A s.heap H1 locs1 → W p l e R s m args below meth c H1 locs1 cells slots Q (F0 m (pc + 3) ls (.long r :: rest))) : W p l e R s m args below meth c H locs cells slots Q (F0 m pc ls st0) := by
  have hF := va_free hD hS hA isC hC
  refine va_calll hr hS (fun q _ h => hF q h) hF (fun r0 u t H1 locs1 ht hvm hw hB hz1 hk1 hS1 => ?_)
  subst hw
  have hB1 : va_P D cl w' H1 := by rw [← ht]; exact hB.1
  obtain ⟨g1, g2⟩ := zz_back hP hD hS hA isC isR perm hC hR hn hdis hp hpn hk1 hB1 hB.2
  exact kk H1 locs1 g1 g2 hS1
theorem zz_cv (hP : va_P D cl ws H) (hD : va_D A ws) (hS : va_S A s.heap H locs) (hA : ∀ q, s.heap.size ≤ q → A q) (isC isR perm : List Nat) (hC : isC.map (fun i => ws[i]?) = wc.map some) (hR : isR.map (fun i => ws[i]?) = (isR.filterMap (fun i => ws[i]?)).map some) (hn : va_nd isR = true) (hdis : ∀ i ∈ isR, i ∉ isC)
    (hp : perm.map (fun i => (isR.filterMap (fun i => ws[i]?) ++ w')[i]?) = ws'.map some) (hpn : va_nd perm = true) (hr : va_Run p l e R s m args below meth c H locs cells slots 0 0 (F0 m pc ls st0) rest (zz_Qv D cl w' (va_A wc H.size) a) (va_A wc H.size))
    (kk : ∀ (H1 : Heap) (locs1 : List Loc), va_P D cl ws' H1 → va_D A ws' → va_S A s.heap H1 locs1 → W p l e R s m args below meth c H1 locs1 cells slots Q (F0 m (pc + 3) ls rest)) : W p l e R s m args below meth c H locs cells slots Q (F0 m pc ls st0) := by
  have hF := va_free hD hS hA isC hC
  refine va_callv hr hS (fun q _ h => hF q h) hF (fun u t H1 locs1 ht hvm hw hB hz1 hk1 hS1 => ?_)
  have hB1 : va_P D cl w' H1 := by rw [← ht]; exact hB.1
  obtain ⟨g1, g2⟩ := zz_back hP hD hS hA isC isR perm hC hR hn hdis hp hpn hk1 hB1 hB.2
  exact kk H1 locs1 g1 g2 hS1
/-- a method's end: the return rows, once for all its returns -/
theorem zz_endi {cc : ByteArray} {r : Int32} {g : JFrame} {H0 : Heap} {L0 : List Loc} (hx : p.tables.exec = Jvm.exec) (hb : c.code = cc) (hr : meth.sig.returnType = some .int) (hlocks : meth.locks = false)
    (k : ∀ Qq : State → Prop, (∀ (pc : Nat) (ls : Array Slot) (H : Heap) (locs : List Loc), decode cc pc = .ok (.ireturn, 1) → va_P D cl w' H → va_D A w' → va_S A s.heap H locs → W p l e R s m args below meth c H locs 0 0 Qq (F0 m pc ls [.int r])) → W p l e R s m args below meth c H0 L0 0 0 Qq g) :
    W p l e R s m args below meth c H0 L0 0 0 (MQ below (zz_Qi D cl r w' A) args s 0 0 A) g :=
  k _ (fun pc ls H locs hd hP hD hS => W.iret (v := r) hx hb hr (fun t ht hW => ⟨⟨r, (), rfl, rfl, by rw [ht]; exact hP, hD⟩, hS.F ht⟩) hS.2.2 hd)
theorem zz_endz {cc : ByteArray} {r : Int32} {g : JFrame} {H0 : Heap} {L0 : List Loc} {ty : FieldType} (hx : p.tables.exec = Jvm.exec) (hb : c.code = cc) (hr : meth.sig.returnType = some ty) (hlocks : meth.locks = false)
    (k : ∀ Qq : State → Prop, (∀ (pc : Nat) (ls : Array Slot) (H : Heap) (locs : List Loc), narrow ty (.int r) = .int r → decode cc pc = .ok (.ireturn, 1) → va_P D cl w' H → va_D A w' → va_S A s.heap H locs → W p l e R s m args below meth c H locs 0 0 Qq (F0 m pc ls [.int r])) → W p l e R s m args below meth c H0 L0 0 0 Qq g) :
    W p l e R s m args below meth c H0 L0 0 0 (MQ below (zz_Qi D cl r w' A) args s 0 0 A) g :=
  k _ (fun pc ls H locs hn hd hP hD hS => W.zret (v := r) hx hb hr hn (fun t ht hW => ⟨⟨r, (), rfl, rfl, by rw [ht]; exact hP, hD⟩, hS.F ht⟩) hS.2.2 hd)
theorem zz_endl {cc : ByteArray} {r : Int64} {g : JFrame} {H0 : Heap} {L0 : List Loc} (hx : p.tables.exec = Jvm.exec) (hb : c.code = cc) (hr : meth.sig.returnType = some .long) (hlocks : meth.locks = false)
    (k : ∀ Qq : State → Prop, (∀ (pc : Nat) (ls : Array Slot) (H : Heap) (locs : List Loc), decode cc pc = .ok (.lreturn, 1) → va_P D cl w' H → va_D A w' → va_S A s.heap H locs → W p l e R s m args below meth c H locs 0 0 Qq (F0 m pc ls [.long r])) → W p l e R s m args below meth c H0 L0 0 0 Qq g) :
    W p l e R s m args below meth c H0 L0 0 0 (MQ below (zz_Ql D cl r w' A) args s 0 0 A) g :=
  k _ (fun pc ls H locs hd hP hD hS => W.lret (v := r) hx hb hr (fun t ht hW => ⟨⟨r, (), rfl, rfl, by rw [ht]; exact hP, hD⟩, hS.F ht⟩) hS.2.2 hd)
theorem zz_endv {cc : ByteArray} {g : JFrame} {H0 : Heap} {L0 : List Loc} (hx : p.tables.exec = Jvm.exec) (hb : c.code = cc) (hr : meth.sig.returnType = none) (hlocks : meth.locks = false)
    (k : ∀ Qq : State → Prop, (∀ (pc : Nat) (ls : Array Slot) (H : Heap) (locs : List Loc), decode cc pc = .ok (.return_, 1) → va_P D cl w' H → va_D A w' → va_S A s.heap H locs → W p l e R s m args below meth c H locs 0 0 Qq (F0 m pc ls [])) → W p l e R s m args below meth c H0 L0 0 0 Qq g) :
    W p l e R s m args below meth c H0 L0 0 0 (MQ below (zz_Qv D cl w' A) args s 0 0 A) g :=
  k _ (fun pc ls H locs hd hP hD hS => W.vret hx hb hr (fun t ht hW => ⟨⟨(), rfl, trivial, by rw [ht]; exact hP, hD⟩, hS.F ht⟩) hS.2.2 hd)
end Zz
abbrev zz_tys (cI cC cB cJ : ClassId) : List (ClassId × FieldType) := [(cI, .int), (cC, .char), (cB, .byte), (cJ, .long)]
/-- 0 or 1; a letter: what the narrow kinds hold -/
def zz_bo (x : Int32) : Bool := x == 0 || x == 1
def zz_ch (x : Int32) : Bool := zz_in x 65536
theorem zz_nar_boolean {x : Int32} (h : zz_bo x = true) : narrow .boolean (.int x) = .int x := by
  simp only [zz_bo, Bool.or_eq_true, beq_iff_eq] at h
  rcases h with rfl | rfl <;> rfl
theorem zz_fit_boolean {x : Int32} (h : zz_bo x = true) : fits .boolean (.int x) = true := by
  simp only [zz_bo, Bool.or_eq_true, beq_iff_eq] at h
  rcases h with rfl | rfl <;> rfl
theorem zz_chN {x : Int32} (h : zz_ch x = true) : ∃ q : Nat, q < 65536 ∧ x = nI q := vp_in_of (zz_vp h) (by omega)
theorem zz_nar_char {x : Int32} (h : zz_ch x = true) : narrow .char (.int x) = .int x := by
  obtain ⟨q, h1, rfl⟩ := zz_chN h
  exact (pk_charN h1).1
theorem zz_fit_char {x : Int32} (h : zz_ch x = true) : fits .char (.int x) = true := by
  obtain ⟨q, h1, rfl⟩ := zz_chN h
  exact (pk_charN h1).2
/-- arraycopy within its rows -/
def zz_cp (sp dp n : Int32) (n0 n1 : Nat) : Bool := decide (0 ≤ sp.toInt) && (decide (0 ≤ dp.toInt) && (decide (0 ≤ n.toInt) && (decide (sp.toNatClampNeg + n.toNatClampNeg ≤ n0) && decide (dp.toNatClampNeg + n.toNatClampNeg ≤ n1))))
theorem zz_cpD {sp dp n : Int32} {n0 n1 : Nat} (h : zz_cp sp dp n n0 n1 = true) : ¬ sp < 0 ∧ ¬ dp < 0 ∧ ¬ n < 0 ∧ sp.toNatClampNeg + n.toNatClampNeg ≤ n0 ∧ dp.toNatClampNeg + n.toNatClampNeg ≤ n1 := by
  simp only [zz_cp, Bool.and_eq_true, decide_eq_true_eq] at h
  obtain ⟨h1, h2, h3, h4, h5⟩ := h
  have key : ∀ z : Int32, 0 ≤ z.toInt → ¬ z < 0 := by
    intro z hz q
    rw [Int32.lt_iff_toInt_lt, Int32.toInt_zero] at q
    omega
  exact ⟨key _ h1, key _ h2, key _ h3, h4, h5⟩
end
section
abbrev ws_Row_length : List Cond := .code y_Row_length prog_7_method_2_code 1 (some .int) :: zw
abbrev rm_Row_length : Room := { frames := 0, cells := 0, slots := 0, locals := 0 }
theorem hd_Row_length : y_Row_length.cls = "RealText$Row" ∧ y_Row_length.cls ≠ "java/lang/invoke/MethodHandle" ∧ y_Row_length.cls ≠ "java/lang/invoke/VarHandle" ∧ (parseMethodDescriptor y_Row_length.desc).map (fun d => d.parameters.length) = some 0 := by decide +kernel
theorem d_Row_length_0 : decode prog_7_method_2_code 0 = .ok (.aload_n 0, 1) := by decide +kernel
theorem d_Row_length_1 : decode prog_7_method_2_code 1 = .ok (.getfield 13, 3) := by decide +kernel
theorem d_Row_length_4 : decode prog_7_method_2_code 4 = .ok (.aload_n 0, 1) := by decide +kernel
theorem d_Row_length_5 : decode prog_7_method_2_code 5 = .ok (.getfield 17, 3) := by decide +kernel
theorem d_Row_length_8 : decode prog_7_method_2_code 8 = .ok (.isub, 1) := by decide +kernel
theorem d_Row_length_9 : decode prog_7_method_2_code 9 = .ok (.ireturn, 1) := by decide +kernel
def f_Row_length (v_start : Int32) (v_end : Int32) : Option (Int32) :=
  some (v_end - v_start)
set_option maxHeartbeats 4000000 in
set_option maxRecDepth 100000 in
theorem c_Row_length (l : Launch) (dC : Nat → ClassId) (dI : Nat → Nat → Nat) (cI cC cB cJ : ClassId) (sz : Nat) (h_v : Nat) (h_v_letters : Nat) (v_start : Int32) (v_end : Int32) (u : Int32) (hf : f_Row_length v_start v_end = some u) : Met l y_Row_length ws_Row_length rm_Row_length (zz_P zz_T (dC, dI) vwCl (zz_tys cI cC cB cJ) [.ref h_v] [(h_v, .inr (4, [.ref h_v_letters, .int v_start, .int v_end]))] sz) (zz_Qi (dC, dI) vwCl u [(h_v, .inr (4, [.ref h_v_letters, .int v_start, .int v_end]))] (va_A [(h_v, .inr (4, [.ref h_v_letters, .int v_start, .int v_end]))] sz)) 0 0 (va_A [(h_v, .inr (4, [.ref h_v_letters, .int v_start, .int v_end]))] sz) := by
  refine Met.ofW (cc := prog_7_method_2_code) (maxL := 1) (ret := (some .int)) (by decide) rfl ?_
  intro p e s m args below meth c s₁ B hml hv
  obtain ⟨rfl, hsz, hP, hK, hD0, hX⟩ := hv
  have hx := B.exec
  have hb := B.bytes
  have hr := B.returns
  have hts := atoms_spec (ws := ws_Row_length) B.pre
  have hw : ∀ w ∈ zw, w.before [.ref h_v].toArray s = true := fun w h => hts w (List.mem_cons_of_mem _ h)
  have hown : s.vm.findClass R_Row = some m.cls := findClass_of_methodNamed B.named
  have hlocks := B.notSynchronized
  subst hsz
  have hD := hD0.self (sz := s.heap.size)
  generalize hAe : va_A [(h_v, .inr (4, [.ref h_v_letters, .int v_start, .int v_end]))] s.heap.size = A at hD hX ⊢
  have hA : ∀ q : Nat, s.heap.size ≤ q → A q := fun q h => by rw [← hAe]; exact Or.inr h
  have hS : va_S A s.heap s.heap [] := va_S.rf
  have hl := lv_entry [.ref h_v] (n := 1) (Nat.le_of_ble_eq_true rfl)
  rw [lg_entry_eq]
  generalize (lg_sl [.ref h_v] ++ List.replicate (1 - (lg_sl [.ref h_v]).length) Slot.unset).toArray = ls at hl ⊢
  have hl : lv_has ls 1 [(0, .ref h_v)] := hl
  refine zz_endi hx hb hr hlocks (fun Qq hend => ?_)
  unfold f_Row_length at hf
  refine lv_aload_n hx hb d_Row_length_0 rfl (lv_at hl 0 rfl) ?_
  refine va_get (D := (dC, dI)) (ci := 4) (v := .int v_end) (C := R_Row) (T := T_Row) (N := 3) hx hb hw in_Row hown hK hP 0 rfl rfl 2 (by decide) (hw _ wd_39) (fun _ h9 => h9) rfl d_Row_length_1 ?_
  refine lv_aload_n hx hb d_Row_length_4 rfl (lv_at hl 0 rfl) ?_
  refine va_get (D := (dC, dI)) (ci := 4) (v := .int v_start) (C := R_Row) (T := T_Row) (N := 3) hx hb hw in_Row hown hK hP 0 rfl rfl 1 (by decide) (hw _ wd_38) (fun _ h9 => h9) rfl d_Row_length_5 ?_
  refine lv_isub hx hb d_Row_length_8 ?_
  cases hf
  exact hend 9 ls _ _ d_Row_length_9 hP hD hS
abbrev ws_Row_at : List Cond := .code y_Row_at prog_7_method_3_code 2 (some .char) :: zw
abbrev rm_Row_at : Room := { frames := 0, cells := 0, slots := 0, locals := 0 }
theorem hd_Row_at : y_Row_at.cls = "RealText$Row" ∧ y_Row_at.cls ≠ "java/lang/invoke/MethodHandle" ∧ y_Row_at.cls ≠ "java/lang/invoke/VarHandle" ∧ (parseMethodDescriptor y_Row_at.desc).map (fun d => d.parameters.length) = some 1 := by decide +kernel
theorem d_Row_at_0 : decode prog_7_method_3_code 0 = .ok (.iload_n 1, 1) := by decide +kernel
theorem d_Row_at_1 : decode prog_7_method_3_code 1 = .ok (.ifCond .lt 30, 3) := by decide +kernel
theorem d_Row_at_4 : decode prog_7_method_3_code 4 = .ok (.iload_n 1, 1) := by decide +kernel
theorem d_Row_at_5 : decode prog_7_method_3_code 5 = .ok (.aload_n 0, 1) := by decide +kernel
theorem d_Row_at_6 : decode prog_7_method_3_code 6 = .ok (.getfield 13, 3) := by decide +kernel
theorem d_Row_at_9 : decode prog_7_method_3_code 9 = .ok (.aload_n 0, 1) := by decide +kernel
theorem d_Row_at_10 : decode prog_7_method_3_code 10 = .ok (.getfield 17, 3) := by decide +kernel
theorem d_Row_at_13 : decode prog_7_method_3_code 13 = .ok (.isub, 1) := by decide +kernel
theorem d_Row_at_14 : decode prog_7_method_3_code 14 = .ok (.if_icmp .ge 17, 3) := by decide +kernel
theorem d_Row_at_17 : decode prog_7_method_3_code 17 = .ok (.aload_n 0, 1) := by decide +kernel
theorem d_Row_at_18 : decode prog_7_method_3_code 18 = .ok (.getfield 7, 3) := by decide +kernel
theorem d_Row_at_21 : decode prog_7_method_3_code 21 = .ok (.aload_n 0, 1) := by decide +kernel
theorem d_Row_at_22 : decode prog_7_method_3_code 22 = .ok (.getfield 17, 3) := by decide +kernel
theorem d_Row_at_25 : decode prog_7_method_3_code 25 = .ok (.iload_n 1, 1) := by decide +kernel
theorem d_Row_at_26 : decode prog_7_method_3_code 26 = .ok (.iadd, 1) := by decide +kernel
theorem d_Row_at_27 : decode prog_7_method_3_code 27 = .ok (.caload, 1) := by decide +kernel
theorem d_Row_at_28 : decode prog_7_method_3_code 28 = .ok (.goto 4, 3) := by decide +kernel
theorem d_Row_at_31 : decode prog_7_method_3_code 31 = .ok (.iconst 0, 1) := by decide +kernel
theorem d_Row_at_32 : decode prog_7_method_3_code 32 = .ok (.ireturn, 1) := by decide +kernel
def f_Row_at (n_v_letters : Nat) (x1 : Int32) (v_start : Int32) (v_end : Int32) (v_letters_a : Nat → Int32) : Option (Int32) :=
  (if x1 < 0 then
  some (0)
  else
  (if (v_end - v_start) ≤ x1 then
  some (0)
  else
  if zz_in (v_start + x1) n_v_letters = true then
  if zz_ch (v_letters_a (v_start + x1).toNatClampNeg) = true then
  some (v_letters_a (v_start + x1).toNatClampNeg)
  else none
  else none))
set_option maxHeartbeats 4000000 in
set_option maxRecDepth 100000 in
theorem c_Row_at (l : Launch) (dC : Nat → ClassId) (dI : Nat → Nat → Nat) (cI cC cB cJ : ClassId) (sz : Nat) (h_v : Nat) (h_v_letters : Nat) (n_v_letters : Nat) (x1 : Int32) (v_start : Int32) (v_end : Int32) (v_letters_a : Nat → Int32) (u : Int32) (hf : f_Row_at n_v_letters x1 v_start v_end v_letters_a = some u) : Met l y_Row_at ws_Row_at rm_Row_at (zz_P zz_T (dC, dI) vwCl (zz_tys cI cC cB cJ) [.ref h_v, .int x1] [(h_v, .inr (4, [.ref h_v_letters, .int v_start, .int v_end])), (h_v_letters, .inl (cC, n_v_letters, .inl v_letters_a))] sz) (zz_Qi (dC, dI) vwCl u [(h_v, .inr (4, [.ref h_v_letters, .int v_start, .int v_end])), (h_v_letters, .inl (cC, n_v_letters, .inl v_letters_a))] (va_A [(h_v, .inr (4, [.ref h_v_letters, .int v_start, .int v_end])), (h_v_letters, .inl (cC, n_v_letters, .inl v_letters_a))] sz)) 0 0 (va_A [(h_v, .inr (4, [.ref h_v_letters, .int v_start, .int v_end])), (h_v_letters, .inl (cC, n_v_letters, .inl v_letters_a))] sz) := by
  refine Met.ofW (cc := prog_7_method_3_code) (maxL := 2) (ret := (some .char)) (by decide) rfl ?_
  intro p e s m args below meth c s₁ B hml hv
  obtain ⟨rfl, hsz, hP, hK, hD0, hX⟩ := hv
  have hx := B.exec
  have hb := B.bytes
  have hr := B.returns
  have hts := atoms_spec (ws := ws_Row_at) B.pre
  have hw : ∀ w ∈ zw, w.before [.ref h_v, .int x1].toArray s = true := fun w h => hts w (List.mem_cons_of_mem _ h)
  have hown : s.vm.findClass R_Row = some m.cls := findClass_of_methodNamed B.named
  have hlocks := B.notSynchronized
  subst hsz
  have hD := hD0.self (sz := s.heap.size)
  generalize hAe : va_A [(h_v, .inr (4, [.ref h_v_letters, .int v_start, .int v_end])), (h_v_letters, .inl (cC, n_v_letters, .inl v_letters_a))] s.heap.size = A at hD hX ⊢
  have hA : ∀ q : Nat, s.heap.size ≤ q → A q := fun q h => by rw [← hAe]; exact Or.inr h
  have hS : va_S A s.heap s.heap [] := va_S.rf
  have hl := lv_entry [.ref h_v, .int x1] (n := 2) (Nat.le_of_ble_eq_true rfl)
  rw [lg_entry_eq]
  generalize (lg_sl [.ref h_v, .int x1] ++ List.replicate (2 - (lg_sl [.ref h_v, .int x1]).length) Slot.unset).toArray = ls at hl ⊢
  have hl : lv_has ls 2 [(0, .ref h_v), (1, .int x1)] := hl
  refine zz_endz hx hb hr hlocks (fun Qq hend => ?_)
  unfold f_Row_at at hf
  refine lv_iload_n hx hb d_Row_at_0 rfl (lv_at hl 1 rfl) ?_
  refine lv_if_lt (tgt := 31) hx hb d_Row_at_1 (by decide) (fun hc => ?_) (fun hc => ?_)
  · have hf := zz_ifp hc hf
    refine lv_iconst (v := 0) hx hb d_Row_at_31 (by decide) ?_
    cases hf
    exact hend 32 ls _ _ rfl d_Row_at_32 hP hD hS
  · have hf := zz_ifn hc hf
    refine lv_iload_n hx hb d_Row_at_4 rfl (lv_at hl 1 rfl) ?_
    refine lv_aload_n hx hb d_Row_at_5 rfl (lv_at hl 0 rfl) ?_
    refine va_get (D := (dC, dI)) (ci := 4) (v := .int v_end) (C := R_Row) (T := T_Row) (N := 3) hx hb hw in_Row hown hK hP 0 rfl rfl 2 (by decide) (hw _ wd_39) (fun _ h9 => h9) rfl d_Row_at_6 ?_
    refine lv_aload_n hx hb d_Row_at_9 rfl (lv_at hl 0 rfl) ?_
    refine va_get (D := (dC, dI)) (ci := 4) (v := .int v_start) (C := R_Row) (T := T_Row) (N := 3) hx hb hw in_Row hown hK hP 0 rfl rfl 1 (by decide) (hw _ wd_38) (fun _ h9 => h9) rfl d_Row_at_10 ?_
    refine lv_isub hx hb d_Row_at_13 ?_
    refine lv_icmp_ge (tgt := 31) hx hb d_Row_at_14 (by decide) (fun hc => ?_) (fun hc => ?_)
    · have hf := zz_ifp hc hf
      refine lv_iconst (v := 0) hx hb d_Row_at_31 (by decide) ?_
      cases hf
      exact hend 32 ls _ _ rfl d_Row_at_32 hP hD hS
    · have hf := zz_ifn hc hf
      refine lv_aload_n hx hb d_Row_at_17 rfl (lv_at hl 0 rfl) ?_
      refine va_get (D := (dC, dI)) (ci := 4) (v := .ref h_v_letters) (C := R_Row) (T := T_Row) (N := 3) hx hb hw in_Row hown hK hP 0 rfl rfl 0 (by decide) (hw _ wd_37) (fun _ h9 => h9) rfl d_Row_at_18 ?_
      refine lv_aload_n hx hb d_Row_at_21 rfl (lv_at hl 0 rfl) ?_
      refine va_get (D := (dC, dI)) (ci := 4) (v := .int v_start) (C := R_Row) (T := T_Row) (N := 3) hx hb hw in_Row hown hK hP 0 rfl rfl 1 (by decide) (hw _ wd_38) (fun _ h9 => h9) rfl d_Row_at_22 ?_
      refine lv_iload_n hx hb d_Row_at_25 rfl (lv_at hl 1 rfl) ?_
      refine lv_iadd hx hb d_Row_at_26 ?_
      obtain ⟨hb_1, hf⟩ := zz_gd hf
      refine va_cald hx hb hK hP 1 1 rfl rfl (zz_vp hb_1) d_Row_at_27 ?_
      refine lv_goto (tgt := 32) hx hb d_Row_at_28 (by decide) ?_
      obtain ⟨hn, hf⟩ := zz_gd hf
      cases hf
      exact hend 32 ls _ _ (zz_nar_char hn) d_Row_at_32 hP hD hS
abbrev ws_Row_put : List Cond := .code y_Row_put prog_7_method_4_code 2 none :: zw
abbrev rm_Row_put : Room := { frames := 0, cells := 0, slots := 0, locals := 0 }
theorem hd_Row_put : y_Row_put.cls = "RealText$Row" ∧ y_Row_put.cls ≠ "java/lang/invoke/MethodHandle" ∧ y_Row_put.cls ≠ "java/lang/invoke/VarHandle" ∧ (parseMethodDescriptor y_Row_put.desc).map (fun d => d.parameters.length) = some 1 := by decide +kernel
theorem d_Row_put_0 : decode prog_7_method_4_code 0 = .ok (.aload_n 0, 1) := by decide +kernel
theorem d_Row_put_1 : decode prog_7_method_4_code 1 = .ok (.getfield 13, 3) := by decide +kernel
theorem d_Row_put_4 : decode prog_7_method_4_code 4 = .ok (.aload_n 0, 1) := by decide +kernel
theorem d_Row_put_5 : decode prog_7_method_4_code 5 = .ok (.getfield 7, 3) := by decide +kernel
theorem d_Row_put_8 : decode prog_7_method_4_code 8 = .ok (.arraylength, 1) := by decide +kernel
theorem d_Row_put_9 : decode prog_7_method_4_code 9 = .ok (.if_icmp .ge 23, 3) := by decide +kernel
theorem d_Row_put_12 : decode prog_7_method_4_code 12 = .ok (.aload_n 0, 1) := by decide +kernel
theorem d_Row_put_13 : decode prog_7_method_4_code 13 = .ok (.getfield 7, 3) := by decide +kernel
theorem d_Row_put_16 : decode prog_7_method_4_code 16 = .ok (.aload_n 0, 1) := by decide +kernel
theorem d_Row_put_17 : decode prog_7_method_4_code 17 = .ok (.getfield 13, 3) := by decide +kernel
theorem d_Row_put_20 : decode prog_7_method_4_code 20 = .ok (.iload_n 1, 1) := by decide +kernel
theorem d_Row_put_21 : decode prog_7_method_4_code 21 = .ok (.castore, 1) := by decide +kernel
theorem d_Row_put_22 : decode prog_7_method_4_code 22 = .ok (.aload_n 0, 1) := by decide +kernel
theorem d_Row_put_23 : decode prog_7_method_4_code 23 = .ok (.dup, 1) := by decide +kernel
theorem d_Row_put_24 : decode prog_7_method_4_code 24 = .ok (.getfield 13, 3) := by decide +kernel
theorem d_Row_put_27 : decode prog_7_method_4_code 27 = .ok (.iconst 1, 1) := by decide +kernel
theorem d_Row_put_28 : decode prog_7_method_4_code 28 = .ok (.iadd, 1) := by decide +kernel
theorem d_Row_put_29 : decode prog_7_method_4_code 29 = .ok (.putfield 13, 3) := by decide +kernel
theorem d_Row_put_32 : decode prog_7_method_4_code 32 = .ok (.return_, 1) := by decide +kernel
def f_Row_put (n_v_letters : Nat) (x1 : Int32) (v_end : Int32) (v_letters_a : Nat → Int32) : Option (Int32 × (Nat → Int32)) :=
  (if (nI n_v_letters) ≤ v_end then
  some (v_end, v_letters_a)
  else
  if zz_in v_end n_v_letters = true then
  some (v_end + 1, upd v_letters_a v_end.toNatClampNeg (vp_nar .char x1))
  else none)
set_option maxHeartbeats 4000000 in
set_option maxRecDepth 100000 in
theorem c_Row_put (l : Launch) (dC : Nat → ClassId) (dI : Nat → Nat → Nat) (cI cC cB cJ : ClassId) (sz : Nat) (h_v : Nat) (h_v_letters : Nat) (n_v_letters : Nat) (x1 : Int32) (v_start : Int32) (v_end : Int32) (v_letters_a : Nat → Int32) (u : Int32 × (Nat → Int32)) (hf : f_Row_put n_v_letters x1 v_end v_letters_a = some u) : Met l y_Row_put ws_Row_put rm_Row_put (zz_P zz_T (dC, dI) vwCl (zz_tys cI cC cB cJ) [.ref h_v, .int x1] [(h_v, .inr (4, [.ref h_v_letters, .int v_start, .int v_end])), (h_v_letters, .inl (cC, n_v_letters, .inl v_letters_a))] sz) (zz_Qv (dC, dI) vwCl [(h_v, .inr (4, [.ref h_v_letters, .int v_start, .int u.1])), (h_v_letters, .inl (cC, n_v_letters, .inl u.2))] (va_A [(h_v, .inr (4, [.ref h_v_letters, .int v_start, .int v_end])), (h_v_letters, .inl (cC, n_v_letters, .inl v_letters_a))] sz)) 0 0 (va_A [(h_v, .inr (4, [.ref h_v_letters, .int v_start, .int v_end])), (h_v_letters, .inl (cC, n_v_letters, .inl v_letters_a))] sz) := by
  refine Met.ofW (cc := prog_7_method_4_code) (maxL := 2) (ret := none) (by decide) rfl ?_
  intro p e s m args below meth c s₁ B hml hv
  obtain ⟨rfl, hsz, hP, hK, hD0, hX⟩ := hv
  have hx := B.exec
  have hb := B.bytes
  have hr := B.returns
  have hts := atoms_spec (ws := ws_Row_put) B.pre
  have hw : ∀ w ∈ zw, w.before [.ref h_v, .int x1].toArray s = true := fun w h => hts w (List.mem_cons_of_mem _ h)
  have hown : s.vm.findClass R_Row = some m.cls := findClass_of_methodNamed B.named
  have hlocks := B.notSynchronized
  subst hsz
  have hD := hD0.self (sz := s.heap.size)
  generalize hAe : va_A [(h_v, .inr (4, [.ref h_v_letters, .int v_start, .int v_end])), (h_v_letters, .inl (cC, n_v_letters, .inl v_letters_a))] s.heap.size = A at hD hX ⊢
  have hA : ∀ q : Nat, s.heap.size ≤ q → A q := fun q h => by rw [← hAe]; exact Or.inr h
  have hS : va_S A s.heap s.heap [] := va_S.rf
  have hl := lv_entry [.ref h_v, .int x1] (n := 2) (Nat.le_of_ble_eq_true rfl)
  rw [lg_entry_eq]
  generalize (lg_sl [.ref h_v, .int x1] ++ List.replicate (2 - (lg_sl [.ref h_v, .int x1]).length) Slot.unset).toArray = ls at hl ⊢
  have hl : lv_has ls 2 [(0, .ref h_v), (1, .int x1)] := hl
  refine zz_endv hx hb hr hlocks (fun Qq hend => ?_)
  unfold f_Row_put at hf
  refine lv_aload_n hx hb d_Row_put_0 rfl (lv_at hl 0 rfl) ?_
  refine va_get (D := (dC, dI)) (ci := 4) (v := .int v_end) (C := R_Row) (T := T_Row) (N := 3) hx hb hw in_Row hown hK hP 0 rfl rfl 2 (by decide) (hw _ wd_39) (fun _ h9 => h9) rfl d_Row_put_1 ?_
  refine lv_aload_n hx hb d_Row_put_4 rfl (lv_at hl 0 rfl) ?_
  refine va_get (D := (dC, dI)) (ci := 4) (v := .ref h_v_letters) (C := R_Row) (T := T_Row) (N := 3) hx hb hw in_Row hown hK hP 0 rfl rfl 0 (by decide) (hw _ wd_37) (fun _ h9 => h9) rfl d_Row_put_5 ?_
  refine va_alen (v := nI n_v_letters) hx hb hK hP 1 1 rfl rfl rfl d_Row_put_8 ?_
  refine lv_icmp_ge (tgt := 32) hx hb d_Row_put_9 (by decide) (fun hc => ?_) (fun hc => ?_)
  · have hf := zz_ifp hc hf
    cases hf
    exact hend 32 ls _ _ d_Row_put_32 hP hD hS
  · have hf := zz_ifn hc hf
    refine lv_aload_n hx hb d_Row_put_12 rfl (lv_at hl 0 rfl) ?_
    refine va_get (D := (dC, dI)) (ci := 4) (v := .ref h_v_letters) (C := R_Row) (T := T_Row) (N := 3) hx hb hw in_Row hown hK hP 0 rfl rfl 0 (by decide) (hw _ wd_37) (fun _ h9 => h9) rfl d_Row_put_13 ?_
    refine lv_aload_n hx hb d_Row_put_16 rfl (lv_at hl 0 rfl) ?_
    refine va_get (D := (dC, dI)) (ci := 4) (v := .int v_end) (C := R_Row) (T := T_Row) (N := 3) hx hb hw in_Row hown hK hP 0 rfl rfl 2 (by decide) (hw _ wd_39) (fun _ h9 => h9) rfl d_Row_put_17 ?_
    refine lv_iload_n hx hb d_Row_put_20 rfl (lv_at hl 1 rfl) ?_
    obtain ⟨hb_1, hf⟩ := zz_gd hf
    refine va_cast hx hb hK hP hD hS 1 1 rfl rfl (zz_vp hb_1) d_Row_put_21 (fun H locs hP hD hS => ?_)
    have hP : va_P (dC, dI) vwCl [(h_v, .inr (4, [.ref h_v_letters, .int v_start, .int v_end])), (h_v_letters, .inl (cC, n_v_letters, .inl (upd v_letters_a v_end.toNatClampNeg (vp_nar .char x1))))] H := hP
    have hD : va_D A [(h_v, .inr (4, [.ref h_v_letters, .int v_start, .int v_end])), (h_v_letters, .inl (cC, n_v_letters, .inl (upd v_letters_a v_end.toNatClampNeg (vp_nar .char x1))))] := hD
    refine lv_aload_n hx hb d_Row_put_22 rfl (lv_at hl 0 rfl) ?_
    refine lv_dup hx hb d_Row_put_23 rfl ?_
    refine va_get (D := (dC, dI)) (ci := 4) (v := .int v_end) (C := R_Row) (T := T_Row) (N := 3) hx hb hw in_Row hown hK hP 0 rfl rfl 2 (by decide) (hw _ wd_39) (fun _ h9 => h9) rfl d_Row_put_24 ?_
    refine lv_iconst (v := 1) hx hb d_Row_put_27 (by decide) ?_
    refine lv_iadd hx hb d_Row_put_28 ?_
    refine va_put (D := (dC, dI)) (ci := 4) (v := .int (v_end + 1)) (ty := .int) (C := R_Row) (T := T_Row) (N := 3) hx hb hw in_Row ty_Row tyok_Row nm_Row hown hK hP hD hS 0 rfl rfl 2 (by decide) (hw _ wd_39) (fun _ h9 => h9) rfl (tyok_Row 2 (by decide)) rfl rfl (Nat.le_of_ble_eq_true rfl) d_Row_put_29 (fun H locs hP hD hS => ?_)
    have hP : va_P (dC, dI) vwCl [(h_v, .inr (4, [.ref h_v_letters, .int v_start, .int (v_end + 1)])), (h_v_letters, .inl (cC, n_v_letters, .inl (upd v_letters_a v_end.toNatClampNeg (vp_nar .char x1))))] H := hP
    have hD : va_D A [(h_v, .inr (4, [.ref h_v_letters, .int v_start, .int (v_end + 1)])), (h_v_letters, .inl (cC, n_v_letters, .inl (upd v_letters_a v_end.toNatClampNeg (vp_nar .char x1))))] := hD
    cases hf
    exact hend 32 ls _ _ d_Row_put_32 hP hD hS
abbrev ws_Row_takeFirst : List Cond := .code y_Row_takeFirst prog_7_method_6_code 2 (some .char) :: zw
abbrev rm_Row_takeFirst : Room := { frames := 1, cells := 0, slots := 0, locals := 21 }
theorem hd_Row_takeFirst : y_Row_takeFirst.cls = "RealText$Row" ∧ y_Row_takeFirst.cls ≠ "java/lang/invoke/MethodHandle" ∧ y_Row_takeFirst.cls ≠ "java/lang/invoke/VarHandle" ∧ (parseMethodDescriptor y_Row_takeFirst.desc).map (fun d => d.parameters.length) = some 0 := by decide +kernel
theorem d_Row_takeFirst_0 : decode prog_7_method_6_code 0 = .ok (.aload_n 0, 1) := by decide +kernel
theorem d_Row_takeFirst_1 : decode prog_7_method_6_code 1 = .ok (.iconst 0, 1) := by decide +kernel
theorem d_Row_takeFirst_2 : decode prog_7_method_6_code 2 = .ok (.invokevirtual 34, 3) := by decide +kernel
theorem d_Row_takeFirst_5 : decode prog_7_method_6_code 5 = .ok (.istore_n 1, 1) := by decide +kernel
theorem d_Row_takeFirst_6 : decode prog_7_method_6_code 6 = .ok (.aload_n 0, 1) := by decide +kernel
theorem d_Row_takeFirst_7 : decode prog_7_method_6_code 7 = .ok (.getfield 17, 3) := by decide +kernel
theorem d_Row_takeFirst_10 : decode prog_7_method_6_code 10 = .ok (.aload_n 0, 1) := by decide +kernel
theorem d_Row_takeFirst_11 : decode prog_7_method_6_code 11 = .ok (.getfield 13, 3) := by decide +kernel
theorem d_Row_takeFirst_14 : decode prog_7_method_6_code 14 = .ok (.if_icmp .ge 13, 3) := by decide +kernel
theorem d_Row_takeFirst_17 : decode prog_7_method_6_code 17 = .ok (.aload_n 0, 1) := by decide +kernel
theorem d_Row_takeFirst_18 : decode prog_7_method_6_code 18 = .ok (.dup, 1) := by decide +kernel
theorem d_Row_takeFirst_19 : decode prog_7_method_6_code 19 = .ok (.getfield 17, 3) := by decide +kernel
theorem d_Row_takeFirst_22 : decode prog_7_method_6_code 22 = .ok (.iconst 1, 1) := by decide +kernel
theorem d_Row_takeFirst_23 : decode prog_7_method_6_code 23 = .ok (.iadd, 1) := by decide +kernel
theorem d_Row_takeFirst_24 : decode prog_7_method_6_code 24 = .ok (.putfield 17, 3) := by decide +kernel
theorem d_Row_takeFirst_27 : decode prog_7_method_6_code 27 = .ok (.iload_n 1, 1) := by decide +kernel
theorem d_Row_takeFirst_28 : decode prog_7_method_6_code 28 = .ok (.ireturn, 1) := by decide +kernel
def f_Row_takeFirst (n_v_letters : Nat) (v_start : Int32) (v_end : Int32) (v_letters_a : Nat → Int32) : Option (Int32 × Int32) :=
  (f_Row_at n_v_letters 0 v_start v_end v_letters_a).bind fun u_1 =>
  (if v_end ≤ v_start then
  if zz_ch u_1 = true then
  some (u_1, v_start)
  else none
  else
  if zz_ch u_1 = true then
  some (u_1, v_start + 1)
  else none)
set_option maxHeartbeats 4000000 in
set_option maxRecDepth 100000 in
theorem c_Row_takeFirst (l : Launch) (dC : Nat → ClassId) (dI : Nat → Nat → Nat) (cI cC cB cJ : ClassId) (sz : Nat) (h_v : Nat) (h_v_letters : Nat) (n_v_letters : Nat) (v_start : Int32) (v_end : Int32) (v_letters_a : Nat → Int32) (u : Int32 × Int32) (hf : f_Row_takeFirst n_v_letters v_start v_end v_letters_a = some u) : Met l y_Row_takeFirst ws_Row_takeFirst rm_Row_takeFirst (zz_P zz_T (dC, dI) vwCl (zz_tys cI cC cB cJ) [.ref h_v] [(h_v, .inr (4, [.ref h_v_letters, .int v_start, .int v_end])), (h_v_letters, .inl (cC, n_v_letters, .inl v_letters_a))] sz) (zz_Qi (dC, dI) vwCl u.1 [(h_v, .inr (4, [.ref h_v_letters, .int u.2, .int v_end])), (h_v_letters, .inl (cC, n_v_letters, .inl v_letters_a))] (va_A [(h_v, .inr (4, [.ref h_v_letters, .int v_start, .int v_end])), (h_v_letters, .inl (cC, n_v_letters, .inl v_letters_a))] sz)) 0 0 (va_A [(h_v, .inr (4, [.ref h_v_letters, .int v_start, .int v_end])), (h_v_letters, .inl (cC, n_v_letters, .inl v_letters_a))] sz) := by
  refine Met.ofW (cc := prog_7_method_6_code) (maxL := 2) (ret := (some .char)) (by decide) rfl ?_
  intro p e s m args below meth c s₁ B hml hv
  obtain ⟨rfl, hsz, hP, hK, hD0, hX⟩ := hv
  have hx := B.exec
  have hb := B.bytes
  have hr := B.returns
  have hts := atoms_spec (ws := ws_Row_takeFirst) B.pre
  have hw : ∀ w ∈ zw, w.before [.ref h_v].toArray s = true := fun w h => hts w (List.mem_cons_of_mem _ h)
  have hown : s.vm.findClass R_Row = some m.cls := findClass_of_methodNamed B.named
  have hlocks := B.notSynchronized
  subst hsz
  have hD := hD0.self (sz := s.heap.size)
  generalize hAe : va_A [(h_v, .inr (4, [.ref h_v_letters, .int v_start, .int v_end])), (h_v_letters, .inl (cC, n_v_letters, .inl v_letters_a))] s.heap.size = A at hD hX ⊢
  have hA : ∀ q : Nat, s.heap.size ≤ q → A q := fun q h => by rw [← hAe]; exact Or.inr h
  have hS : va_S A s.heap s.heap [] := va_S.rf
  have hl := lv_entry [.ref h_v] (n := 2) (Nat.le_of_ble_eq_true rfl)
  rw [lg_entry_eq]
  generalize (lg_sl [.ref h_v] ++ List.replicate (2 - (lg_sl [.ref h_v]).length) Slot.unset).toArray = ls at hl ⊢
  have hl : lv_has ls 2 [(0, .ref h_v)] := hl
  refine zz_endz hx hb hr hlocks (fun Qq hend => ?_)
  unfold f_Row_takeFirst at hf
  refine lv_aload_n hx hb d_Row_takeFirst_0 rfl (lv_at hl 0 rfl) ?_
  refine lv_iconst (v := 0) hx hb d_Row_takeFirst_1 (by decide) ?_
  obtain ⟨u_1, hu_1, hf⟩ := zz_bd hf
  refine zz_ci (ws' := [(h_v, .inr (4, [.ref h_v_letters, .int v_start, .int v_end])), (h_v_letters, .inl (cC, n_v_letters, .inl v_letters_a))]) (wc := [(h_v, .inr (4, [.ref h_v_letters, .int v_start, .int v_end])), (h_v_letters, .inl (cC, n_v_letters, .inl v_letters_a))]) (w' := [(h_v, .inr (4, [.ref h_v_letters, .int v_start, .int v_end])), (h_v_letters, .inl (cC, n_v_letters, .inl v_letters_a))]) hP hD hS hA [0, 1] [] [0, 1] rfl rfl (by decide) (by decide) rfl (by decide) (va_runV (As := [.int 0]) (rest := []) ⟨hx, hb, hml, hown, hw⟩ (c_Row_at l dC dI cI cC cB cJ _ h_v h_v_letters n_v_letters 0 v_start v_end v_letters_a u_1 hu_1) (cwV 1 hw (zg_V wd_447 wd_448 wd_449 wd_2 wd_450) rfl rfl rfl hd_Row_at ⟨Nat.le_of_ble_eq_true rfl, Nat.le_of_ble_eq_true rfl⟩) (zz_preV zz_TE (va_recv (q0 := 0) (ci := 4) hK hP rfl rfl) hP hD hK hS hA trivial [0, 1] rfl (by decide)) rfl rfl hl.1 rfl (lv_room (Nat.le_of_ble_eq_true rfl)) d_Row_takeFirst_2 ⟨Nat.zero_le _, Nat.zero_le _⟩) (fun H locs hP hD hS => ?_)
  refine lv_istore_n hx hb d_Row_takeFirst_5 rfl hl (by decide) rfl (fun ls hl => ?_)
  have hl : lv_has ls 2 [(1, .int u_1), (0, .ref h_v)] := hl
  refine lv_aload_n hx hb d_Row_takeFirst_6 rfl (lv_at hl 1 rfl) ?_
  refine va_get (D := (dC, dI)) (ci := 4) (v := .int v_start) (C := R_Row) (T := T_Row) (N := 3) hx hb hw in_Row hown hK hP 0 rfl rfl 1 (by decide) (hw _ wd_38) (fun _ h9 => h9) rfl d_Row_takeFirst_7 ?_
  refine lv_aload_n hx hb d_Row_takeFirst_10 rfl (lv_at hl 1 rfl) ?_
  refine va_get (D := (dC, dI)) (ci := 4) (v := .int v_end) (C := R_Row) (T := T_Row) (N := 3) hx hb hw in_Row hown hK hP 0 rfl rfl 2 (by decide) (hw _ wd_39) (fun _ h9 => h9) rfl d_Row_takeFirst_11 ?_
  refine lv_icmp_ge (tgt := 27) hx hb d_Row_takeFirst_14 (by decide) (fun hc => ?_) (fun hc => ?_)
  · have hf := zz_ifp hc hf
    refine lv_iload_n hx hb d_Row_takeFirst_27 rfl (lv_at hl 0 rfl) ?_
    obtain ⟨hn, hf⟩ := zz_gd hf
    cases hf
    exact hend 28 ls _ _ (zz_nar_char hn) d_Row_takeFirst_28 hP hD hS
  · have hf := zz_ifn hc hf
    refine lv_aload_n hx hb d_Row_takeFirst_17 rfl (lv_at hl 1 rfl) ?_
    refine lv_dup hx hb d_Row_takeFirst_18 rfl ?_
    refine va_get (D := (dC, dI)) (ci := 4) (v := .int v_start) (C := R_Row) (T := T_Row) (N := 3) hx hb hw in_Row hown hK hP 0 rfl rfl 1 (by decide) (hw _ wd_38) (fun _ h9 => h9) rfl d_Row_takeFirst_19 ?_
    refine lv_iconst (v := 1) hx hb d_Row_takeFirst_22 (by decide) ?_
    refine lv_iadd hx hb d_Row_takeFirst_23 ?_
    refine va_put (D := (dC, dI)) (ci := 4) (v := .int (v_start + 1)) (ty := .int) (C := R_Row) (T := T_Row) (N := 3) hx hb hw in_Row ty_Row tyok_Row nm_Row hown hK hP hD hS 0 rfl rfl 1 (by decide) (hw _ wd_38) (fun _ h9 => h9) rfl (tyok_Row 1 (by decide)) rfl rfl (Nat.le_of_ble_eq_true rfl) d_Row_takeFirst_24 (fun H locs hP hD hS => ?_)
    have hP : va_P (dC, dI) vwCl [(h_v, .inr (4, [.ref h_v_letters, .int (v_start + 1), .int v_end])), (h_v_letters, .inl (cC, n_v_letters, .inl v_letters_a))] H := hP
    have hD : va_D A [(h_v, .inr (4, [.ref h_v_letters, .int (v_start + 1), .int v_end])), (h_v_letters, .inl (cC, n_v_letters, .inl v_letters_a))] := hD
    refine lv_iload_n hx hb d_Row_takeFirst_27 rfl (lv_at hl 0 rfl) ?_
    obtain ⟨hn, hf⟩ := zz_gd hf
    cases hf
    exact hend 28 ls _ _ (zz_nar_char hn) d_Row_takeFirst_28 hP hD hS
abbrev ws_Row_clear : List Cond := .code y_Row_clear prog_7_method_7_code 1 none :: zw
abbrev rm_Row_clear : Room := { frames := 0, cells := 0, slots := 0, locals := 0 }
theorem hd_Row_clear : y_Row_clear.cls = "RealText$Row" ∧ y_Row_clear.cls ≠ "java/lang/invoke/MethodHandle" ∧ y_Row_clear.cls ≠ "java/lang/invoke/VarHandle" ∧ (parseMethodDescriptor y_Row_clear.desc).map (fun d => d.parameters.length) = some 0 := by decide +kernel
theorem d_Row_clear_0 : decode prog_7_method_7_code 0 = .ok (.aload_n 0, 1) := by decide +kernel
theorem d_Row_clear_1 : decode prog_7_method_7_code 1 = .ok (.iconst 0, 1) := by decide +kernel
theorem d_Row_clear_2 : decode prog_7_method_7_code 2 = .ok (.putfield 17, 3) := by decide +kernel
theorem d_Row_clear_5 : decode prog_7_method_7_code 5 = .ok (.aload_n 0, 1) := by decide +kernel
theorem d_Row_clear_6 : decode prog_7_method_7_code 6 = .ok (.iconst 0, 1) := by decide +kernel
theorem d_Row_clear_7 : decode prog_7_method_7_code 7 = .ok (.putfield 13, 3) := by decide +kernel
theorem d_Row_clear_10 : decode prog_7_method_7_code 10 = .ok (.return_, 1) := by decide +kernel
def f_Row_clear (v_start : Int32) (v_end : Int32) : Option (Int32 × Int32) :=
  some (0, 0)
set_option maxHeartbeats 4000000 in
set_option maxRecDepth 100000 in
theorem c_Row_clear (l : Launch) (dC : Nat → ClassId) (dI : Nat → Nat → Nat) (cI cC cB cJ : ClassId) (sz : Nat) (h_v : Nat) (h_v_letters : Nat) (v_start : Int32) (v_end : Int32) (u : Int32 × Int32) (hf : f_Row_clear v_start v_end = some u) : Met l y_Row_clear ws_Row_clear rm_Row_clear (zz_P zz_T (dC, dI) vwCl (zz_tys cI cC cB cJ) [.ref h_v] [(h_v, .inr (4, [.ref h_v_letters, .int v_start, .int v_end]))] sz) (zz_Qv (dC, dI) vwCl [(h_v, .inr (4, [.ref h_v_letters, .int u.1, .int u.2]))] (va_A [(h_v, .inr (4, [.ref h_v_letters, .int v_start, .int v_end]))] sz)) 0 0 (va_A [(h_v, .inr (4, [.ref h_v_letters, .int v_start, .int v_end]))] sz) := by
  refine Met.ofW (cc := prog_7_method_7_code) (maxL := 1) (ret := none) (by decide) rfl ?_
  intro p e s m args below meth c s₁ B hml hv
  obtain ⟨rfl, hsz, hP, hK, hD0, hX⟩ := hv
  have hx := B.exec
  have hb := B.bytes
  have hr := B.returns
  have hts := atoms_spec (ws := ws_Row_clear) B.pre
  have hw : ∀ w ∈ zw, w.before [.ref h_v].toArray s = true := fun w h => hts w (List.mem_cons_of_mem _ h)
  have hown : s.vm.findClass R_Row = some m.cls := findClass_of_methodNamed B.named
  have hlocks := B.notSynchronized
  subst hsz
  have hD := hD0.self (sz := s.heap.size)
  generalize hAe : va_A [(h_v, .inr (4, [.ref h_v_letters, .int v_start, .int v_end]))] s.heap.size = A at hD hX ⊢
  have hA : ∀ q : Nat, s.heap.size ≤ q → A q := fun q h => by rw [← hAe]; exact Or.inr h
  have hS : va_S A s.heap s.heap [] := va_S.rf
  have hl := lv_entry [.ref h_v] (n := 1) (Nat.le_of_ble_eq_true rfl)
  rw [lg_entry_eq]
  generalize (lg_sl [.ref h_v] ++ List.replicate (1 - (lg_sl [.ref h_v]).length) Slot.unset).toArray = ls at hl ⊢
  have hl : lv_has ls 1 [(0, .ref h_v)] := hl
  refine zz_endv hx hb hr hlocks (fun Qq hend => ?_)
  unfold f_Row_clear at hf
  refine lv_aload_n hx hb d_Row_clear_0 rfl (lv_at hl 0 rfl) ?_
  refine lv_iconst (v := 0) hx hb d_Row_clear_1 (by decide) ?_
  refine va_put (D := (dC, dI)) (ci := 4) (v := .int 0) (ty := .int) (C := R_Row) (T := T_Row) (N := 3) hx hb hw in_Row ty_Row tyok_Row nm_Row hown hK hP hD hS 0 rfl rfl 1 (by decide) (hw _ wd_38) (fun _ h9 => h9) rfl (tyok_Row 1 (by decide)) rfl rfl (Nat.le_of_ble_eq_true rfl) d_Row_clear_2 (fun H locs hP hD hS => ?_)
  have hP : va_P (dC, dI) vwCl [(h_v, .inr (4, [.ref h_v_letters, .int 0, .int v_end]))] H := hP
  have hD : va_D A [(h_v, .inr (4, [.ref h_v_letters, .int 0, .int v_end]))] := hD
  refine lv_aload_n hx hb d_Row_clear_5 rfl (lv_at hl 0 rfl) ?_
  refine lv_iconst (v := 0) hx hb d_Row_clear_6 (by decide) ?_
  refine va_put (D := (dC, dI)) (ci := 4) (v := .int 0) (ty := .int) (C := R_Row) (T := T_Row) (N := 3) hx hb hw in_Row ty_Row tyok_Row nm_Row hown hK hP hD hS 0 rfl rfl 2 (by decide) (hw _ wd_39) (fun _ h9 => h9) rfl (tyok_Row 2 (by decide)) rfl rfl (Nat.le_of_ble_eq_true rfl) d_Row_clear_7 (fun H locs hP hD hS => ?_)
  have hP : va_P (dC, dI) vwCl [(h_v, .inr (4, [.ref h_v_letters, .int 0, .int 0]))] H := hP
  have hD : va_D A [(h_v, .inr (4, [.ref h_v_letters, .int 0, .int 0]))] := hD
  cases hf
  exact hend 10 ls _ _ d_Row_clear_10 hP hD hS
end
section
abbrev ws_Mat_max : List Cond := .code y_Mat_max prog_16_method_65_code 2 (some .int) :: zw
abbrev rm_Mat_max : Room := { frames := 0, cells := 0, slots := 0, locals := 0 }
theorem hd_Mat_max : y_Mat_max.cls ≠ "java/lang/invoke/MethodHandle" ∧ y_Mat_max.cls ≠ "java/lang/invoke/VarHandle" ∧ (parseMethodDescriptor y_Mat_max.desc).map (fun d => d.parameters.length) = some 2 := by decide +kernel
theorem d_Mat_max_0 : decode prog_16_method_65_code 0 = .ok (.iload_n 0, 1) := by decide +kernel
theorem d_Mat_max_1 : decode prog_16_method_65_code 1 = .ok (.iload_n 1, 1) := by decide +kernel
theorem d_Mat_max_2 : decode prog_16_method_65_code 2 = .ok (.if_icmp .lt 7, 3) := by decide +kernel
theorem d_Mat_max_5 : decode prog_16_method_65_code 5 = .ok (.iload_n 0, 1) := by decide +kernel
theorem d_Mat_max_6 : decode prog_16_method_65_code 6 = .ok (.goto 4, 3) := by decide +kernel
theorem d_Mat_max_9 : decode prog_16_method_65_code 9 = .ok (.iload_n 1, 1) := by decide +kernel
theorem d_Mat_max_10 : decode prog_16_method_65_code 10 = .ok (.ireturn, 1) := by decide +kernel
def f_Mat_max (x0 : Int32) (x1 : Int32) : Option (Int32) :=
  (if x0 < x1 then
  some (x1)
  else
  some (x0))
set_option maxHeartbeats 4000000 in
set_option maxRecDepth 100000 in
theorem c_Mat_max (l : Launch) (dC : Nat → ClassId) (dI : Nat → Nat → Nat) (cI cC cB cJ : ClassId) (sz : Nat) (x0 : Int32) (x1 : Int32) (u : Int32) (hf : f_Mat_max x0 x1 = some u) : Met l y_Mat_max ws_Mat_max rm_Mat_max (zz_P zz_T (dC, dI) vwCl (zz_tys cI cC cB cJ) [.int x0, .int x1] [] sz) (zz_Qi (dC, dI) vwCl u [] (va_A [] sz)) 0 0 (va_A [] sz) := by
  refine va_MetF (cc := prog_16_method_65_code) (maxL := 2) (ret := (some .int)) (by decide +kernel) rfl ?_
  intro p e s m args below meth c s₁ B hml hv
  obtain ⟨rfl, hsz, hP, hK, hD0, hX⟩ := hv
  have hx := B.exec
  have hb := B.bytes
  have hr := B.returns
  have hts := atoms_spec (ws := ws_Mat_max) B.pre
  have hw : ∀ w ∈ zw, w.before [.int x0, .int x1].toArray s = true := fun w h => hts w (List.mem_cons_of_mem _ h)
  have hown : s.vm.findClass R_Mat = some m.cls := findClass_of_methodNamed B.named
  have hlocks := B.notSynchronized
  subst hsz
  have hD := hD0.self (sz := s.heap.size)
  generalize hAe : va_A [] s.heap.size = A at hD hX ⊢
  have hA : ∀ q : Nat, s.heap.size ≤ q → A q := fun q h => by rw [← hAe]; exact Or.inr h
  have hS : va_S A s.heap s.heap [] := va_S.rf
  have hl := lv_entry [.int x0, .int x1] (n := 2) (Nat.le_of_ble_eq_true rfl)
  rw [lg_entry_eq]
  generalize (lg_sl [.int x0, .int x1] ++ List.replicate (2 - (lg_sl [.int x0, .int x1]).length) Slot.unset).toArray = ls at hl ⊢
  have hl : lv_has ls 2 [(0, .int x0), (1, .int x1)] := hl
  refine zz_endi hx hb hr hlocks (fun Qq hend => ?_)
  unfold f_Mat_max at hf
  refine lv_iload_n hx hb d_Mat_max_0 rfl (lv_at hl 0 rfl) ?_
  refine lv_iload_n hx hb d_Mat_max_1 rfl (lv_at hl 1 rfl) ?_
  refine lv_icmp_lt (tgt := 9) hx hb d_Mat_max_2 (by decide) (fun hc => ?_) (fun hc => ?_)
  · have hf := zz_ifp hc hf
    refine lv_iload_n hx hb d_Mat_max_9 rfl (lv_at hl 1 rfl) ?_
    cases hf
    exact hend 10 ls _ _ d_Mat_max_10 hP hD hS
  · have hf := zz_ifn hc hf
    refine lv_iload_n hx hb d_Mat_max_5 rfl (lv_at hl 0 rfl) ?_
    refine lv_goto (tgt := 10) hx hb d_Mat_max_6 (by decide) ?_
    cases hf
    exact hend 10 ls _ _ d_Mat_max_10 hP hD hS
abbrev ws_Mat_min : List Cond := .code y_Mat_min prog_16_method_69_code 2 (some .int) :: zw
abbrev rm_Mat_min : Room := { frames := 0, cells := 0, slots := 0, locals := 0 }
theorem hd_Mat_min : y_Mat_min.cls ≠ "java/lang/invoke/MethodHandle" ∧ y_Mat_min.cls ≠ "java/lang/invoke/VarHandle" ∧ (parseMethodDescriptor y_Mat_min.desc).map (fun d => d.parameters.length) = some 2 := by decide +kernel
theorem d_Mat_min_0 : decode prog_16_method_69_code 0 = .ok (.iload_n 0, 1) := by decide +kernel
theorem d_Mat_min_1 : decode prog_16_method_69_code 1 = .ok (.iload_n 1, 1) := by decide +kernel
theorem d_Mat_min_2 : decode prog_16_method_69_code 2 = .ok (.if_icmp .gt 7, 3) := by decide +kernel
theorem d_Mat_min_5 : decode prog_16_method_69_code 5 = .ok (.iload_n 0, 1) := by decide +kernel
theorem d_Mat_min_6 : decode prog_16_method_69_code 6 = .ok (.goto 4, 3) := by decide +kernel
theorem d_Mat_min_9 : decode prog_16_method_69_code 9 = .ok (.iload_n 1, 1) := by decide +kernel
theorem d_Mat_min_10 : decode prog_16_method_69_code 10 = .ok (.ireturn, 1) := by decide +kernel
def f_Mat_min (x0 : Int32) (x1 : Int32) : Option (Int32) :=
  (if x1 < x0 then
  some (x1)
  else
  some (x0))
set_option maxHeartbeats 4000000 in
set_option maxRecDepth 100000 in
theorem c_Mat_min (l : Launch) (dC : Nat → ClassId) (dI : Nat → Nat → Nat) (cI cC cB cJ : ClassId) (sz : Nat) (x0 : Int32) (x1 : Int32) (u : Int32) (hf : f_Mat_min x0 x1 = some u) : Met l y_Mat_min ws_Mat_min rm_Mat_min (zz_P zz_T (dC, dI) vwCl (zz_tys cI cC cB cJ) [.int x0, .int x1] [] sz) (zz_Qi (dC, dI) vwCl u [] (va_A [] sz)) 0 0 (va_A [] sz) := by
  refine va_MetF (cc := prog_16_method_69_code) (maxL := 2) (ret := (some .int)) (by decide +kernel) rfl ?_
  intro p e s m args below meth c s₁ B hml hv
  obtain ⟨rfl, hsz, hP, hK, hD0, hX⟩ := hv
  have hx := B.exec
  have hb := B.bytes
  have hr := B.returns
  have hts := atoms_spec (ws := ws_Mat_min) B.pre
  have hw : ∀ w ∈ zw, w.before [.int x0, .int x1].toArray s = true := fun w h => hts w (List.mem_cons_of_mem _ h)
  have hown : s.vm.findClass R_Mat = some m.cls := findClass_of_methodNamed B.named
  have hlocks := B.notSynchronized
  subst hsz
  have hD := hD0.self (sz := s.heap.size)
  generalize hAe : va_A [] s.heap.size = A at hD hX ⊢
  have hA : ∀ q : Nat, s.heap.size ≤ q → A q := fun q h => by rw [← hAe]; exact Or.inr h
  have hS : va_S A s.heap s.heap [] := va_S.rf
  have hl := lv_entry [.int x0, .int x1] (n := 2) (Nat.le_of_ble_eq_true rfl)
  rw [lg_entry_eq]
  generalize (lg_sl [.int x0, .int x1] ++ List.replicate (2 - (lg_sl [.int x0, .int x1]).length) Slot.unset).toArray = ls at hl ⊢
  have hl : lv_has ls 2 [(0, .int x0), (1, .int x1)] := hl
  refine zz_endi hx hb hr hlocks (fun Qq hend => ?_)
  unfold f_Mat_min at hf
  refine lv_iload_n hx hb d_Mat_min_0 rfl (lv_at hl 0 rfl) ?_
  refine lv_iload_n hx hb d_Mat_min_1 rfl (lv_at hl 1 rfl) ?_
  refine lv_icmp_gt (tgt := 9) hx hb d_Mat_min_2 (by decide) (fun hc => ?_) (fun hc => ?_)
  · have hf := zz_ifp hc hf
    refine lv_iload_n hx hb d_Mat_min_9 rfl (lv_at hl 1 rfl) ?_
    cases hf
    exact hend 10 ls _ _ d_Mat_min_10 hP hD hS
  · have hf := zz_ifn hc hf
    refine lv_iload_n hx hb d_Mat_min_5 rfl (lv_at hl 0 rfl) ?_
    refine lv_goto (tgt := 10) hx hb d_Mat_min_6 (by decide) ?_
    cases hf
    exact hend 10 ls _ _ d_Mat_min_10 hP hD hS
abbrev ws_Mat_abs : List Cond := .code y_Mat_abs prog_16_method_59_code 1 (some .int) :: zw
abbrev rm_Mat_abs : Room := { frames := 0, cells := 0, slots := 0, locals := 0 }
theorem hd_Mat_abs : y_Mat_abs.cls ≠ "java/lang/invoke/MethodHandle" ∧ y_Mat_abs.cls ≠ "java/lang/invoke/VarHandle" ∧ (parseMethodDescriptor y_Mat_abs.desc).map (fun d => d.parameters.length) = some 1 := by decide +kernel
theorem d_Mat_abs_0 : decode prog_16_method_59_code 0 = .ok (.iload_n 0, 1) := by decide +kernel
theorem d_Mat_abs_1 : decode prog_16_method_59_code 1 = .ok (.ifCond .ge 8, 3) := by decide +kernel
theorem d_Mat_abs_4 : decode prog_16_method_59_code 4 = .ok (.iload_n 0, 1) := by decide +kernel
theorem d_Mat_abs_5 : decode prog_16_method_59_code 5 = .ok (.ineg, 1) := by decide +kernel
theorem d_Mat_abs_6 : decode prog_16_method_59_code 6 = .ok (.goto 4, 3) := by decide +kernel
theorem d_Mat_abs_9 : decode prog_16_method_59_code 9 = .ok (.iload_n 0, 1) := by decide +kernel
theorem d_Mat_abs_10 : decode prog_16_method_59_code 10 = .ok (.ireturn, 1) := by decide +kernel
def f_Mat_abs (x0 : Int32) : Option (Int32) :=
  (if 0 ≤ x0 then
  some (x0)
  else
  some (-x0))
set_option maxHeartbeats 4000000 in
set_option maxRecDepth 100000 in
theorem c_Mat_abs (l : Launch) (dC : Nat → ClassId) (dI : Nat → Nat → Nat) (cI cC cB cJ : ClassId) (sz : Nat) (x0 : Int32) (u : Int32) (hf : f_Mat_abs x0 = some u) : Met l y_Mat_abs ws_Mat_abs rm_Mat_abs (zz_P zz_T (dC, dI) vwCl (zz_tys cI cC cB cJ) [.int x0] [] sz) (zz_Qi (dC, dI) vwCl u [] (va_A [] sz)) 0 0 (va_A [] sz) := by
  refine va_MetF (cc := prog_16_method_59_code) (maxL := 1) (ret := (some .int)) (by decide +kernel) rfl ?_
  intro p e s m args below meth c s₁ B hml hv
  obtain ⟨rfl, hsz, hP, hK, hD0, hX⟩ := hv
  have hx := B.exec
  have hb := B.bytes
  have hr := B.returns
  have hts := atoms_spec (ws := ws_Mat_abs) B.pre
  have hw : ∀ w ∈ zw, w.before [.int x0].toArray s = true := fun w h => hts w (List.mem_cons_of_mem _ h)
  have hown : s.vm.findClass R_Mat = some m.cls := findClass_of_methodNamed B.named
  have hlocks := B.notSynchronized
  subst hsz
  have hD := hD0.self (sz := s.heap.size)
  generalize hAe : va_A [] s.heap.size = A at hD hX ⊢
  have hA : ∀ q : Nat, s.heap.size ≤ q → A q := fun q h => by rw [← hAe]; exact Or.inr h
  have hS : va_S A s.heap s.heap [] := va_S.rf
  have hl := lv_entry [.int x0] (n := 1) (Nat.le_of_ble_eq_true rfl)
  rw [lg_entry_eq]
  generalize (lg_sl [.int x0] ++ List.replicate (1 - (lg_sl [.int x0]).length) Slot.unset).toArray = ls at hl ⊢
  have hl : lv_has ls 1 [(0, .int x0)] := hl
  refine zz_endi hx hb hr hlocks (fun Qq hend => ?_)
  unfold f_Mat_abs at hf
  refine lv_iload_n hx hb d_Mat_abs_0 rfl (lv_at hl 0 rfl) ?_
  refine lv_if_ge (tgt := 9) hx hb d_Mat_abs_1 (by decide) (fun hc => ?_) (fun hc => ?_)
  · have hf := zz_ifp hc hf
    refine lv_iload_n hx hb d_Mat_abs_9 rfl (lv_at hl 0 rfl) ?_
    cases hf
    exact hend 10 ls _ _ d_Mat_abs_10 hP hD hS
  · have hf := zz_ifn hc hf
    refine lv_iload_n hx hb d_Mat_abs_4 rfl (lv_at hl 0 rfl) ?_
    refine lv_ineg hx hb d_Mat_abs_5 ?_
    refine lv_goto (tgt := 10) hx hb d_Mat_abs_6 (by decide) ?_
    cases hf
    exact hend 10 ls _ _ d_Mat_abs_10 hP hD hS
abbrev ws_Mat_floorDiv : List Cond := .code y_Mat_floorDiv prog_16_method_47_code 3 (some .int) :: zw
abbrev rm_Mat_floorDiv : Room := { frames := 0, cells := 0, slots := 0, locals := 0 }
theorem hd_Mat_floorDiv : y_Mat_floorDiv.cls ≠ "java/lang/invoke/MethodHandle" ∧ y_Mat_floorDiv.cls ≠ "java/lang/invoke/VarHandle" ∧ (parseMethodDescriptor y_Mat_floorDiv.desc).map (fun d => d.parameters.length) = some 2 := by decide +kernel
theorem d_Mat_floorDiv_0 : decode prog_16_method_47_code 0 = .ok (.iload_n 0, 1) := by decide +kernel
theorem d_Mat_floorDiv_1 : decode prog_16_method_47_code 1 = .ok (.iload_n 1, 1) := by decide +kernel
theorem d_Mat_floorDiv_2 : decode prog_16_method_47_code 2 = .ok (.idiv, 1) := by decide +kernel
theorem d_Mat_floorDiv_3 : decode prog_16_method_47_code 3 = .ok (.istore_n 2, 1) := by decide +kernel
theorem d_Mat_floorDiv_4 : decode prog_16_method_47_code 4 = .ok (.iload_n 0, 1) := by decide +kernel
theorem d_Mat_floorDiv_5 : decode prog_16_method_47_code 5 = .ok (.iload_n 1, 1) := by decide +kernel
theorem d_Mat_floorDiv_6 : decode prog_16_method_47_code 6 = .ok (.ixor, 1) := by decide +kernel
theorem d_Mat_floorDiv_7 : decode prog_16_method_47_code 7 = .ok (.ifCond .ge 14, 3) := by decide +kernel
theorem d_Mat_floorDiv_10 : decode prog_16_method_47_code 10 = .ok (.iload_n 2, 1) := by decide +kernel
theorem d_Mat_floorDiv_11 : decode prog_16_method_47_code 11 = .ok (.iload_n 1, 1) := by decide +kernel
theorem d_Mat_floorDiv_12 : decode prog_16_method_47_code 12 = .ok (.imul, 1) := by decide +kernel
theorem d_Mat_floorDiv_13 : decode prog_16_method_47_code 13 = .ok (.iload_n 0, 1) := by decide +kernel
theorem d_Mat_floorDiv_14 : decode prog_16_method_47_code 14 = .ok (.if_icmp .eq 7, 3) := by decide +kernel
theorem d_Mat_floorDiv_17 : decode prog_16_method_47_code 17 = .ok (.iload_n 2, 1) := by decide +kernel
theorem d_Mat_floorDiv_18 : decode prog_16_method_47_code 18 = .ok (.iconst 1, 1) := by decide +kernel
theorem d_Mat_floorDiv_19 : decode prog_16_method_47_code 19 = .ok (.isub, 1) := by decide +kernel
theorem d_Mat_floorDiv_20 : decode prog_16_method_47_code 20 = .ok (.ireturn, 1) := by decide +kernel
theorem d_Mat_floorDiv_21 : decode prog_16_method_47_code 21 = .ok (.iload_n 2, 1) := by decide +kernel
theorem d_Mat_floorDiv_22 : decode prog_16_method_47_code 22 = .ok (.ireturn, 1) := by decide +kernel
def f_Mat_floorDiv (x0 : Int32) (x1 : Int32) : Option (Int32) :=
  if ¬ x1 = 0 then
  zz_lt (x0 / x1) fun x2_2 =>
  (if 0 ≤ (x0 ^^^ x1) then
  some (x2_2)
  else
  (if (x2_2 * x1) = x0 then
  some (x2_2)
  else
  some (x2_2 - 1)))
  else none
set_option maxHeartbeats 4000000 in
set_option maxRecDepth 100000 in
theorem c_Mat_floorDiv (l : Launch) (dC : Nat → ClassId) (dI : Nat → Nat → Nat) (cI cC cB cJ : ClassId) (sz : Nat) (x0 : Int32) (x1 : Int32) (u : Int32) (hf : f_Mat_floorDiv x0 x1 = some u) : Met l y_Mat_floorDiv ws_Mat_floorDiv rm_Mat_floorDiv (zz_P zz_T (dC, dI) vwCl (zz_tys cI cC cB cJ) [.int x0, .int x1] [] sz) (zz_Qi (dC, dI) vwCl u [] (va_A [] sz)) 0 0 (va_A [] sz) := by
  refine va_MetF (cc := prog_16_method_47_code) (maxL := 3) (ret := (some .int)) (by decide +kernel) rfl ?_
  intro p e s m args below meth c s₁ B hml hv
  obtain ⟨rfl, hsz, hP, hK, hD0, hX⟩ := hv
  have hx := B.exec
  have hb := B.bytes
  have hr := B.returns
  have hts := atoms_spec (ws := ws_Mat_floorDiv) B.pre
  have hw : ∀ w ∈ zw, w.before [.int x0, .int x1].toArray s = true := fun w h => hts w (List.mem_cons_of_mem _ h)
  have hown : s.vm.findClass R_Mat = some m.cls := findClass_of_methodNamed B.named
  have hlocks := B.notSynchronized
  subst hsz
  have hD := hD0.self (sz := s.heap.size)
  generalize hAe : va_A [] s.heap.size = A at hD hX ⊢
  have hA : ∀ q : Nat, s.heap.size ≤ q → A q := fun q h => by rw [← hAe]; exact Or.inr h
  have hS : va_S A s.heap s.heap [] := va_S.rf
  have hl := lv_entry [.int x0, .int x1] (n := 3) (Nat.le_of_ble_eq_true rfl)
  rw [lg_entry_eq]
  generalize (lg_sl [.int x0, .int x1] ++ List.replicate (3 - (lg_sl [.int x0, .int x1]).length) Slot.unset).toArray = ls at hl ⊢
  have hl : lv_has ls 3 [(0, .int x0), (1, .int x1)] := hl
  refine zz_endi hx hb hr hlocks (fun Qq hend => ?_)
  unfold f_Mat_floorDiv at hf
  refine lv_iload_n hx hb d_Mat_floorDiv_0 rfl (lv_at hl 0 rfl) ?_
  refine lv_iload_n hx hb d_Mat_floorDiv_1 rfl (lv_at hl 1 rfl) ?_
  obtain ⟨hz_1, hf⟩ := zz_gd hf
  refine lv_idiv hx hb d_Mat_floorDiv_2 hz_1 ?_
  refine lv_topi (fun x2_2 e_x2_2 => ?_)
  have hf := zz_ltp hf x2_2 e_x2_2
  refine lv_istore_n hx hb d_Mat_floorDiv_3 rfl hl (by decide) rfl (fun ls hl => ?_)
  have hl : lv_has ls 3 [(2, .int x2_2), (0, .int x0), (1, .int x1)] := hl
  refine lv_iload_n hx hb d_Mat_floorDiv_4 rfl (lv_at hl 1 rfl) ?_
  refine lv_iload_n hx hb d_Mat_floorDiv_5 rfl (lv_at hl 2 rfl) ?_
  refine lv_ixor hx hb d_Mat_floorDiv_6 ?_
  refine lv_if_ge (tgt := 21) hx hb d_Mat_floorDiv_7 (by decide) (fun hc => ?_) (fun hc => ?_)
  · have hf := zz_ifp hc hf
    refine lv_iload_n hx hb d_Mat_floorDiv_21 rfl (lv_at hl 0 rfl) ?_
    cases hf
    exact hend 22 ls _ _ d_Mat_floorDiv_22 hP hD hS
  · have hf := zz_ifn hc hf
    refine lv_iload_n hx hb d_Mat_floorDiv_10 rfl (lv_at hl 0 rfl) ?_
    refine lv_iload_n hx hb d_Mat_floorDiv_11 rfl (lv_at hl 2 rfl) ?_
    refine lv_imul hx hb d_Mat_floorDiv_12 ?_
    refine lv_iload_n hx hb d_Mat_floorDiv_13 rfl (lv_at hl 1 rfl) ?_
    refine lv_icmp_eq (tgt := 21) hx hb d_Mat_floorDiv_14 (by decide) (fun hc => ?_) (fun hc => ?_)
    · have hf := zz_ifp hc hf
      refine lv_iload_n hx hb d_Mat_floorDiv_21 rfl (lv_at hl 0 rfl) ?_
      cases hf
      exact hend 22 ls _ _ d_Mat_floorDiv_22 hP hD hS
    · have hf := zz_ifn hc hf
      refine lv_iload_n hx hb d_Mat_floorDiv_17 rfl (lv_at hl 0 rfl) ?_
      refine lv_iconst (v := 1) hx hb d_Mat_floorDiv_18 (by decide) ?_
      refine lv_isub hx hb d_Mat_floorDiv_19 ?_
      cases hf
      exact hend 20 ls _ _ d_Mat_floorDiv_20 hP hD hS
end
section
abbrev ws_Big_limbAt : List Cond := .code y_Big_limbAt prog_2_method_13_code 2 (some .long) :: zw
abbrev rm_Big_limbAt : Room := { frames := 0, cells := 0, slots := 0, locals := 0 }
theorem hd_Big_limbAt : y_Big_limbAt.cls = "RealText$Big" ∧ y_Big_limbAt.cls ≠ "java/lang/invoke/MethodHandle" ∧ y_Big_limbAt.cls ≠ "java/lang/invoke/VarHandle" ∧ (parseMethodDescriptor y_Big_limbAt.desc).map (fun d => d.parameters.length) = some 1 := by decide +kernel
theorem d_Big_limbAt_0 : decode prog_2_method_13_code 0 = .ok (.iload_n 1, 1) := by decide +kernel
theorem d_Big_limbAt_1 : decode prog_2_method_13_code 1 = .ok (.ifCond .lt 25, 3) := by decide +kernel
theorem d_Big_limbAt_4 : decode prog_2_method_13_code 4 = .ok (.iload_n 1, 1) := by decide +kernel
theorem d_Big_limbAt_5 : decode prog_2_method_13_code 5 = .ok (.aload_n 0, 1) := by decide +kernel
theorem d_Big_limbAt_6 : decode prog_2_method_13_code 6 = .ok (.getfield 13, 3) := by decide +kernel
theorem d_Big_limbAt_9 : decode prog_2_method_13_code 9 = .ok (.if_icmp .ge 17, 3) := by decide +kernel
theorem d_Big_limbAt_12 : decode prog_2_method_13_code 12 = .ok (.aload_n 0, 1) := by decide +kernel
theorem d_Big_limbAt_13 : decode prog_2_method_13_code 13 = .ok (.getfield 7, 3) := by decide +kernel
theorem d_Big_limbAt_16 : decode prog_2_method_13_code 16 = .ok (.iload_n 1, 1) := by decide +kernel
theorem d_Big_limbAt_17 : decode prog_2_method_13_code 17 = .ok (.iaload, 1) := by decide +kernel
theorem d_Big_limbAt_18 : decode prog_2_method_13_code 18 = .ok (.i2l, 1) := by decide +kernel
theorem d_Big_limbAt_19 : decode prog_2_method_13_code 19 = .ok (.ldc2_w 17, 3) := by decide +kernel
theorem d_Big_limbAt_22 : decode prog_2_method_13_code 22 = .ok (.land, 1) := by decide +kernel
theorem d_Big_limbAt_23 : decode prog_2_method_13_code 23 = .ok (.goto 4, 3) := by decide +kernel
theorem d_Big_limbAt_26 : decode prog_2_method_13_code 26 = .ok (.lconst 0, 1) := by decide +kernel
theorem d_Big_limbAt_27 : decode prog_2_method_13_code 27 = .ok (.lreturn, 1) := by decide +kernel
def f_Big_limbAt (n_v_limbs : Nat) (x1 : Int32) (v_size : Int32) (v_limbs_a : Nat → Int32) : Option (Int64) :=
  (if x1 < 0 then
  some (0)
  else
  (if v_size ≤ x1 then
  some (0)
  else
  if zz_in x1 n_v_limbs = true then
  some (((v_limbs_a x1.toNatClampNeg).toInt64) &&& 4294967295)
  else none))
set_option maxHeartbeats 4000000 in
set_option maxRecDepth 100000 in
theorem c_Big_limbAt (l : Launch) (dC : Nat → ClassId) (dI : Nat → Nat → Nat) (cI cC cB cJ : ClassId) (sz : Nat) (h_v : Nat) (h_v_limbs : Nat) (n_v_limbs : Nat) (x1 : Int32) (v_size : Int32) (v_limbs_a : Nat → Int32) (u : Int64) (hf : f_Big_limbAt n_v_limbs x1 v_size v_limbs_a = some u) : Met l y_Big_limbAt ws_Big_limbAt rm_Big_limbAt (zz_P zz_T (dC, dI) vwCl (zz_tys cI cC cB cJ) [.ref h_v, .int x1] [(h_v, .inr (0, [.ref h_v_limbs, .int v_size])), (h_v_limbs, .inl (cI, n_v_limbs, .inl v_limbs_a))] sz) (zz_Ql (dC, dI) vwCl u [(h_v, .inr (0, [.ref h_v_limbs, .int v_size])), (h_v_limbs, .inl (cI, n_v_limbs, .inl v_limbs_a))] (va_A [(h_v, .inr (0, [.ref h_v_limbs, .int v_size])), (h_v_limbs, .inl (cI, n_v_limbs, .inl v_limbs_a))] sz)) 0 0 (va_A [(h_v, .inr (0, [.ref h_v_limbs, .int v_size])), (h_v_limbs, .inl (cI, n_v_limbs, .inl v_limbs_a))] sz) := by
  refine Met.ofW (cc := prog_2_method_13_code) (maxL := 2) (ret := (some .long)) (by decide +kernel) rfl ?_
  intro p e s m args below meth c s₁ B hml hv
  obtain ⟨rfl, hsz, hP, hK, hD0, hX⟩ := hv
  have hx := B.exec
  have hb := B.bytes
  have hr := B.returns
  have hts := atoms_spec (ws := ws_Big_limbAt) B.pre
  have hw : ∀ w ∈ zw, w.before [.ref h_v, .int x1].toArray s = true := fun w h => hts w (List.mem_cons_of_mem _ h)
  have hown : s.vm.findClass R_Big = some m.cls := findClass_of_methodNamed B.named
  have hlocks := B.notSynchronized
  subst hsz
  have hD := hD0.self (sz := s.heap.size)
  generalize hAe : va_A [(h_v, .inr (0, [.ref h_v_limbs, .int v_size])), (h_v_limbs, .inl (cI, n_v_limbs, .inl v_limbs_a))] s.heap.size = A at hD hX ⊢
  have hA : ∀ q : Nat, s.heap.size ≤ q → A q := fun q h => by rw [← hAe]; exact Or.inr h
  have hS : va_S A s.heap s.heap [] := va_S.rf
  have hl := lv_entry [.ref h_v, .int x1] (n := 2) (Nat.le_of_ble_eq_true rfl)
  rw [lg_entry_eq]
  generalize (lg_sl [.ref h_v, .int x1] ++ List.replicate (2 - (lg_sl [.ref h_v, .int x1]).length) Slot.unset).toArray = ls at hl ⊢
  have hl : lv_has ls 2 [(0, .ref h_v), (1, .int x1)] := hl
  refine zz_endl hx hb hr hlocks (fun Qq hend => ?_)
  unfold f_Big_limbAt at hf
  refine lv_iload_n hx hb d_Big_limbAt_0 rfl (lv_at hl 1 rfl) ?_
  refine lv_if_lt (tgt := 26) hx hb d_Big_limbAt_1 (by decide) (fun hc => ?_) (fun hc => ?_)
  · have hf := zz_ifp hc hf
    refine lv_lconst (v := 0) hx hb d_Big_limbAt_26 (by decide) ?_
    cases hf
    exact hend 27 ls _ _ d_Big_limbAt_27 hP hD hS
  · have hf := zz_ifn hc hf
    refine lv_iload_n hx hb d_Big_limbAt_4 rfl (lv_at hl 1 rfl) ?_
    refine lv_aload_n hx hb d_Big_limbAt_5 rfl (lv_at hl 0 rfl) ?_
    refine va_get (D := (dC, dI)) (ci := 0) (v := .int v_size) (C := R_Big) (T := T_Big) (N := 2) hx hb hw in_Big hown hK hP 0 rfl rfl 1 (by decide) (hw _ wd_91) (fun _ h9 => h9) rfl d_Big_limbAt_6 ?_
    refine lv_icmp_ge (tgt := 26) hx hb d_Big_limbAt_9 (by decide) (fun hc => ?_) (fun hc => ?_)
    · have hf := zz_ifp hc hf
      refine lv_lconst (v := 0) hx hb d_Big_limbAt_26 (by decide) ?_
      cases hf
      exact hend 27 ls _ _ d_Big_limbAt_27 hP hD hS
    · have hf := zz_ifn hc hf
      refine lv_aload_n hx hb d_Big_limbAt_12 rfl (lv_at hl 0 rfl) ?_
      refine va_get (D := (dC, dI)) (ci := 0) (v := .ref h_v_limbs) (C := R_Big) (T := T_Big) (N := 2) hx hb hw in_Big hown hK hP 0 rfl rfl 0 (by decide) (hw _ wd_90) (fun _ h9 => h9) rfl d_Big_limbAt_13 ?_
      refine lv_iload_n hx hb d_Big_limbAt_16 rfl (lv_at hl 1 rfl) ?_
      obtain ⟨hb_1, hf⟩ := zz_gd hf
      refine va_iald hx hb hK hP 1 0 rfl rfl (zz_vp hb_1) d_Big_limbAt_17 ?_
      refine lv_i2l hx hb d_Big_limbAt_18 rfl ?_
      refine lv_ldc2 (v := 4294967295) hx hb hown (hw _ wd_326) d_Big_limbAt_19 ?_
      refine lv_land hx hb d_Big_limbAt_22 ?_
      refine lv_goto (tgt := 27) hx hb d_Big_limbAt_23 (by decide) ?_
      cases hf
      exact hend 27 ls _ _ d_Big_limbAt_27 hP hD hS
abbrev ws_Big_addLimb : List Cond := .code y_Big_addLimb prog_2_method_15_code 3 none :: zw
abbrev rm_Big_addLimb : Room := { frames := 0, cells := 0, slots := 0, locals := 0 }
theorem hd_Big_addLimb : y_Big_addLimb.cls = "RealText$Big" ∧ y_Big_addLimb.cls ≠ "java/lang/invoke/MethodHandle" ∧ y_Big_addLimb.cls ≠ "java/lang/invoke/VarHandle" ∧ (parseMethodDescriptor y_Big_addLimb.desc).map (fun d => d.parameters.length) = some 1 := by decide +kernel
theorem d_Big_addLimb_0 : decode prog_2_method_15_code 0 = .ok (.aload_n 0, 1) := by decide +kernel
theorem d_Big_addLimb_1 : decode prog_2_method_15_code 1 = .ok (.getfield 13, 3) := by decide +kernel
theorem d_Big_addLimb_4 : decode prog_2_method_15_code 4 = .ok (.aload_n 0, 1) := by decide +kernel
theorem d_Big_addLimb_5 : decode prog_2_method_15_code 5 = .ok (.getfield 7, 3) := by decide +kernel
theorem d_Big_addLimb_8 : decode prog_2_method_15_code 8 = .ok (.arraylength, 1) := by decide +kernel
theorem d_Big_addLimb_9 : decode prog_2_method_15_code 9 = .ok (.if_icmp .ge 24, 3) := by decide +kernel
theorem d_Big_addLimb_12 : decode prog_2_method_15_code 12 = .ok (.aload_n 0, 1) := by decide +kernel
theorem d_Big_addLimb_13 : decode prog_2_method_15_code 13 = .ok (.getfield 7, 3) := by decide +kernel
theorem d_Big_addLimb_16 : decode prog_2_method_15_code 16 = .ok (.aload_n 0, 1) := by decide +kernel
theorem d_Big_addLimb_17 : decode prog_2_method_15_code 17 = .ok (.getfield 13, 3) := by decide +kernel
theorem d_Big_addLimb_20 : decode prog_2_method_15_code 20 = .ok (.lload_n 1, 1) := by decide +kernel
theorem d_Big_addLimb_21 : decode prog_2_method_15_code 21 = .ok (.l2i, 1) := by decide +kernel
theorem d_Big_addLimb_22 : decode prog_2_method_15_code 22 = .ok (.iastore, 1) := by decide +kernel
theorem d_Big_addLimb_23 : decode prog_2_method_15_code 23 = .ok (.aload_n 0, 1) := by decide +kernel
theorem d_Big_addLimb_24 : decode prog_2_method_15_code 24 = .ok (.dup, 1) := by decide +kernel
theorem d_Big_addLimb_25 : decode prog_2_method_15_code 25 = .ok (.getfield 13, 3) := by decide +kernel
theorem d_Big_addLimb_28 : decode prog_2_method_15_code 28 = .ok (.iconst 1, 1) := by decide +kernel
theorem d_Big_addLimb_29 : decode prog_2_method_15_code 29 = .ok (.iadd, 1) := by decide +kernel
theorem d_Big_addLimb_30 : decode prog_2_method_15_code 30 = .ok (.putfield 13, 3) := by decide +kernel
theorem d_Big_addLimb_33 : decode prog_2_method_15_code 33 = .ok (.return_, 1) := by decide +kernel
def f_Big_addLimb (n_v_limbs : Nat) (x1 : Int64) (v_size : Int32) (v_limbs_a : Nat → Int32) : Option (Int32 × (Nat → Int32)) :=
  (if (nI n_v_limbs) ≤ v_size then
  some (v_size, v_limbs_a)
  else
  if zz_in v_size n_v_limbs = true then
  some (v_size + 1, upd v_limbs_a v_size.toNatClampNeg x1.toInt32)
  else none)
set_option maxHeartbeats 4000000 in
set_option maxRecDepth 100000 in
theorem c_Big_addLimb (l : Launch) (dC : Nat → ClassId) (dI : Nat → Nat → Nat) (cI cC cB cJ : ClassId) (sz : Nat) (h_v : Nat) (h_v_limbs : Nat) (n_v_limbs : Nat) (x1 : Int64) (v_size : Int32) (v_limbs_a : Nat → Int32) (u : Int32 × (Nat → Int32)) (hf : f_Big_addLimb n_v_limbs x1 v_size v_limbs_a = some u) : Met l y_Big_addLimb ws_Big_addLimb rm_Big_addLimb (zz_P zz_T (dC, dI) vwCl (zz_tys cI cC cB cJ) [.ref h_v, .long x1] [(h_v, .inr (0, [.ref h_v_limbs, .int v_size])), (h_v_limbs, .inl (cI, n_v_limbs, .inl v_limbs_a))] sz) (zz_Qv (dC, dI) vwCl [(h_v, .inr (0, [.ref h_v_limbs, .int u.1])), (h_v_limbs, .inl (cI, n_v_limbs, .inl u.2))] (va_A [(h_v, .inr (0, [.ref h_v_limbs, .int v_size])), (h_v_limbs, .inl (cI, n_v_limbs, .inl v_limbs_a))] sz)) 0 0 (va_A [(h_v, .inr (0, [.ref h_v_limbs, .int v_size])), (h_v_limbs, .inl (cI, n_v_limbs, .inl v_limbs_a))] sz) := by
  refine Met.ofW (cc := prog_2_method_15_code) (maxL := 3) (ret := none) (by decide +kernel) rfl ?_
  intro p e s m args below meth c s₁ B hml hv
  obtain ⟨rfl, hsz, hP, hK, hD0, hX⟩ := hv
  have hx := B.exec
  have hb := B.bytes
  have hr := B.returns
  have hts := atoms_spec (ws := ws_Big_addLimb) B.pre
  have hw : ∀ w ∈ zw, w.before [.ref h_v, .long x1].toArray s = true := fun w h => hts w (List.mem_cons_of_mem _ h)
  have hown : s.vm.findClass R_Big = some m.cls := findClass_of_methodNamed B.named
  have hlocks := B.notSynchronized
  subst hsz
  have hD := hD0.self (sz := s.heap.size)
  generalize hAe : va_A [(h_v, .inr (0, [.ref h_v_limbs, .int v_size])), (h_v_limbs, .inl (cI, n_v_limbs, .inl v_limbs_a))] s.heap.size = A at hD hX ⊢
  have hA : ∀ q : Nat, s.heap.size ≤ q → A q := fun q h => by rw [← hAe]; exact Or.inr h
  have hS : va_S A s.heap s.heap [] := va_S.rf
  have hl := lv_entry [.ref h_v, .long x1] (n := 3) (Nat.le_of_ble_eq_true rfl)
  rw [lg_entry_eq]
  generalize (lg_sl [.ref h_v, .long x1] ++ List.replicate (3 - (lg_sl [.ref h_v, .long x1]).length) Slot.unset).toArray = ls at hl ⊢
  have hl : lv_has ls 3 [(0, .ref h_v), (1, .long x1)] := hl
  refine zz_endv hx hb hr hlocks (fun Qq hend => ?_)
  unfold f_Big_addLimb at hf
  refine lv_aload_n hx hb d_Big_addLimb_0 rfl (lv_at hl 0 rfl) ?_
  refine va_get (D := (dC, dI)) (ci := 0) (v := .int v_size) (C := R_Big) (T := T_Big) (N := 2) hx hb hw in_Big hown hK hP 0 rfl rfl 1 (by decide) (hw _ wd_91) (fun _ h9 => h9) rfl d_Big_addLimb_1 ?_
  refine lv_aload_n hx hb d_Big_addLimb_4 rfl (lv_at hl 0 rfl) ?_
  refine va_get (D := (dC, dI)) (ci := 0) (v := .ref h_v_limbs) (C := R_Big) (T := T_Big) (N := 2) hx hb hw in_Big hown hK hP 0 rfl rfl 0 (by decide) (hw _ wd_90) (fun _ h9 => h9) rfl d_Big_addLimb_5 ?_
  refine va_alen (v := nI n_v_limbs) hx hb hK hP 1 0 rfl rfl rfl d_Big_addLimb_8 ?_
  refine lv_icmp_ge (tgt := 33) hx hb d_Big_addLimb_9 (by decide) (fun hc => ?_) (fun hc => ?_)
  · have hf := zz_ifp hc hf
    cases hf
    exact hend 33 ls _ _ d_Big_addLimb_33 hP hD hS
  · have hf := zz_ifn hc hf
    refine lv_aload_n hx hb d_Big_addLimb_12 rfl (lv_at hl 0 rfl) ?_
    refine va_get (D := (dC, dI)) (ci := 0) (v := .ref h_v_limbs) (C := R_Big) (T := T_Big) (N := 2) hx hb hw in_Big hown hK hP 0 rfl rfl 0 (by decide) (hw _ wd_90) (fun _ h9 => h9) rfl d_Big_addLimb_13 ?_
    refine lv_aload_n hx hb d_Big_addLimb_16 rfl (lv_at hl 0 rfl) ?_
    refine va_get (D := (dC, dI)) (ci := 0) (v := .int v_size) (C := R_Big) (T := T_Big) (N := 2) hx hb hw in_Big hown hK hP 0 rfl rfl 1 (by decide) (hw _ wd_91) (fun _ h9 => h9) rfl d_Big_addLimb_17 ?_
    refine lv_lload_n hx hb d_Big_addLimb_20 rfl (lv_at hl 1 rfl) ?_
    refine lv_l2i hx hb d_Big_addLimb_21 rfl ?_
    obtain ⟨hb_1, hf⟩ := zz_gd hf
    refine va_iast hx hb hK hP hD hS 1 0 rfl rfl (zz_vp hb_1) d_Big_addLimb_22 (fun H locs hP hD hS => ?_)
    have hP : va_P (dC, dI) vwCl [(h_v, .inr (0, [.ref h_v_limbs, .int v_size])), (h_v_limbs, .inl (cI, n_v_limbs, .inl (upd v_limbs_a v_size.toNatClampNeg x1.toInt32)))] H := hP
    have hD : va_D A [(h_v, .inr (0, [.ref h_v_limbs, .int v_size])), (h_v_limbs, .inl (cI, n_v_limbs, .inl (upd v_limbs_a v_size.toNatClampNeg x1.toInt32)))] := hD
    refine lv_aload_n hx hb d_Big_addLimb_23 rfl (lv_at hl 0 rfl) ?_
    refine lv_dup hx hb d_Big_addLimb_24 rfl ?_
    refine va_get (D := (dC, dI)) (ci := 0) (v := .int v_size) (C := R_Big) (T := T_Big) (N := 2) hx hb hw in_Big hown hK hP 0 rfl rfl 1 (by decide) (hw _ wd_91) (fun _ h9 => h9) rfl d_Big_addLimb_25 ?_
    refine lv_iconst (v := 1) hx hb d_Big_addLimb_28 (by decide) ?_
    refine lv_iadd hx hb d_Big_addLimb_29 ?_
    refine va_put (D := (dC, dI)) (ci := 0) (v := .int (v_size + 1)) (ty := .int) (C := R_Big) (T := T_Big) (N := 2) hx hb hw in_Big ty_Big tyok_Big nm_Big hown hK hP hD hS 0 rfl rfl 1 (by decide) (hw _ wd_91) (fun _ h9 => h9) rfl (tyok_Big 1 (by decide)) rfl rfl (Nat.le_of_ble_eq_true rfl) d_Big_addLimb_30 (fun H locs hP hD hS => ?_)
    have hP : va_P (dC, dI) vwCl [(h_v, .inr (0, [.ref h_v_limbs, .int (v_size + 1)])), (h_v_limbs, .inl (cI, n_v_limbs, .inl (upd v_limbs_a v_size.toNatClampNeg x1.toInt32)))] H := hP
    have hD : va_D A [(h_v, .inr (0, [.ref h_v_limbs, .int (v_size + 1)])), (h_v_limbs, .inl (cI, n_v_limbs, .inl (upd v_limbs_a v_size.toNatClampNeg x1.toInt32)))] := hD
    cases hf
    exact hend 33 ls _ _ d_Big_addLimb_33 hP hD hS
abbrev ws_Big_trim : List Cond := .code y_Big_trim prog_2_method_16_code 1 none :: zw
abbrev rm_Big_trim : Room := { frames := 0, cells := 0, slots := 0, locals := 0 }
theorem hd_Big_trim : y_Big_trim.cls = "RealText$Big" ∧ y_Big_trim.cls ≠ "java/lang/invoke/MethodHandle" ∧ y_Big_trim.cls ≠ "java/lang/invoke/VarHandle" ∧ (parseMethodDescriptor y_Big_trim.desc).map (fun d => d.parameters.length) = some 0 := by decide +kernel
theorem d_Big_trim_0 : decode prog_2_method_16_code 0 = .ok (.aload_n 0, 1) := by decide +kernel
theorem d_Big_trim_1 : decode prog_2_method_16_code 1 = .ok (.getfield 13, 3) := by decide +kernel
theorem d_Big_trim_4 : decode prog_2_method_16_code 4 = .ok (.ifCond .le 30, 3) := by decide +kernel
theorem d_Big_trim_7 : decode prog_2_method_16_code 7 = .ok (.aload_n 0, 1) := by decide +kernel
theorem d_Big_trim_8 : decode prog_2_method_16_code 8 = .ok (.getfield 7, 3) := by decide +kernel
theorem d_Big_trim_11 : decode prog_2_method_16_code 11 = .ok (.aload_n 0, 1) := by decide +kernel
theorem d_Big_trim_12 : decode prog_2_method_16_code 12 = .ok (.getfield 13, 3) := by decide +kernel
theorem d_Big_trim_15 : decode prog_2_method_16_code 15 = .ok (.iconst 1, 1) := by decide +kernel
theorem d_Big_trim_16 : decode prog_2_method_16_code 16 = .ok (.isub, 1) := by decide +kernel
theorem d_Big_trim_17 : decode prog_2_method_16_code 17 = .ok (.iaload, 1) := by decide +kernel
theorem d_Big_trim_18 : decode prog_2_method_16_code 18 = .ok (.ifCond .ne 16, 3) := by decide +kernel
theorem d_Big_trim_21 : decode prog_2_method_16_code 21 = .ok (.aload_n 0, 1) := by decide +kernel
theorem d_Big_trim_22 : decode prog_2_method_16_code 22 = .ok (.dup, 1) := by decide +kernel
theorem d_Big_trim_23 : decode prog_2_method_16_code 23 = .ok (.getfield 13, 3) := by decide +kernel
theorem d_Big_trim_26 : decode prog_2_method_16_code 26 = .ok (.iconst 1, 1) := by decide +kernel
theorem d_Big_trim_27 : decode prog_2_method_16_code 27 = .ok (.isub, 1) := by decide +kernel
theorem d_Big_trim_28 : decode prog_2_method_16_code 28 = .ok (.putfield 13, 3) := by decide +kernel
theorem d_Big_trim_31 : decode prog_2_method_16_code 31 = .ok (.goto (-31), 3) := by decide +kernel
theorem d_Big_trim_34 : decode prog_2_method_16_code 34 = .ok (.return_, 1) := by decide +kernel
def f_Big_trim_0 (fu : Nat) (n_v_limbs : Nat) (v_limbs_a : Nat → Int32)  : Nat → Int32 → Option (Int32)
  | 0, _ => none
  | n + 1, v_size =>
  (if v_size ≤ 0 then
  some (v_size)
  else
  if zz_in (v_size - 1) n_v_limbs = true then
  (if (v_limbs_a (v_size - 1).toNatClampNeg) = 0 then
  f_Big_trim_0 fu n_v_limbs v_limbs_a n (v_size - 1)
  else
  some (v_size))
  else none)
theorem f_Big_trim_0_s (fu : Nat) (n_v_limbs : Nat) (v_limbs_a : Nat → Int32)  (n : Nat) (v_size : Int32) : f_Big_trim_0 fu n_v_limbs v_limbs_a (n + 1) v_size =
  (if v_size ≤ 0 then
  some (v_size)
  else
  if zz_in (v_size - 1) n_v_limbs = true then
  (if (v_limbs_a (v_size - 1).toNatClampNeg) = 0 then
  f_Big_trim_0 fu n_v_limbs v_limbs_a n (v_size - 1)
  else
  some (v_size))
  else none) := rfl
def f_Big_trim (fu : Nat) (n_v_limbs : Nat) (v_size : Int32) (v_limbs_a : Nat → Int32) : Option (Int32) :=
  f_Big_trim_0 fu n_v_limbs v_limbs_a fu v_size
set_option maxHeartbeats 4000000 in
set_option maxRecDepth 100000 in
theorem c_Big_trim (l : Launch) (dC : Nat → ClassId) (dI : Nat → Nat → Nat) (cI cC cB cJ : ClassId) (fu : Nat) (sz : Nat) (h_v : Nat) (h_v_limbs : Nat) (n_v_limbs : Nat) (v_size : Int32) (v_limbs_a : Nat → Int32) (u : Int32) (hf : f_Big_trim fu n_v_limbs v_size v_limbs_a = some u) : Met l y_Big_trim ws_Big_trim rm_Big_trim (zz_P zz_T (dC, dI) vwCl (zz_tys cI cC cB cJ) [.ref h_v] [(h_v, .inr (0, [.ref h_v_limbs, .int v_size])), (h_v_limbs, .inl (cI, n_v_limbs, .inl v_limbs_a))] sz) (zz_Qv (dC, dI) vwCl [(h_v, .inr (0, [.ref h_v_limbs, .int u])), (h_v_limbs, .inl (cI, n_v_limbs, .inl v_limbs_a))] (va_A [(h_v, .inr (0, [.ref h_v_limbs, .int v_size])), (h_v_limbs, .inl (cI, n_v_limbs, .inl v_limbs_a))] sz)) 0 0 (va_A [(h_v, .inr (0, [.ref h_v_limbs, .int v_size])), (h_v_limbs, .inl (cI, n_v_limbs, .inl v_limbs_a))] sz) := by
  refine Met.ofW (cc := prog_2_method_16_code) (maxL := 1) (ret := none) (by decide +kernel) rfl ?_
  intro p e s m args below meth c s₁ B hml hv
  obtain ⟨rfl, hsz, hP, hK, hD0, hX⟩ := hv
  have hx := B.exec
  have hb := B.bytes
  have hr := B.returns
  have hts := atoms_spec (ws := ws_Big_trim) B.pre
  have hw : ∀ w ∈ zw, w.before [.ref h_v].toArray s = true := fun w h => hts w (List.mem_cons_of_mem _ h)
  have hown : s.vm.findClass R_Big = some m.cls := findClass_of_methodNamed B.named
  have hlocks := B.notSynchronized
  subst hsz
  have hD := hD0.self (sz := s.heap.size)
  generalize hAe : va_A [(h_v, .inr (0, [.ref h_v_limbs, .int v_size])), (h_v_limbs, .inl (cI, n_v_limbs, .inl v_limbs_a))] s.heap.size = A at hD hX ⊢
  have hA : ∀ q : Nat, s.heap.size ≤ q → A q := fun q h => by rw [← hAe]; exact Or.inr h
  have hS : va_S A s.heap s.heap [] := va_S.rf
  have hl := lv_entry [.ref h_v] (n := 1) (Nat.le_of_ble_eq_true rfl)
  rw [lg_entry_eq]
  generalize (lg_sl [.ref h_v] ++ List.replicate (1 - (lg_sl [.ref h_v]).length) Slot.unset).toArray = ls at hl ⊢
  have hl : lv_has ls 1 [(0, .ref h_v)] := hl
  refine zz_endv hx hb hr hlocks (fun Qq hend => ?_)
  have hL_0 : ∀ (n : Nat), ∀ (v_size : Int32) (ls : Array Slot) (H : Heap) (locs : List Loc), lv_has ls 1 [(0, .ref h_v)] → va_P (dC, dI) vwCl [(h_v, .inr (0, [.ref h_v_limbs, .int v_size])), (h_v_limbs, .inl (cI, n_v_limbs, .inl v_limbs_a))] H → va_D A [(h_v, .inr (0, [.ref h_v_limbs, .int v_size])), (h_v_limbs, .inl (cI, n_v_limbs, .inl v_limbs_a))] → va_S A s.heap H locs → f_Big_trim_0 fu n_v_limbs v_limbs_a n v_size = some u → W p l e (headSpec ws_Big_trim rm_Big_trim).room s m [.ref h_v].toArray below meth c H locs 0 0 Qq (F0 m 0 ls []) := by
    intro n
    induction n with
    | zero =>
      intro v_size ls H locs hl hP hD hS hf
      exact zz_no hf
    | succ n ih =>
      intro v_size ls H locs hl hP hD hS hf
      rw [f_Big_trim_0_s] at hf
      refine lv_aload_n hx hb d_Big_trim_0 rfl (lv_at hl 0 rfl) ?_
      refine va_get (D := (dC, dI)) (ci := 0) (v := .int v_size) (C := R_Big) (T := T_Big) (N := 2) hx hb hw in_Big hown hK hP 0 rfl rfl 1 (by decide) (hw _ wd_91) (fun _ h9 => h9) rfl d_Big_trim_1 ?_
      refine lv_if_le (tgt := 34) hx hb d_Big_trim_4 (by decide) (fun hc => ?_) (fun hc => ?_)
      · have hf := zz_ifp hc hf
        cases hf
        exact hend 34 ls _ _ d_Big_trim_34 hP hD hS
      · have hf := zz_ifn hc hf
        refine lv_aload_n hx hb d_Big_trim_7 rfl (lv_at hl 0 rfl) ?_
        refine va_get (D := (dC, dI)) (ci := 0) (v := .ref h_v_limbs) (C := R_Big) (T := T_Big) (N := 2) hx hb hw in_Big hown hK hP 0 rfl rfl 0 (by decide) (hw _ wd_90) (fun _ h9 => h9) rfl d_Big_trim_8 ?_
        refine lv_aload_n hx hb d_Big_trim_11 rfl (lv_at hl 0 rfl) ?_
        refine va_get (D := (dC, dI)) (ci := 0) (v := .int v_size) (C := R_Big) (T := T_Big) (N := 2) hx hb hw in_Big hown hK hP 0 rfl rfl 1 (by decide) (hw _ wd_91) (fun _ h9 => h9) rfl d_Big_trim_12 ?_
        refine lv_iconst (v := 1) hx hb d_Big_trim_15 (by decide) ?_
        refine lv_isub hx hb d_Big_trim_16 ?_
        obtain ⟨hb_1, hf⟩ := zz_gd hf
        refine va_iald hx hb hK hP 1 0 rfl rfl (zz_vp hb_1) d_Big_trim_17 ?_
        refine lv_if_ne (tgt := 34) hx hb d_Big_trim_18 (by decide) (fun hc => ?_) (fun hc => ?_)
        · have hf := zz_ifn hc hf
          cases hf
          exact hend 34 ls _ _ d_Big_trim_34 hP hD hS
        · have hf := zz_ifp hc hf
          refine lv_aload_n hx hb d_Big_trim_21 rfl (lv_at hl 0 rfl) ?_
          refine lv_dup hx hb d_Big_trim_22 rfl ?_
          refine va_get (D := (dC, dI)) (ci := 0) (v := .int v_size) (C := R_Big) (T := T_Big) (N := 2) hx hb hw in_Big hown hK hP 0 rfl rfl 1 (by decide) (hw _ wd_91) (fun _ h9 => h9) rfl d_Big_trim_23 ?_
          refine lv_iconst (v := 1) hx hb d_Big_trim_26 (by decide) ?_
          refine lv_isub hx hb d_Big_trim_27 ?_
          refine va_put (D := (dC, dI)) (ci := 0) (v := .int (v_size - 1)) (ty := .int) (C := R_Big) (T := T_Big) (N := 2) hx hb hw in_Big ty_Big tyok_Big nm_Big hown hK hP hD hS 0 rfl rfl 1 (by decide) (hw _ wd_91) (fun _ h9 => h9) rfl (tyok_Big 1 (by decide)) rfl rfl (Nat.le_of_ble_eq_true rfl) d_Big_trim_28 (fun H locs hP hD hS => ?_)
          have hP : va_P (dC, dI) vwCl [(h_v, .inr (0, [.ref h_v_limbs, .int (v_size - 1)])), (h_v_limbs, .inl (cI, n_v_limbs, .inl v_limbs_a))] H := hP
          have hD : va_D A [(h_v, .inr (0, [.ref h_v_limbs, .int (v_size - 1)])), (h_v_limbs, .inl (cI, n_v_limbs, .inl v_limbs_a))] := hD
          refine lv_goto (tgt := 0) hx hb d_Big_trim_31 (by decide) ?_
          exact ih (v_size - 1) ls _ _ (lv_sub hl [0] rfl) hP hD hS hf
  unfold f_Big_trim at hf
  exact hL_0 fu v_size ls _ _ (lv_sub hl [0] rfl) hP hD hS hf
abbrev ws_Big_setLimb : List Cond := .code y_Big_setLimb prog_2_method_14_code 4 none :: zw
abbrev rm_Big_setLimb : Room := { frames := 1, cells := 0, slots := 0, locals := 22 }
theorem hd_Big_setLimb : y_Big_setLimb.cls = "RealText$Big" ∧ y_Big_setLimb.cls ≠ "java/lang/invoke/MethodHandle" ∧ y_Big_setLimb.cls ≠ "java/lang/invoke/VarHandle" ∧ (parseMethodDescriptor y_Big_setLimb.desc).map (fun d => d.parameters.length) = some 2 := by decide +kernel
theorem d_Big_setLimb_0 : decode prog_2_method_14_code 0 = .ok (.iload_n 1, 1) := by decide +kernel
theorem d_Big_setLimb_1 : decode prog_2_method_14_code 1 = .ok (.aload_n 0, 1) := by decide +kernel
theorem d_Big_setLimb_2 : decode prog_2_method_14_code 2 = .ok (.getfield 13, 3) := by decide +kernel
theorem d_Big_setLimb_5 : decode prog_2_method_14_code 5 = .ok (.if_icmp .ge 14, 3) := by decide +kernel
theorem d_Big_setLimb_8 : decode prog_2_method_14_code 8 = .ok (.aload_n 0, 1) := by decide +kernel
theorem d_Big_setLimb_9 : decode prog_2_method_14_code 9 = .ok (.getfield 7, 3) := by decide +kernel
theorem d_Big_setLimb_12 : decode prog_2_method_14_code 12 = .ok (.iload_n 1, 1) := by decide +kernel
theorem d_Big_setLimb_13 : decode prog_2_method_14_code 13 = .ok (.lload_n 2, 1) := by decide +kernel
theorem d_Big_setLimb_14 : decode prog_2_method_14_code 14 = .ok (.l2i, 1) := by decide +kernel
theorem d_Big_setLimb_15 : decode prog_2_method_14_code 15 = .ok (.iastore, 1) := by decide +kernel
theorem d_Big_setLimb_16 : decode prog_2_method_14_code 16 = .ok (.goto 8, 3) := by decide +kernel
theorem d_Big_setLimb_19 : decode prog_2_method_14_code 19 = .ok (.aload_n 0, 1) := by decide +kernel
theorem d_Big_setLimb_20 : decode prog_2_method_14_code 20 = .ok (.lload_n 2, 1) := by decide +kernel
theorem d_Big_setLimb_21 : decode prog_2_method_14_code 21 = .ok (.invokevirtual 19, 3) := by decide +kernel
theorem d_Big_setLimb_24 : decode prog_2_method_14_code 24 = .ok (.return_, 1) := by decide +kernel
def f_Big_setLimb (n_v_limbs : Nat) (x1 : Int32) (x2 : Int64) (v_size : Int32) (v_limbs_a : Nat → Int32) : Option (Int32 × (Nat → Int32)) :=
  (if v_size ≤ x1 then
  (f_Big_addLimb n_v_limbs x2 v_size v_limbs_a).bind fun u_1 =>
  some (u_1.1, u_1.2)
  else
  if zz_in x1 n_v_limbs = true then
  some (v_size, upd v_limbs_a x1.toNatClampNeg x2.toInt32)
  else none)
set_option maxHeartbeats 4000000 in
set_option maxRecDepth 100000 in
theorem c_Big_setLimb (l : Launch) (dC : Nat → ClassId) (dI : Nat → Nat → Nat) (cI cC cB cJ : ClassId) (sz : Nat) (h_v : Nat) (h_v_limbs : Nat) (n_v_limbs : Nat) (x1 : Int32) (x2 : Int64) (v_size : Int32) (v_limbs_a : Nat → Int32) (u : Int32 × (Nat → Int32)) (hf : f_Big_setLimb n_v_limbs x1 x2 v_size v_limbs_a = some u) : Met l y_Big_setLimb ws_Big_setLimb rm_Big_setLimb (zz_P zz_T (dC, dI) vwCl (zz_tys cI cC cB cJ) [.ref h_v, .int x1, .long x2] [(h_v, .inr (0, [.ref h_v_limbs, .int v_size])), (h_v_limbs, .inl (cI, n_v_limbs, .inl v_limbs_a))] sz) (zz_Qv (dC, dI) vwCl [(h_v, .inr (0, [.ref h_v_limbs, .int u.1])), (h_v_limbs, .inl (cI, n_v_limbs, .inl u.2))] (va_A [(h_v, .inr (0, [.ref h_v_limbs, .int v_size])), (h_v_limbs, .inl (cI, n_v_limbs, .inl v_limbs_a))] sz)) 0 0 (va_A [(h_v, .inr (0, [.ref h_v_limbs, .int v_size])), (h_v_limbs, .inl (cI, n_v_limbs, .inl v_limbs_a))] sz) := by
  refine Met.ofW (cc := prog_2_method_14_code) (maxL := 4) (ret := none) (by decide +kernel) rfl ?_
  intro p e s m args below meth c s₁ B hml hv
  obtain ⟨rfl, hsz, hP, hK, hD0, hX⟩ := hv
  have hx := B.exec
  have hb := B.bytes
  have hr := B.returns
  have hts := atoms_spec (ws := ws_Big_setLimb) B.pre
  have hw : ∀ w ∈ zw, w.before [.ref h_v, .int x1, .long x2].toArray s = true := fun w h => hts w (List.mem_cons_of_mem _ h)
  have hown : s.vm.findClass R_Big = some m.cls := findClass_of_methodNamed B.named
  have hlocks := B.notSynchronized
  subst hsz
  have hD := hD0.self (sz := s.heap.size)
  generalize hAe : va_A [(h_v, .inr (0, [.ref h_v_limbs, .int v_size])), (h_v_limbs, .inl (cI, n_v_limbs, .inl v_limbs_a))] s.heap.size = A at hD hX ⊢
  have hA : ∀ q : Nat, s.heap.size ≤ q → A q := fun q h => by rw [← hAe]; exact Or.inr h
  have hS : va_S A s.heap s.heap [] := va_S.rf
  have hl := lv_entry [.ref h_v, .int x1, .long x2] (n := 4) (Nat.le_of_ble_eq_true rfl)
  rw [lg_entry_eq]
  generalize (lg_sl [.ref h_v, .int x1, .long x2] ++ List.replicate (4 - (lg_sl [.ref h_v, .int x1, .long x2]).length) Slot.unset).toArray = ls at hl ⊢
  have hl : lv_has ls 4 [(0, .ref h_v), (1, .int x1), (2, .long x2)] := hl
  refine zz_endv hx hb hr hlocks (fun Qq hend => ?_)
  unfold f_Big_setLimb at hf
  refine lv_iload_n hx hb d_Big_setLimb_0 rfl (lv_at hl 1 rfl) ?_
  refine lv_aload_n hx hb d_Big_setLimb_1 rfl (lv_at hl 0 rfl) ?_
  refine va_get (D := (dC, dI)) (ci := 0) (v := .int v_size) (C := R_Big) (T := T_Big) (N := 2) hx hb hw in_Big hown hK hP 0 rfl rfl 1 (by decide) (hw _ wd_91) (fun _ h9 => h9) rfl d_Big_setLimb_2 ?_
  refine lv_icmp_ge (tgt := 19) hx hb d_Big_setLimb_5 (by decide) (fun hc => ?_) (fun hc => ?_)
  · have hf := zz_ifp hc hf
    refine lv_aload_n hx hb d_Big_setLimb_19 rfl (lv_at hl 0 rfl) ?_
    refine lv_lload_n hx hb d_Big_setLimb_20 rfl (lv_at hl 2 rfl) ?_
    obtain ⟨u_1, hu_1, hf⟩ := zz_bd hf
    refine zz_cv (ws' := [(h_v, .inr (0, [.ref h_v_limbs, .int u_1.1])), (h_v_limbs, .inl (cI, n_v_limbs, .inl u_1.2))]) (wc := [(h_v, .inr (0, [.ref h_v_limbs, .int v_size])), (h_v_limbs, .inl (cI, n_v_limbs, .inl v_limbs_a))]) (w' := [(h_v, .inr (0, [.ref h_v_limbs, .int u_1.1])), (h_v_limbs, .inl (cI, n_v_limbs, .inl u_1.2))]) hP hD hS hA [0, 1] [] [0, 1] rfl rfl (by decide) (by decide) rfl (by decide) (va_runV (As := [.long x2]) (rest := []) ⟨hx, hb, hml, hown, hw⟩ (c_Big_addLimb l dC dI cI cC cB cJ _ h_v h_v_limbs n_v_limbs x2 v_size v_limbs_a u_1 hu_1) (cwV 1 hw (zg_V wd_327 wd_329 we_0_4 wd_5 wd_330) rfl rfl rfl hd_Big_addLimb ⟨Nat.le_of_ble_eq_true rfl, Nat.le_of_ble_eq_true rfl⟩) (zz_preV zz_TE (va_recv (q0 := 0) (ci := 0) hK hP rfl rfl) hP hD hK hS hA trivial [0, 1] rfl (by decide)) rfl rfl hl.1 rfl (lv_room (Nat.le_of_ble_eq_true rfl)) d_Big_setLimb_21 ⟨Nat.zero_le _, Nat.zero_le _⟩) (fun H locs hP hD hS => ?_)
    cases hf
    exact hend 24 ls _ _ d_Big_setLimb_24 hP hD hS
  · have hf := zz_ifn hc hf
    refine lv_aload_n hx hb d_Big_setLimb_8 rfl (lv_at hl 0 rfl) ?_
    refine va_get (D := (dC, dI)) (ci := 0) (v := .ref h_v_limbs) (C := R_Big) (T := T_Big) (N := 2) hx hb hw in_Big hown hK hP 0 rfl rfl 0 (by decide) (hw _ wd_90) (fun _ h9 => h9) rfl d_Big_setLimb_9 ?_
    refine lv_iload_n hx hb d_Big_setLimb_12 rfl (lv_at hl 1 rfl) ?_
    refine lv_lload_n hx hb d_Big_setLimb_13 rfl (lv_at hl 2 rfl) ?_
    refine lv_l2i hx hb d_Big_setLimb_14 rfl ?_
    obtain ⟨hb_2, hf⟩ := zz_gd hf
    refine va_iast hx hb hK hP hD hS 1 0 rfl rfl (zz_vp hb_2) d_Big_setLimb_15 (fun H locs hP hD hS => ?_)
    have hP : va_P (dC, dI) vwCl [(h_v, .inr (0, [.ref h_v_limbs, .int v_size])), (h_v_limbs, .inl (cI, n_v_limbs, .inl (upd v_limbs_a x1.toNatClampNeg x2.toInt32)))] H := hP
    have hD : va_D A [(h_v, .inr (0, [.ref h_v_limbs, .int v_size])), (h_v_limbs, .inl (cI, n_v_limbs, .inl (upd v_limbs_a x1.toNatClampNeg x2.toInt32)))] := hD
    refine lv_goto (tgt := 24) hx hb d_Big_setLimb_16 (by decide) ?_
    cases hf
    exact hend 24 ls _ _ d_Big_setLimb_24 hP hD hS
abbrev ws_Big_set : List Cond := .code y_Big_set prog_2_method_2_code 3 none :: zw
abbrev rm_Big_set : Room := { frames := 1, cells := 0, slots := 0, locals := 22 }
theorem hd_Big_set : y_Big_set.cls = "RealText$Big" ∧ y_Big_set.cls ≠ "java/lang/invoke/MethodHandle" ∧ y_Big_set.cls ≠ "java/lang/invoke/VarHandle" ∧ (parseMethodDescriptor y_Big_set.desc).map (fun d => d.parameters.length) = some 1 := by decide +kernel
theorem d_Big_set_0 : decode prog_2_method_2_code 0 = .ok (.aload_n 0, 1) := by decide +kernel
theorem d_Big_set_1 : decode prog_2_method_2_code 1 = .ok (.iconst 0, 1) := by decide +kernel
theorem d_Big_set_2 : decode prog_2_method_2_code 2 = .ok (.putfield 13, 3) := by decide +kernel
theorem d_Big_set_5 : decode prog_2_method_2_code 5 = .ok (.aload_n 0, 1) := by decide +kernel
theorem d_Big_set_6 : decode prog_2_method_2_code 6 = .ok (.lload_n 1, 1) := by decide +kernel
theorem d_Big_set_7 : decode prog_2_method_2_code 7 = .ok (.ldc2_w 17, 3) := by decide +kernel
theorem d_Big_set_10 : decode prog_2_method_2_code 10 = .ok (.land, 1) := by decide +kernel
theorem d_Big_set_11 : decode prog_2_method_2_code 11 = .ok (.invokevirtual 19, 3) := by decide +kernel
theorem d_Big_set_14 : decode prog_2_method_2_code 14 = .ok (.aload_n 0, 1) := by decide +kernel
theorem d_Big_set_15 : decode prog_2_method_2_code 15 = .ok (.lload_n 1, 1) := by decide +kernel
theorem d_Big_set_16 : decode prog_2_method_2_code 16 = .ok (.bipush 32, 2) := by decide +kernel
theorem d_Big_set_18 : decode prog_2_method_2_code 18 = .ok (.lushr, 1) := by decide +kernel
theorem d_Big_set_19 : decode prog_2_method_2_code 19 = .ok (.invokevirtual 19, 3) := by decide +kernel
theorem d_Big_set_22 : decode prog_2_method_2_code 22 = .ok (.aload_n 0, 1) := by decide +kernel
theorem d_Big_set_23 : decode prog_2_method_2_code 23 = .ok (.invokevirtual 23, 3) := by decide +kernel
theorem d_Big_set_26 : decode prog_2_method_2_code 26 = .ok (.return_, 1) := by decide +kernel
def f_Big_set (fu : Nat) (n_v_limbs : Nat) (x1 : Int64) (v_size : Int32) (v_limbs_a : Nat → Int32) : Option (Int32 × (Nat → Int32)) :=
  (f_Big_addLimb n_v_limbs (x1 &&& 4294967295) 0 v_limbs_a).bind fun u_1 =>
  (f_Big_addLimb n_v_limbs ((x1.toUInt64 >>> ((32 : Int32).toInt64.toUInt64 &&& Int64.toUInt64 63)).toInt64) u_1.1 u_1.2).bind fun u_2 =>
  (f_Big_trim fu n_v_limbs u_2.1 u_2.2).bind fun u_3 =>
  some (u_3, u_2.2)
set_option maxHeartbeats 4000000 in
set_option maxRecDepth 100000 in
theorem c_Big_set (l : Launch) (dC : Nat → ClassId) (dI : Nat → Nat → Nat) (cI cC cB cJ : ClassId) (fu : Nat) (sz : Nat) (h_v : Nat) (h_v_limbs : Nat) (n_v_limbs : Nat) (x1 : Int64) (v_size : Int32) (v_limbs_a : Nat → Int32) (u : Int32 × (Nat → Int32)) (hf : f_Big_set fu n_v_limbs x1 v_size v_limbs_a = some u) : Met l y_Big_set ws_Big_set rm_Big_set (zz_P zz_T (dC, dI) vwCl (zz_tys cI cC cB cJ) [.ref h_v, .long x1] [(h_v, .inr (0, [.ref h_v_limbs, .int v_size])), (h_v_limbs, .inl (cI, n_v_limbs, .inl v_limbs_a))] sz) (zz_Qv (dC, dI) vwCl [(h_v, .inr (0, [.ref h_v_limbs, .int u.1])), (h_v_limbs, .inl (cI, n_v_limbs, .inl u.2))] (va_A [(h_v, .inr (0, [.ref h_v_limbs, .int v_size])), (h_v_limbs, .inl (cI, n_v_limbs, .inl v_limbs_a))] sz)) 0 0 (va_A [(h_v, .inr (0, [.ref h_v_limbs, .int v_size])), (h_v_limbs, .inl (cI, n_v_limbs, .inl v_limbs_a))] sz) := by
  refine Met.ofW (cc := prog_2_method_2_code) (maxL := 3) (ret := none) (by decide +kernel) rfl ?_
  intro p e s m args below meth c s₁ B hml hv
  obtain ⟨rfl, hsz, hP, hK, hD0, hX⟩ := hv
  have hx := B.exec
  have hb := B.bytes
  have hr := B.returns
  have hts := atoms_spec (ws := ws_Big_set) B.pre
  have hw : ∀ w ∈ zw, w.before [.ref h_v, .long x1].toArray s = true := fun w h => hts w (List.mem_cons_of_mem _ h)
  have hown : s.vm.findClass R_Big = some m.cls := findClass_of_methodNamed B.named
  have hlocks := B.notSynchronized
  subst hsz
  have hD := hD0.self (sz := s.heap.size)
  generalize hAe : va_A [(h_v, .inr (0, [.ref h_v_limbs, .int v_size])), (h_v_limbs, .inl (cI, n_v_limbs, .inl v_limbs_a))] s.heap.size = A at hD hX ⊢
  have hA : ∀ q : Nat, s.heap.size ≤ q → A q := fun q h => by rw [← hAe]; exact Or.inr h
  have hS : va_S A s.heap s.heap [] := va_S.rf
  have hl := lv_entry [.ref h_v, .long x1] (n := 3) (Nat.le_of_ble_eq_true rfl)
  rw [lg_entry_eq]
  generalize (lg_sl [.ref h_v, .long x1] ++ List.replicate (3 - (lg_sl [.ref h_v, .long x1]).length) Slot.unset).toArray = ls at hl ⊢
  have hl : lv_has ls 3 [(0, .ref h_v), (1, .long x1)] := hl
  refine zz_endv hx hb hr hlocks (fun Qq hend => ?_)
  unfold f_Big_set at hf
  refine lv_aload_n hx hb d_Big_set_0 rfl (lv_at hl 0 rfl) ?_
  refine lv_iconst (v := 0) hx hb d_Big_set_1 (by decide) ?_
  refine va_put (D := (dC, dI)) (ci := 0) (v := .int 0) (ty := .int) (C := R_Big) (T := T_Big) (N := 2) hx hb hw in_Big ty_Big tyok_Big nm_Big hown hK hP hD hS 0 rfl rfl 1 (by decide) (hw _ wd_91) (fun _ h9 => h9) rfl (tyok_Big 1 (by decide)) rfl rfl (Nat.le_of_ble_eq_true rfl) d_Big_set_2 (fun H locs hP hD hS => ?_)
  have hP : va_P (dC, dI) vwCl [(h_v, .inr (0, [.ref h_v_limbs, .int 0])), (h_v_limbs, .inl (cI, n_v_limbs, .inl v_limbs_a))] H := hP
  have hD : va_D A [(h_v, .inr (0, [.ref h_v_limbs, .int 0])), (h_v_limbs, .inl (cI, n_v_limbs, .inl v_limbs_a))] := hD
  refine lv_aload_n hx hb d_Big_set_5 rfl (lv_at hl 0 rfl) ?_
  refine lv_lload_n hx hb d_Big_set_6 rfl (lv_at hl 1 rfl) ?_
  refine lv_ldc2 (v := 4294967295) hx hb hown (hw _ wd_326) d_Big_set_7 ?_
  refine lv_land hx hb d_Big_set_10 ?_
  obtain ⟨u_1, hu_1, hf⟩ := zz_bd hf
  refine zz_cv (ws' := [(h_v, .inr (0, [.ref h_v_limbs, .int u_1.1])), (h_v_limbs, .inl (cI, n_v_limbs, .inl u_1.2))]) (wc := [(h_v, .inr (0, [.ref h_v_limbs, .int 0])), (h_v_limbs, .inl (cI, n_v_limbs, .inl v_limbs_a))]) (w' := [(h_v, .inr (0, [.ref h_v_limbs, .int u_1.1])), (h_v_limbs, .inl (cI, n_v_limbs, .inl u_1.2))]) hP hD hS hA [0, 1] [] [0, 1] rfl rfl (by decide) (by decide) rfl (by decide) (va_runV (As := [.long (x1 &&& 4294967295)]) (rest := []) ⟨hx, hb, hml, hown, hw⟩ (c_Big_addLimb l dC dI cI cC cB cJ _ h_v h_v_limbs n_v_limbs (x1 &&& 4294967295) 0 v_limbs_a u_1 hu_1) (cwV 1 hw (zg_V wd_327 wd_329 we_0_4 wd_5 wd_330) rfl rfl rfl hd_Big_addLimb ⟨Nat.le_of_ble_eq_true rfl, Nat.le_of_ble_eq_true rfl⟩) (zz_preV zz_TE (va_recv (q0 := 0) (ci := 0) hK hP rfl rfl) hP hD hK hS hA trivial [0, 1] rfl (by decide)) rfl rfl hl.1 rfl (lv_room (Nat.le_of_ble_eq_true rfl)) d_Big_set_11 ⟨Nat.zero_le _, Nat.zero_le _⟩) (fun H locs hP hD hS => ?_)
  refine lv_aload_n hx hb d_Big_set_14 rfl (lv_at hl 0 rfl) ?_
  refine lv_lload_n hx hb d_Big_set_15 rfl (lv_at hl 1 rfl) ?_
  refine lv_bipush (v := 32) hx hb d_Big_set_16 (by decide) ?_
  refine lv_lushr hx hb d_Big_set_18 rfl ?_
  obtain ⟨u_2, hu_2, hf⟩ := zz_bd hf
  refine zz_cv (ws' := [(h_v, .inr (0, [.ref h_v_limbs, .int u_2.1])), (h_v_limbs, .inl (cI, n_v_limbs, .inl u_2.2))]) (wc := [(h_v, .inr (0, [.ref h_v_limbs, .int u_1.1])), (h_v_limbs, .inl (cI, n_v_limbs, .inl u_1.2))]) (w' := [(h_v, .inr (0, [.ref h_v_limbs, .int u_2.1])), (h_v_limbs, .inl (cI, n_v_limbs, .inl u_2.2))]) hP hD hS hA [0, 1] [] [0, 1] rfl rfl (by decide) (by decide) rfl (by decide) (va_runV (As := [.long ((x1.toUInt64 >>> ((32 : Int32).toInt64.toUInt64 &&& Int64.toUInt64 63)).toInt64)]) (rest := []) ⟨hx, hb, hml, hown, hw⟩ (c_Big_addLimb l dC dI cI cC cB cJ _ h_v h_v_limbs n_v_limbs ((x1.toUInt64 >>> ((32 : Int32).toInt64.toUInt64 &&& Int64.toUInt64 63)).toInt64) u_1.1 u_1.2 u_2 hu_2) (cwV 1 hw (zg_V wd_327 wd_329 we_0_4 wd_5 wd_330) rfl rfl rfl hd_Big_addLimb ⟨Nat.le_of_ble_eq_true rfl, Nat.le_of_ble_eq_true rfl⟩) (zz_preV zz_TE (va_recv (q0 := 0) (ci := 0) hK hP rfl rfl) hP hD hK hS hA trivial [0, 1] rfl (by decide)) rfl rfl hl.1 rfl (lv_room (Nat.le_of_ble_eq_true rfl)) d_Big_set_19 ⟨Nat.zero_le _, Nat.zero_le _⟩) (fun H locs hP hD hS => ?_)
  refine lv_aload_n hx hb d_Big_set_22 rfl (lv_at hl 0 rfl) ?_
  obtain ⟨u_3, hu_3, hf⟩ := zz_bd hf
  refine zz_cv (ws' := [(h_v, .inr (0, [.ref h_v_limbs, .int u_3])), (h_v_limbs, .inl (cI, n_v_limbs, .inl u_2.2))]) (wc := [(h_v, .inr (0, [.ref h_v_limbs, .int u_2.1])), (h_v_limbs, .inl (cI, n_v_limbs, .inl u_2.2))]) (w' := [(h_v, .inr (0, [.ref h_v_limbs, .int u_3])), (h_v_limbs, .inl (cI, n_v_limbs, .inl u_2.2))]) hP hD hS hA [0, 1] [] [0, 1] rfl rfl (by decide) (by decide) rfl (by decide) (va_runV (As := []) (rest := []) ⟨hx, hb, hml, hown, hw⟩ (c_Big_trim l dC dI cI cC cB cJ fu _ h_v h_v_limbs n_v_limbs u_2.1 u_2.2 u_3 hu_3) (cwV 0 hw (zg_V wd_331 wd_333 we_0_5 wd_5 wd_334) rfl rfl rfl hd_Big_trim ⟨Nat.le_of_ble_eq_true rfl, Nat.le_of_ble_eq_true rfl⟩) (zz_preV zz_TE (va_recv (q0 := 0) (ci := 0) hK hP rfl rfl) hP hD hK hS hA trivial [0, 1] rfl (by decide)) rfl rfl hl.1 rfl (lv_room (Nat.le_of_ble_eq_true rfl)) d_Big_set_23 ⟨Nat.zero_le _, Nat.zero_le _⟩) (fun H locs hP hD hS => ?_)
  cases hf
  exact hend 26 ls _ _ d_Big_set_26 hP hD hS
abbrev ws_Big_isZero : List Cond := .code y_Big_isZero prog_2_method_4_code 1 (some .boolean) :: zw
abbrev rm_Big_isZero : Room := { frames := 0, cells := 0, slots := 0, locals := 0 }
theorem hd_Big_isZero : y_Big_isZero.cls = "RealText$Big" ∧ y_Big_isZero.cls ≠ "java/lang/invoke/MethodHandle" ∧ y_Big_isZero.cls ≠ "java/lang/invoke/VarHandle" ∧ (parseMethodDescriptor y_Big_isZero.desc).map (fun d => d.parameters.length) = some 0 := by decide +kernel
theorem d_Big_isZero_0 : decode prog_2_method_4_code 0 = .ok (.aload_n 0, 1) := by decide +kernel
theorem d_Big_isZero_1 : decode prog_2_method_4_code 1 = .ok (.getfield 13, 3) := by decide +kernel
theorem d_Big_isZero_4 : decode prog_2_method_4_code 4 = .ok (.ifCond .ne 7, 3) := by decide +kernel
theorem d_Big_isZero_7 : decode prog_2_method_4_code 7 = .ok (.iconst 1, 1) := by decide +kernel
theorem d_Big_isZero_8 : decode prog_2_method_4_code 8 = .ok (.goto 4, 3) := by decide +kernel
theorem d_Big_isZero_11 : decode prog_2_method_4_code 11 = .ok (.iconst 0, 1) := by decide +kernel
theorem d_Big_isZero_12 : decode prog_2_method_4_code 12 = .ok (.ireturn, 1) := by decide +kernel
def f_Big_isZero (v_size : Int32) : Option (Int32) :=
  (if v_size = 0 then
  some (1)
  else
  some (0))
set_option maxHeartbeats 4000000 in
set_option maxRecDepth 100000 in
theorem c_Big_isZero (l : Launch) (dC : Nat → ClassId) (dI : Nat → Nat → Nat) (cI cC cB cJ : ClassId) (sz : Nat) (h_v : Nat) (h_v_limbs : Nat) (v_size : Int32) (u : Int32) (hf : f_Big_isZero v_size = some u) : Met l y_Big_isZero ws_Big_isZero rm_Big_isZero (zz_P zz_T (dC, dI) vwCl (zz_tys cI cC cB cJ) [.ref h_v] [(h_v, .inr (0, [.ref h_v_limbs, .int v_size]))] sz) (zz_Qi (dC, dI) vwCl u [(h_v, .inr (0, [.ref h_v_limbs, .int v_size]))] (va_A [(h_v, .inr (0, [.ref h_v_limbs, .int v_size]))] sz)) 0 0 (va_A [(h_v, .inr (0, [.ref h_v_limbs, .int v_size]))] sz) := by
  refine Met.ofW (cc := prog_2_method_4_code) (maxL := 1) (ret := (some .boolean)) (by decide +kernel) rfl ?_
  intro p e s m args below meth c s₁ B hml hv
  obtain ⟨rfl, hsz, hP, hK, hD0, hX⟩ := hv
  have hx := B.exec
  have hb := B.bytes
  have hr := B.returns
  have hts := atoms_spec (ws := ws_Big_isZero) B.pre
  have hw : ∀ w ∈ zw, w.before [.ref h_v].toArray s = true := fun w h => hts w (List.mem_cons_of_mem _ h)
  have hown : s.vm.findClass R_Big = some m.cls := findClass_of_methodNamed B.named
  have hlocks := B.notSynchronized
  subst hsz
  have hD := hD0.self (sz := s.heap.size)
  generalize hAe : va_A [(h_v, .inr (0, [.ref h_v_limbs, .int v_size]))] s.heap.size = A at hD hX ⊢
  have hA : ∀ q : Nat, s.heap.size ≤ q → A q := fun q h => by rw [← hAe]; exact Or.inr h
  have hS : va_S A s.heap s.heap [] := va_S.rf
  have hl := lv_entry [.ref h_v] (n := 1) (Nat.le_of_ble_eq_true rfl)
  rw [lg_entry_eq]
  generalize (lg_sl [.ref h_v] ++ List.replicate (1 - (lg_sl [.ref h_v]).length) Slot.unset).toArray = ls at hl ⊢
  have hl : lv_has ls 1 [(0, .ref h_v)] := hl
  refine zz_endz hx hb hr hlocks (fun Qq hend => ?_)
  unfold f_Big_isZero at hf
  refine lv_aload_n hx hb d_Big_isZero_0 rfl (lv_at hl 0 rfl) ?_
  refine va_get (D := (dC, dI)) (ci := 0) (v := .int v_size) (C := R_Big) (T := T_Big) (N := 2) hx hb hw in_Big hown hK hP 0 rfl rfl 1 (by decide) (hw _ wd_91) (fun _ h9 => h9) rfl d_Big_isZero_1 ?_
  refine lv_if_ne (tgt := 11) hx hb d_Big_isZero_4 (by decide) (fun hc => ?_) (fun hc => ?_)
  · have hf := zz_ifn hc hf
    refine lv_iconst (v := 0) hx hb d_Big_isZero_11 (by decide) ?_
    cases hf
    exact hend 12 ls _ _ rfl d_Big_isZero_12 hP hD hS
  · have hf := zz_ifp hc hf
    refine lv_iconst (v := 1) hx hb d_Big_isZero_7 (by decide) ?_
    refine lv_goto (tgt := 12) hx hb d_Big_isZero_8 (by decide) ?_
    cases hf
    exact hend 12 ls _ _ rfl d_Big_isZero_12 hP hD hS
abbrev ws_Big_bitLength : List Cond := .code y_Big_bitLength prog_2_method_5_code 4 (some .int) :: zw
abbrev rm_Big_bitLength : Room := { frames := 1, cells := 0, slots := 0, locals := 21 }
theorem hd_Big_bitLength : y_Big_bitLength.cls = "RealText$Big" ∧ y_Big_bitLength.cls ≠ "java/lang/invoke/MethodHandle" ∧ y_Big_bitLength.cls ≠ "java/lang/invoke/VarHandle" ∧ (parseMethodDescriptor y_Big_bitLength.desc).map (fun d => d.parameters.length) = some 0 := by decide +kernel
theorem d_Big_bitLength_0 : decode prog_2_method_5_code 0 = .ok (.aload_n 0, 1) := by decide +kernel
theorem d_Big_bitLength_1 : decode prog_2_method_5_code 1 = .ok (.getfield 13, 3) := by decide +kernel
theorem d_Big_bitLength_4 : decode prog_2_method_5_code 4 = .ok (.ifCond .ne 5, 3) := by decide +kernel
theorem d_Big_bitLength_7 : decode prog_2_method_5_code 7 = .ok (.iconst 0, 1) := by decide +kernel
theorem d_Big_bitLength_8 : decode prog_2_method_5_code 8 = .ok (.ireturn, 1) := by decide +kernel
theorem d_Big_bitLength_9 : decode prog_2_method_5_code 9 = .ok (.aload_n 0, 1) := by decide +kernel
theorem d_Big_bitLength_10 : decode prog_2_method_5_code 10 = .ok (.aload_n 0, 1) := by decide +kernel
theorem d_Big_bitLength_11 : decode prog_2_method_5_code 11 = .ok (.getfield 13, 3) := by decide +kernel
theorem d_Big_bitLength_14 : decode prog_2_method_5_code 14 = .ok (.iconst 1, 1) := by decide +kernel
theorem d_Big_bitLength_15 : decode prog_2_method_5_code 15 = .ok (.isub, 1) := by decide +kernel
theorem d_Big_bitLength_16 : decode prog_2_method_5_code 16 = .ok (.invokevirtual 38, 3) := by decide +kernel
theorem d_Big_bitLength_19 : decode prog_2_method_5_code 19 = .ok (.lstore_n 1, 1) := by decide +kernel
theorem d_Big_bitLength_20 : decode prog_2_method_5_code 20 = .ok (.iconst 1, 1) := by decide +kernel
theorem d_Big_bitLength_21 : decode prog_2_method_5_code 21 = .ok (.istore_n 3, 1) := by decide +kernel
theorem d_Big_bitLength_22 : decode prog_2_method_5_code 22 = .ok (.iload_n 3, 1) := by decide +kernel
theorem d_Big_bitLength_23 : decode prog_2_method_5_code 23 = .ok (.bipush 32, 2) := by decide +kernel
theorem d_Big_bitLength_25 : decode prog_2_method_5_code 25 = .ok (.if_icmp .ge 17, 3) := by decide +kernel
theorem d_Big_bitLength_28 : decode prog_2_method_5_code 28 = .ok (.lload_n 1, 1) := by decide +kernel
theorem d_Big_bitLength_29 : decode prog_2_method_5_code 29 = .ok (.iload_n 3, 1) := by decide +kernel
theorem d_Big_bitLength_30 : decode prog_2_method_5_code 30 = .ok (.lushr, 1) := by decide +kernel
theorem d_Big_bitLength_31 : decode prog_2_method_5_code 31 = .ok (.lconst 0, 1) := by decide +kernel
theorem d_Big_bitLength_32 : decode prog_2_method_5_code 32 = .ok (.lcmp, 1) := by decide +kernel
theorem d_Big_bitLength_33 : decode prog_2_method_5_code 33 = .ok (.ifCond .eq 9, 3) := by decide +kernel
theorem d_Big_bitLength_36 : decode prog_2_method_5_code 36 = .ok (.iinc 3 1, 3) := by decide +kernel
theorem d_Big_bitLength_39 : decode prog_2_method_5_code 39 = .ok (.goto (-17), 3) := by decide +kernel
theorem d_Big_bitLength_42 : decode prog_2_method_5_code 42 = .ok (.aload_n 0, 1) := by decide +kernel
theorem d_Big_bitLength_43 : decode prog_2_method_5_code 43 = .ok (.getfield 13, 3) := by decide +kernel
theorem d_Big_bitLength_46 : decode prog_2_method_5_code 46 = .ok (.iconst 1, 1) := by decide +kernel
theorem d_Big_bitLength_47 : decode prog_2_method_5_code 47 = .ok (.isub, 1) := by decide +kernel
theorem d_Big_bitLength_48 : decode prog_2_method_5_code 48 = .ok (.bipush 32, 2) := by decide +kernel
theorem d_Big_bitLength_50 : decode prog_2_method_5_code 50 = .ok (.imul, 1) := by decide +kernel
theorem d_Big_bitLength_51 : decode prog_2_method_5_code 51 = .ok (.iload_n 3, 1) := by decide +kernel
theorem d_Big_bitLength_52 : decode prog_2_method_5_code 52 = .ok (.iadd, 1) := by decide +kernel
theorem d_Big_bitLength_53 : decode prog_2_method_5_code 53 = .ok (.ireturn, 1) := by decide +kernel
def f_Big_bitLength_42 (fu : Nat) (n_v_limbs : Nat) (v_size : Int32) (v_limbs_a : Nat → Int32)  (y3 : Int32) : Option (Int32) :=
  some (((v_size - 1) * 32) + y3)
def f_Big_bitLength_22 (fu : Nat) (n_v_limbs : Nat) (v_size : Int32) (v_limbs_a : Nat → Int32)  : Nat → Int64 → Int32 → Option (Int32)
  | 0, _, _ => none
  | n + 1, y1, y3 =>
  (if 32 ≤ y3 then
  f_Big_bitLength_42 fu n_v_limbs v_size v_limbs_a y3
  else
  (if (lg_cmp ((y1.toUInt64 >>> (y3.toInt64.toUInt64 &&& Int64.toUInt64 63)).toInt64) 0) = 0 then
  f_Big_bitLength_42 fu n_v_limbs v_size v_limbs_a y3
  else
  f_Big_bitLength_22 fu n_v_limbs v_size v_limbs_a n y1 (y3 + 1)))
theorem f_Big_bitLength_22_s (fu : Nat) (n_v_limbs : Nat) (v_size : Int32) (v_limbs_a : Nat → Int32)  (n : Nat) (y1 : Int64) (y3 : Int32) : f_Big_bitLength_22 fu n_v_limbs v_size v_limbs_a (n + 1) y1 y3 =
  (if 32 ≤ y3 then
  f_Big_bitLength_42 fu n_v_limbs v_size v_limbs_a y3
  else
  (if (lg_cmp ((y1.toUInt64 >>> (y3.toInt64.toUInt64 &&& Int64.toUInt64 63)).toInt64) 0) = 0 then
  f_Big_bitLength_42 fu n_v_limbs v_size v_limbs_a y3
  else
  f_Big_bitLength_22 fu n_v_limbs v_size v_limbs_a n y1 (y3 + 1))) := rfl
def f_Big_bitLength (fu : Nat) (n_v_limbs : Nat) (v_size : Int32) (v_limbs_a : Nat → Int32) : Option (Int32) :=
  (if v_size = 0 then
  some (0)
  else
  (f_Big_limbAt n_v_limbs (v_size - 1) v_size v_limbs_a).bind fun u_1 =>
  f_Big_bitLength_22 fu n_v_limbs v_size v_limbs_a fu u_1 1)
set_option maxHeartbeats 4000000 in
set_option maxRecDepth 100000 in
theorem c_Big_bitLength (l : Launch) (dC : Nat → ClassId) (dI : Nat → Nat → Nat) (cI cC cB cJ : ClassId) (fu : Nat) (sz : Nat) (h_v : Nat) (h_v_limbs : Nat) (n_v_limbs : Nat) (v_size : Int32) (v_limbs_a : Nat → Int32) (u : Int32) (hf : f_Big_bitLength fu n_v_limbs v_size v_limbs_a = some u) : Met l y_Big_bitLength ws_Big_bitLength rm_Big_bitLength (zz_P zz_T (dC, dI) vwCl (zz_tys cI cC cB cJ) [.ref h_v] [(h_v, .inr (0, [.ref h_v_limbs, .int v_size])), (h_v_limbs, .inl (cI, n_v_limbs, .inl v_limbs_a))] sz) (zz_Qi (dC, dI) vwCl u [(h_v, .inr (0, [.ref h_v_limbs, .int v_size])), (h_v_limbs, .inl (cI, n_v_limbs, .inl v_limbs_a))] (va_A [(h_v, .inr (0, [.ref h_v_limbs, .int v_size])), (h_v_limbs, .inl (cI, n_v_limbs, .inl v_limbs_a))] sz)) 0 0 (va_A [(h_v, .inr (0, [.ref h_v_limbs, .int v_size])), (h_v_limbs, .inl (cI, n_v_limbs, .inl v_limbs_a))] sz) := by
  refine Met.ofW (cc := prog_2_method_5_code) (maxL := 4) (ret := (some .int)) (by decide +kernel) rfl ?_
  intro p e s m args below meth c s₁ B hml hv
  obtain ⟨rfl, hsz, hP, hK, hD0, hX⟩ := hv
  have hx := B.exec
  have hb := B.bytes
  have hr := B.returns
  have hts := atoms_spec (ws := ws_Big_bitLength) B.pre
  have hw : ∀ w ∈ zw, w.before [.ref h_v].toArray s = true := fun w h => hts w (List.mem_cons_of_mem _ h)
  have hown : s.vm.findClass R_Big = some m.cls := findClass_of_methodNamed B.named
  have hlocks := B.notSynchronized
  subst hsz
  have hD := hD0.self (sz := s.heap.size)
  generalize hAe : va_A [(h_v, .inr (0, [.ref h_v_limbs, .int v_size])), (h_v_limbs, .inl (cI, n_v_limbs, .inl v_limbs_a))] s.heap.size = A at hD hX ⊢
  have hA : ∀ q : Nat, s.heap.size ≤ q → A q := fun q h => by rw [← hAe]; exact Or.inr h
  have hS : va_S A s.heap s.heap [] := va_S.rf
  have hl := lv_entry [.ref h_v] (n := 4) (Nat.le_of_ble_eq_true rfl)
  rw [lg_entry_eq]
  generalize (lg_sl [.ref h_v] ++ List.replicate (4 - (lg_sl [.ref h_v]).length) Slot.unset).toArray = ls at hl ⊢
  have hl : lv_has ls 4 [(0, .ref h_v)] := hl
  refine zz_endi hx hb hr hlocks (fun Qq hend => ?_)
  have hL_42 : ∀ (y3 : Int32) (ls : Array Slot) (H : Heap) (locs : List Loc), lv_has ls 4 [(0, .ref h_v), (3, .int y3)] → va_P (dC, dI) vwCl [(h_v, .inr (0, [.ref h_v_limbs, .int v_size])), (h_v_limbs, .inl (cI, n_v_limbs, .inl v_limbs_a))] H → va_D A [(h_v, .inr (0, [.ref h_v_limbs, .int v_size])), (h_v_limbs, .inl (cI, n_v_limbs, .inl v_limbs_a))] → va_S A s.heap H locs → f_Big_bitLength_42 fu n_v_limbs v_size v_limbs_a y3 = some u → W p l e (headSpec ws_Big_bitLength rm_Big_bitLength).room s m [.ref h_v].toArray below meth c H locs 0 0 Qq (F0 m 42 ls []) := by
    intro y3 ls H locs hl hP hD hS hf
    unfold f_Big_bitLength_42 at hf
    refine lv_aload_n hx hb d_Big_bitLength_42 rfl (lv_at hl 0 rfl) ?_
    refine va_get (D := (dC, dI)) (ci := 0) (v := .int v_size) (C := R_Big) (T := T_Big) (N := 2) hx hb hw in_Big hown hK hP 0 rfl rfl 1 (by decide) (hw _ wd_91) (fun _ h9 => h9) rfl d_Big_bitLength_43 ?_
    refine lv_iconst (v := 1) hx hb d_Big_bitLength_46 (by decide) ?_
    refine lv_isub hx hb d_Big_bitLength_47 ?_
    refine lv_bipush (v := 32) hx hb d_Big_bitLength_48 (by decide) ?_
    refine lv_imul hx hb d_Big_bitLength_50 ?_
    refine lv_iload_n hx hb d_Big_bitLength_51 rfl (lv_at hl 1 rfl) ?_
    refine lv_iadd hx hb d_Big_bitLength_52 ?_
    cases hf
    exact hend 53 ls _ _ d_Big_bitLength_53 hP hD hS
  have hL_22 : ∀ (n : Nat), ∀ (y1 : Int64) (y3 : Int32) (ls : Array Slot) (H : Heap) (locs : List Loc), lv_has ls 4 [(0, .ref h_v), (1, .long y1), (3, .int y3)] → va_P (dC, dI) vwCl [(h_v, .inr (0, [.ref h_v_limbs, .int v_size])), (h_v_limbs, .inl (cI, n_v_limbs, .inl v_limbs_a))] H → va_D A [(h_v, .inr (0, [.ref h_v_limbs, .int v_size])), (h_v_limbs, .inl (cI, n_v_limbs, .inl v_limbs_a))] → va_S A s.heap H locs → f_Big_bitLength_22 fu n_v_limbs v_size v_limbs_a n y1 y3 = some u → W p l e (headSpec ws_Big_bitLength rm_Big_bitLength).room s m [.ref h_v].toArray below meth c H locs 0 0 Qq (F0 m 22 ls []) := by
    intro n
    induction n with
    | zero =>
      intro y1 y3 ls H locs hl hP hD hS hf
      exact zz_no hf
    | succ n ih =>
      intro y1 y3 ls H locs hl hP hD hS hf
      rw [f_Big_bitLength_22_s] at hf
      refine lv_iload_n hx hb d_Big_bitLength_22 rfl (lv_at hl 2 rfl) ?_
      refine lv_bipush (v := 32) hx hb d_Big_bitLength_23 (by decide) ?_
      refine lv_icmp_ge (tgt := 42) hx hb d_Big_bitLength_25 (by decide) (fun hc => ?_) (fun hc => ?_)
      · have hf := zz_ifp hc hf
        exact hL_42 y3 ls _ _ (lv_sub hl [0, 2] rfl) hP hD hS hf
      · have hf := zz_ifn hc hf
        refine lv_lload_n hx hb d_Big_bitLength_28 rfl (lv_at hl 1 rfl) ?_
        refine lv_iload_n hx hb d_Big_bitLength_29 rfl (lv_at hl 2 rfl) ?_
        refine lv_lushr hx hb d_Big_bitLength_30 rfl ?_
        refine lv_lconst (v := 0) hx hb d_Big_bitLength_31 (by decide) ?_
        refine W.lcmp hx hb d_Big_bitLength_32 ?_
        refine lv_if_eq (tgt := 42) hx hb d_Big_bitLength_33 (by decide) (fun hc => ?_) (fun hc => ?_)
        · have hf := zz_ifp hc hf
          exact hL_42 y3 ls _ _ (lv_sub hl [0, 2] rfl) hP hD hS hf
        · have hf := zz_ifn hc hf
          refine lv_iinc (k := 2) (v := y3 + 1) hx hb d_Big_bitLength_36 hl rfl rfl (by decide) rfl (fun ls hl => ?_)
          have hl : lv_has ls 4 [(3, .int (y3 + 1)), (0, .ref h_v), (1, .long y1)] := hl
          refine lv_goto (tgt := 22) hx hb d_Big_bitLength_39 (by decide) ?_
          exact ih y1 (y3 + 1) ls _ _ (lv_sub hl [1, 2, 0] rfl) hP hD hS hf
  unfold f_Big_bitLength at hf
  refine lv_aload_n hx hb d_Big_bitLength_0 rfl (lv_at hl 0 rfl) ?_
  refine va_get (D := (dC, dI)) (ci := 0) (v := .int v_size) (C := R_Big) (T := T_Big) (N := 2) hx hb hw in_Big hown hK hP 0 rfl rfl 1 (by decide) (hw _ wd_91) (fun _ h9 => h9) rfl d_Big_bitLength_1 ?_
  refine lv_if_ne (tgt := 9) hx hb d_Big_bitLength_4 (by decide) (fun hc => ?_) (fun hc => ?_)
  · have hf := zz_ifn hc hf
    refine lv_aload_n hx hb d_Big_bitLength_9 rfl (lv_at hl 0 rfl) ?_
    refine lv_aload_n hx hb d_Big_bitLength_10 rfl (lv_at hl 0 rfl) ?_
    refine va_get (D := (dC, dI)) (ci := 0) (v := .int v_size) (C := R_Big) (T := T_Big) (N := 2) hx hb hw in_Big hown hK hP 0 rfl rfl 1 (by decide) (hw _ wd_91) (fun _ h9 => h9) rfl d_Big_bitLength_11 ?_
    refine lv_iconst (v := 1) hx hb d_Big_bitLength_14 (by decide) ?_
    refine lv_isub hx hb d_Big_bitLength_15 ?_
    obtain ⟨u_1, hu_1, hf⟩ := zz_bd hf
    refine zz_cl (ws' := [(h_v, .inr (0, [.ref h_v_limbs, .int v_size])), (h_v_limbs, .inl (cI, n_v_limbs, .inl v_limbs_a))]) (wc := [(h_v, .inr (0, [.ref h_v_limbs, .int v_size])), (h_v_limbs, .inl (cI, n_v_limbs, .inl v_limbs_a))]) (w' := [(h_v, .inr (0, [.ref h_v_limbs, .int v_size])), (h_v_limbs, .inl (cI, n_v_limbs, .inl v_limbs_a))]) hP hD hS hA [0, 1] [] [0, 1] rfl rfl (by decide) (by decide) rfl (by decide) (va_runV (As := [.int (v_size - 1)]) (rest := []) ⟨hx, hb, hml, hown, hw⟩ (c_Big_limbAt l dC dI cI cC cB cJ _ h_v h_v_limbs n_v_limbs (v_size - 1) v_size v_limbs_a u_1 hu_1) (cwV 1 hw (zg_V wd_339 wd_341 we_0_6 wd_5 wd_342) rfl rfl rfl hd_Big_limbAt ⟨Nat.le_of_ble_eq_true rfl, Nat.le_of_ble_eq_true rfl⟩) (zz_preV zz_TE (va_recv (q0 := 0) (ci := 0) hK hP rfl rfl) hP hD hK hS hA trivial [0, 1] rfl (by decide)) rfl rfl hl.1 rfl (lv_room (Nat.le_of_ble_eq_true rfl)) d_Big_bitLength_16 ⟨Nat.zero_le _, Nat.zero_le _⟩) (fun H locs hP hD hS => ?_)
    refine lv_lstore_n hx hb d_Big_bitLength_19 rfl hl (by decide) rfl (fun ls hl => ?_)
    have hl : lv_has ls 4 [(1, .long u_1), (0, .ref h_v)] := hl
    refine lv_iconst (v := 1) hx hb d_Big_bitLength_20 (by decide) ?_
    refine lv_istore_n hx hb d_Big_bitLength_21 rfl hl (by decide) rfl (fun ls hl => ?_)
    have hl : lv_has ls 4 [(3, .int 1), (1, .long u_1), (0, .ref h_v)] := hl
    exact hL_22 fu u_1 1 ls _ _ (lv_sub hl [2, 1, 0] rfl) hP hD hS hf
  · have hf := zz_ifp hc hf
    refine lv_iconst (v := 0) hx hb d_Big_bitLength_7 (by decide) ?_
    cases hf
    exact hend 8 ls _ _ d_Big_bitLength_8 hP hD hS
abbrev ws_Big_compare : List Cond := .code y_Big_compare prog_2_method_6_code 3 (some .int) :: zw
abbrev rm_Big_compare : Room := { frames := 1, cells := 0, slots := 0, locals := 21 }
theorem hd_Big_compare : y_Big_compare.cls = "RealText$Big" ∧ y_Big_compare.cls ≠ "java/lang/invoke/MethodHandle" ∧ y_Big_compare.cls ≠ "java/lang/invoke/VarHandle" ∧ (parseMethodDescriptor y_Big_compare.desc).map (fun d => d.parameters.length) = some 1 := by decide +kernel
theorem d_Big_compare_0 : decode prog_2_method_6_code 0 = .ok (.aload_n 0, 1) := by decide +kernel
theorem d_Big_compare_1 : decode prog_2_method_6_code 1 = .ok (.getfield 13, 3) := by decide +kernel
theorem d_Big_compare_4 : decode prog_2_method_6_code 4 = .ok (.aload_n 1, 1) := by decide +kernel
theorem d_Big_compare_5 : decode prog_2_method_6_code 5 = .ok (.getfield 13, 3) := by decide +kernel
theorem d_Big_compare_8 : decode prog_2_method_6_code 8 = .ok (.if_icmp .eq 13, 3) := by decide +kernel
theorem d_Big_compare_11 : decode prog_2_method_6_code 11 = .ok (.aload_n 0, 1) := by decide +kernel
theorem d_Big_compare_12 : decode prog_2_method_6_code 12 = .ok (.getfield 13, 3) := by decide +kernel
theorem d_Big_compare_15 : decode prog_2_method_6_code 15 = .ok (.aload_n 1, 1) := by decide +kernel
theorem d_Big_compare_16 : decode prog_2_method_6_code 16 = .ok (.getfield 13, 3) := by decide +kernel
theorem d_Big_compare_19 : decode prog_2_method_6_code 19 = .ok (.isub, 1) := by decide +kernel
theorem d_Big_compare_20 : decode prog_2_method_6_code 20 = .ok (.ireturn, 1) := by decide +kernel
theorem d_Big_compare_21 : decode prog_2_method_6_code 21 = .ok (.aload_n 0, 1) := by decide +kernel
theorem d_Big_compare_22 : decode prog_2_method_6_code 22 = .ok (.getfield 13, 3) := by decide +kernel
theorem d_Big_compare_25 : decode prog_2_method_6_code 25 = .ok (.iconst 1, 1) := by decide +kernel
theorem d_Big_compare_26 : decode prog_2_method_6_code 26 = .ok (.isub, 1) := by decide +kernel
theorem d_Big_compare_27 : decode prog_2_method_6_code 27 = .ok (.istore_n 2, 1) := by decide +kernel
theorem d_Big_compare_28 : decode prog_2_method_6_code 28 = .ok (.iload_n 2, 1) := by decide +kernel
theorem d_Big_compare_29 : decode prog_2_method_6_code 29 = .ok (.ifCond .lt 44, 3) := by decide +kernel
theorem d_Big_compare_32 : decode prog_2_method_6_code 32 = .ok (.aload_n 0, 1) := by decide +kernel
theorem d_Big_compare_33 : decode prog_2_method_6_code 33 = .ok (.getfield 7, 3) := by decide +kernel
theorem d_Big_compare_36 : decode prog_2_method_6_code 36 = .ok (.iload_n 2, 1) := by decide +kernel
theorem d_Big_compare_37 : decode prog_2_method_6_code 37 = .ok (.iaload, 1) := by decide +kernel
theorem d_Big_compare_38 : decode prog_2_method_6_code 38 = .ok (.aload_n 1, 1) := by decide +kernel
theorem d_Big_compare_39 : decode prog_2_method_6_code 39 = .ok (.getfield 7, 3) := by decide +kernel
theorem d_Big_compare_42 : decode prog_2_method_6_code 42 = .ok (.iload_n 2, 1) := by decide +kernel
theorem d_Big_compare_43 : decode prog_2_method_6_code 43 = .ok (.iaload, 1) := by decide +kernel
theorem d_Big_compare_44 : decode prog_2_method_6_code 44 = .ok (.if_icmp .eq 23, 3) := by decide +kernel
theorem d_Big_compare_47 : decode prog_2_method_6_code 47 = .ok (.aload_n 0, 1) := by decide +kernel
theorem d_Big_compare_48 : decode prog_2_method_6_code 48 = .ok (.iload_n 2, 1) := by decide +kernel
theorem d_Big_compare_49 : decode prog_2_method_6_code 49 = .ok (.invokevirtual 38, 3) := by decide +kernel
theorem d_Big_compare_52 : decode prog_2_method_6_code 52 = .ok (.aload_n 1, 1) := by decide +kernel
theorem d_Big_compare_53 : decode prog_2_method_6_code 53 = .ok (.iload_n 2, 1) := by decide +kernel
theorem d_Big_compare_54 : decode prog_2_method_6_code 54 = .ok (.invokevirtual 38, 3) := by decide +kernel
theorem d_Big_compare_57 : decode prog_2_method_6_code 57 = .ok (.lcmp, 1) := by decide +kernel
theorem d_Big_compare_58 : decode prog_2_method_6_code 58 = .ok (.ifCond .ge 7, 3) := by decide +kernel
theorem d_Big_compare_61 : decode prog_2_method_6_code 61 = .ok (.iconst (-1), 1) := by decide +kernel
theorem d_Big_compare_62 : decode prog_2_method_6_code 62 = .ok (.goto 4, 3) := by decide +kernel
theorem d_Big_compare_65 : decode prog_2_method_6_code 65 = .ok (.iconst 1, 1) := by decide +kernel
theorem d_Big_compare_66 : decode prog_2_method_6_code 66 = .ok (.ireturn, 1) := by decide +kernel
theorem d_Big_compare_67 : decode prog_2_method_6_code 67 = .ok (.iinc 2 (-1), 3) := by decide +kernel
theorem d_Big_compare_70 : decode prog_2_method_6_code 70 = .ok (.goto (-42), 3) := by decide +kernel
theorem d_Big_compare_73 : decode prog_2_method_6_code 73 = .ok (.iconst 0, 1) := by decide +kernel
theorem d_Big_compare_74 : decode prog_2_method_6_code 74 = .ok (.ireturn, 1) := by decide +kernel
def f_Big_compare_28 (fu : Nat) (n_v_limbs : Nat) (n_w1_limbs : Nat) (v_size : Int32) (v_limbs_a : Nat → Int32) (w1_size : Int32) (w1_limbs_a : Nat → Int32)  : Nat → Int32 → Option (Int32)
  | 0, _ => none
  | n + 1, y2 =>
  (if y2 < 0 then
  some (0)
  else
  if zz_in y2 n_v_limbs = true then
  if zz_in y2 n_w1_limbs = true then
  (if (v_limbs_a y2.toNatClampNeg) = (w1_limbs_a y2.toNatClampNeg) then
  f_Big_compare_28 fu n_v_limbs n_w1_limbs v_size v_limbs_a w1_size w1_limbs_a n (y2 + (-1))
  else
  (f_Big_limbAt n_v_limbs y2 v_size v_limbs_a).bind fun u_4 =>
  (f_Big_limbAt n_w1_limbs y2 w1_size w1_limbs_a).bind fun u_5 =>
  (if 0 ≤ (lg_cmp u_4 u_5) then
  some (1)
  else
  some ((-1))))
  else none
  else none)
theorem f_Big_compare_28_s (fu : Nat) (n_v_limbs : Nat) (n_w1_limbs : Nat) (v_size : Int32) (v_limbs_a : Nat → Int32) (w1_size : Int32) (w1_limbs_a : Nat → Int32)  (n : Nat) (y2 : Int32) : f_Big_compare_28 fu n_v_limbs n_w1_limbs v_size v_limbs_a w1_size w1_limbs_a (n + 1) y2 =
  (if y2 < 0 then
  some (0)
  else
  if zz_in y2 n_v_limbs = true then
  if zz_in y2 n_w1_limbs = true then
  (if (v_limbs_a y2.toNatClampNeg) = (w1_limbs_a y2.toNatClampNeg) then
  f_Big_compare_28 fu n_v_limbs n_w1_limbs v_size v_limbs_a w1_size w1_limbs_a n (y2 + (-1))
  else
  (f_Big_limbAt n_v_limbs y2 v_size v_limbs_a).bind fun u_4 =>
  (f_Big_limbAt n_w1_limbs y2 w1_size w1_limbs_a).bind fun u_5 =>
  (if 0 ≤ (lg_cmp u_4 u_5) then
  some (1)
  else
  some ((-1))))
  else none
  else none) := rfl
def f_Big_compare (fu : Nat) (n_v_limbs : Nat) (n_w1_limbs : Nat) (v_size : Int32) (v_limbs_a : Nat → Int32) (w1_size : Int32) (w1_limbs_a : Nat → Int32) : Option (Int32) :=
  (if v_size = w1_size then
  zz_lt (v_size - 1) fun x2_1 =>
  f_Big_compare_28 fu n_v_limbs n_w1_limbs v_size v_limbs_a w1_size w1_limbs_a fu x2_1
  else
  some (v_size - w1_size))
set_option maxHeartbeats 4000000 in
set_option maxRecDepth 100000 in
theorem c_Big_compare (l : Launch) (dC : Nat → ClassId) (dI : Nat → Nat → Nat) (cI cC cB cJ : ClassId) (fu : Nat) (sz : Nat) (h_v : Nat) (h_v_limbs : Nat) (h_w1 : Nat) (h_w1_limbs : Nat) (n_v_limbs : Nat) (n_w1_limbs : Nat) (v_size : Int32) (v_limbs_a : Nat → Int32) (w1_size : Int32) (w1_limbs_a : Nat → Int32) (u : Int32) (hf : f_Big_compare fu n_v_limbs n_w1_limbs v_size v_limbs_a w1_size w1_limbs_a = some u) : Met l y_Big_compare ws_Big_compare rm_Big_compare (zz_P zz_T (dC, dI) vwCl (zz_tys cI cC cB cJ) [.ref h_v, .ref h_w1] [(h_v, .inr (0, [.ref h_v_limbs, .int v_size])), (h_v_limbs, .inl (cI, n_v_limbs, .inl v_limbs_a)), (h_w1, .inr (0, [.ref h_w1_limbs, .int w1_size])), (h_w1_limbs, .inl (cI, n_w1_limbs, .inl w1_limbs_a))] sz) (zz_Qi (dC, dI) vwCl u [(h_v, .inr (0, [.ref h_v_limbs, .int v_size])), (h_v_limbs, .inl (cI, n_v_limbs, .inl v_limbs_a)), (h_w1, .inr (0, [.ref h_w1_limbs, .int w1_size])), (h_w1_limbs, .inl (cI, n_w1_limbs, .inl w1_limbs_a))] (va_A [(h_v, .inr (0, [.ref h_v_limbs, .int v_size])), (h_v_limbs, .inl (cI, n_v_limbs, .inl v_limbs_a)), (h_w1, .inr (0, [.ref h_w1_limbs, .int w1_size])), (h_w1_limbs, .inl (cI, n_w1_limbs, .inl w1_limbs_a))] sz)) 0 0 (va_A [(h_v, .inr (0, [.ref h_v_limbs, .int v_size])), (h_v_limbs, .inl (cI, n_v_limbs, .inl v_limbs_a)), (h_w1, .inr (0, [.ref h_w1_limbs, .int w1_size])), (h_w1_limbs, .inl (cI, n_w1_limbs, .inl w1_limbs_a))] sz) := by
  refine Met.ofW (cc := prog_2_method_6_code) (maxL := 3) (ret := (some .int)) (by decide +kernel) rfl ?_
  intro p e s m args below meth c s₁ B hml hv
  obtain ⟨rfl, hsz, hP, hK, hD0, hX⟩ := hv
  have hx := B.exec
  have hb := B.bytes
  have hr := B.returns
  have hts := atoms_spec (ws := ws_Big_compare) B.pre
  have hw : ∀ w ∈ zw, w.before [.ref h_v, .ref h_w1].toArray s = true := fun w h => hts w (List.mem_cons_of_mem _ h)
  have hown : s.vm.findClass R_Big = some m.cls := findClass_of_methodNamed B.named
  have hlocks := B.notSynchronized
  subst hsz
  have hD := hD0.self (sz := s.heap.size)
  generalize hAe : va_A [(h_v, .inr (0, [.ref h_v_limbs, .int v_size])), (h_v_limbs, .inl (cI, n_v_limbs, .inl v_limbs_a)), (h_w1, .inr (0, [.ref h_w1_limbs, .int w1_size])), (h_w1_limbs, .inl (cI, n_w1_limbs, .inl w1_limbs_a))] s.heap.size = A at hD hX ⊢
  have hA : ∀ q : Nat, s.heap.size ≤ q → A q := fun q h => by rw [← hAe]; exact Or.inr h
  have hS : va_S A s.heap s.heap [] := va_S.rf
  have hl := lv_entry [.ref h_v, .ref h_w1] (n := 3) (Nat.le_of_ble_eq_true rfl)
  rw [lg_entry_eq]
  generalize (lg_sl [.ref h_v, .ref h_w1] ++ List.replicate (3 - (lg_sl [.ref h_v, .ref h_w1]).length) Slot.unset).toArray = ls at hl ⊢
  have hl : lv_has ls 3 [(0, .ref h_v), (1, .ref h_w1)] := hl
  refine zz_endi hx hb hr hlocks (fun Qq hend => ?_)
  have hL_28 : ∀ (n : Nat), ∀ (y2 : Int32) (ls : Array Slot) (H : Heap) (locs : List Loc), lv_has ls 3 [(0, .ref h_v), (1, .ref h_w1), (2, .int y2)] → va_P (dC, dI) vwCl [(h_v, .inr (0, [.ref h_v_limbs, .int v_size])), (h_v_limbs, .inl (cI, n_v_limbs, .inl v_limbs_a)), (h_w1, .inr (0, [.ref h_w1_limbs, .int w1_size])), (h_w1_limbs, .inl (cI, n_w1_limbs, .inl w1_limbs_a))] H → va_D A [(h_v, .inr (0, [.ref h_v_limbs, .int v_size])), (h_v_limbs, .inl (cI, n_v_limbs, .inl v_limbs_a)), (h_w1, .inr (0, [.ref h_w1_limbs, .int w1_size])), (h_w1_limbs, .inl (cI, n_w1_limbs, .inl w1_limbs_a))] → va_S A s.heap H locs → f_Big_compare_28 fu n_v_limbs n_w1_limbs v_size v_limbs_a w1_size w1_limbs_a n y2 = some u → W p l e (headSpec ws_Big_compare rm_Big_compare).room s m [.ref h_v, .ref h_w1].toArray below meth c H locs 0 0 Qq (F0 m 28 ls []) := by
    intro n
    induction n with
    | zero =>
      intro y2 ls H locs hl hP hD hS hf
      exact zz_no hf
    | succ n ih =>
      intro y2 ls H locs hl hP hD hS hf
      rw [f_Big_compare_28_s] at hf
      refine lv_iload_n hx hb d_Big_compare_28 rfl (lv_at hl 2 rfl) ?_
      refine lv_if_lt (tgt := 73) hx hb d_Big_compare_29 (by decide) (fun hc => ?_) (fun hc => ?_)
      · have hf := zz_ifp hc hf
        refine lv_iconst (v := 0) hx hb d_Big_compare_73 (by decide) ?_
        cases hf
        exact hend 74 ls _ _ d_Big_compare_74 hP hD hS
      · have hf := zz_ifn hc hf
        refine lv_aload_n hx hb d_Big_compare_32 rfl (lv_at hl 0 rfl) ?_
        refine va_get (D := (dC, dI)) (ci := 0) (v := .ref h_v_limbs) (C := R_Big) (T := T_Big) (N := 2) hx hb hw in_Big hown hK hP 0 rfl rfl 0 (by decide) (hw _ wd_90) (fun _ h9 => h9) rfl d_Big_compare_33 ?_
        refine lv_iload_n hx hb d_Big_compare_36 rfl (lv_at hl 2 rfl) ?_
        obtain ⟨hb_2, hf⟩ := zz_gd hf
        refine va_iald hx hb hK hP 1 0 rfl rfl (zz_vp hb_2) d_Big_compare_37 ?_
        refine lv_aload_n hx hb d_Big_compare_38 rfl (lv_at hl 1 rfl) ?_
        refine va_get (D := (dC, dI)) (ci := 0) (v := .ref h_w1_limbs) (C := R_Big) (T := T_Big) (N := 2) hx hb hw in_Big hown hK hP 2 rfl rfl 0 (by decide) (hw _ wd_90) (fun _ h9 => h9) rfl d_Big_compare_39 ?_
        refine lv_iload_n hx hb d_Big_compare_42 rfl (lv_at hl 2 rfl) ?_
        obtain ⟨hb_3, hf⟩ := zz_gd hf
        refine va_iald hx hb hK hP 3 0 rfl rfl (zz_vp hb_3) d_Big_compare_43 ?_
        refine lv_icmp_eq (tgt := 67) hx hb d_Big_compare_44 (by decide) (fun hc => ?_) (fun hc => ?_)
        · have hf := zz_ifp hc hf
          refine lv_iinc (k := 2) (v := y2 + (-1)) hx hb d_Big_compare_67 hl rfl rfl (by decide) rfl (fun ls hl => ?_)
          have hl : lv_has ls 3 [(2, .int (y2 + (-1))), (0, .ref h_v), (1, .ref h_w1)] := hl
          refine lv_goto (tgt := 28) hx hb d_Big_compare_70 (by decide) ?_
          exact ih (y2 + (-1)) ls _ _ (lv_sub hl [1, 2, 0] rfl) hP hD hS hf
        · have hf := zz_ifn hc hf
          refine lv_aload_n hx hb d_Big_compare_47 rfl (lv_at hl 0 rfl) ?_
          refine lv_iload_n hx hb d_Big_compare_48 rfl (lv_at hl 2 rfl) ?_
          obtain ⟨u_4, hu_4, hf⟩ := zz_bd hf
          refine zz_cl (ws' := [(h_v, .inr (0, [.ref h_v_limbs, .int v_size])), (h_v_limbs, .inl (cI, n_v_limbs, .inl v_limbs_a)), (h_w1, .inr (0, [.ref h_w1_limbs, .int w1_size])), (h_w1_limbs, .inl (cI, n_w1_limbs, .inl w1_limbs_a))]) (wc := [(h_v, .inr (0, [.ref h_v_limbs, .int v_size])), (h_v_limbs, .inl (cI, n_v_limbs, .inl v_limbs_a))]) (w' := [(h_v, .inr (0, [.ref h_v_limbs, .int v_size])), (h_v_limbs, .inl (cI, n_v_limbs, .inl v_limbs_a))]) hP hD hS hA [0, 1] [2, 3] [2, 3, 0, 1] rfl rfl (by decide) (by decide) rfl (by decide) (va_runV (As := [.int y2]) (rest := []) ⟨hx, hb, hml, hown, hw⟩ (c_Big_limbAt l dC dI cI cC cB cJ _ h_v h_v_limbs n_v_limbs y2 v_size v_limbs_a u_4 hu_4) (cwV 1 hw (zg_V wd_339 wd_341 we_0_6 wd_5 wd_342) rfl rfl rfl hd_Big_limbAt ⟨Nat.le_of_ble_eq_true rfl, Nat.le_of_ble_eq_true rfl⟩) (zz_preV zz_TE (va_recv (q0 := 0) (ci := 0) hK hP rfl rfl) hP hD hK hS hA trivial [0, 1] rfl (by decide)) rfl rfl hl.1 rfl (lv_room (Nat.le_of_ble_eq_true rfl)) d_Big_compare_49 ⟨Nat.zero_le _, Nat.zero_le _⟩) (fun H locs hP hD hS => ?_)
          refine lv_aload_n hx hb d_Big_compare_52 rfl (lv_at hl 1 rfl) ?_
          refine lv_iload_n hx hb d_Big_compare_53 rfl (lv_at hl 2 rfl) ?_
          obtain ⟨u_5, hu_5, hf⟩ := zz_bd hf
          refine zz_cl (ws' := [(h_v, .inr (0, [.ref h_v_limbs, .int v_size])), (h_v_limbs, .inl (cI, n_v_limbs, .inl v_limbs_a)), (h_w1, .inr (0, [.ref h_w1_limbs, .int w1_size])), (h_w1_limbs, .inl (cI, n_w1_limbs, .inl w1_limbs_a))]) (wc := [(h_w1, .inr (0, [.ref h_w1_limbs, .int w1_size])), (h_w1_limbs, .inl (cI, n_w1_limbs, .inl w1_limbs_a))]) (w' := [(h_w1, .inr (0, [.ref h_w1_limbs, .int w1_size])), (h_w1_limbs, .inl (cI, n_w1_limbs, .inl w1_limbs_a))]) hP hD hS hA [2, 3] [0, 1] [0, 1, 2, 3] rfl rfl (by decide) (by decide) rfl (by decide) (va_runV (As := [.int y2]) (rest := [.long u_4]) ⟨hx, hb, hml, hown, hw⟩ (c_Big_limbAt l dC dI cI cC cB cJ _ h_w1 h_w1_limbs n_w1_limbs y2 w1_size w1_limbs_a u_5 hu_5) (cwV 1 hw (zg_V wd_339 wd_341 we_0_6 wd_5 wd_342) rfl rfl rfl hd_Big_limbAt ⟨Nat.le_of_ble_eq_true rfl, Nat.le_of_ble_eq_true rfl⟩) (zz_preV zz_TE (va_recv (q0 := 2) (ci := 0) hK hP rfl rfl) hP hD hK hS hA trivial [2, 3] rfl (by decide)) rfl rfl hl.1 rfl (lv_room (Nat.le_of_ble_eq_true rfl)) d_Big_compare_54 ⟨Nat.zero_le _, Nat.zero_le _⟩) (fun H locs hP hD hS => ?_)
          refine W.lcmp hx hb d_Big_compare_57 ?_
          refine lv_if_ge (tgt := 65) hx hb d_Big_compare_58 (by decide) (fun hc => ?_) (fun hc => ?_)
          · have hf := zz_ifp hc hf
            refine lv_iconst (v := 1) hx hb d_Big_compare_65 (by decide) ?_
            cases hf
            exact hend 66 ls _ _ d_Big_compare_66 hP hD hS
          · have hf := zz_ifn hc hf
            refine lv_iconst (v := (-1)) hx hb d_Big_compare_61 (by decide) ?_
            refine lv_goto (tgt := 66) hx hb d_Big_compare_62 (by decide) ?_
            cases hf
            exact hend 66 ls _ _ d_Big_compare_66 hP hD hS
  unfold f_Big_compare at hf
  refine lv_aload_n hx hb d_Big_compare_0 rfl (lv_at hl 0 rfl) ?_
  refine va_get (D := (dC, dI)) (ci := 0) (v := .int v_size) (C := R_Big) (T := T_Big) (N := 2) hx hb hw in_Big hown hK hP 0 rfl rfl 1 (by decide) (hw _ wd_91) (fun _ h9 => h9) rfl d_Big_compare_1 ?_
  refine lv_aload_n hx hb d_Big_compare_4 rfl (lv_at hl 1 rfl) ?_
  refine va_get (D := (dC, dI)) (ci := 0) (v := .int w1_size) (C := R_Big) (T := T_Big) (N := 2) hx hb hw in_Big hown hK hP 2 rfl rfl 1 (by decide) (hw _ wd_91) (fun _ h9 => h9) rfl d_Big_compare_5 ?_
  refine lv_icmp_eq (tgt := 21) hx hb d_Big_compare_8 (by decide) (fun hc => ?_) (fun hc => ?_)
  · have hf := zz_ifp hc hf
    refine lv_aload_n hx hb d_Big_compare_21 rfl (lv_at hl 0 rfl) ?_
    refine va_get (D := (dC, dI)) (ci := 0) (v := .int v_size) (C := R_Big) (T := T_Big) (N := 2) hx hb hw in_Big hown hK hP 0 rfl rfl 1 (by decide) (hw _ wd_91) (fun _ h9 => h9) rfl d_Big_compare_22 ?_
    refine lv_iconst (v := 1) hx hb d_Big_compare_25 (by decide) ?_
    refine lv_isub hx hb d_Big_compare_26 ?_
    refine lv_topi (fun x2_1 e_x2_1 => ?_)
    have hf := zz_ltp hf x2_1 e_x2_1
    refine lv_istore_n hx hb d_Big_compare_27 rfl hl (by decide) rfl (fun ls hl => ?_)
    have hl : lv_has ls 3 [(2, .int x2_1), (0, .ref h_v), (1, .ref h_w1)] := hl
    exact hL_28 fu x2_1 ls _ _ (lv_sub hl [1, 2, 0] rfl) hP hD hS hf
  · have hf := zz_ifn hc hf
    refine lv_aload_n hx hb d_Big_compare_11 rfl (lv_at hl 0 rfl) ?_
    refine va_get (D := (dC, dI)) (ci := 0) (v := .int v_size) (C := R_Big) (T := T_Big) (N := 2) hx hb hw in_Big hown hK hP 0 rfl rfl 1 (by decide) (hw _ wd_91) (fun _ h9 => h9) rfl d_Big_compare_12 ?_
    refine lv_aload_n hx hb d_Big_compare_15 rfl (lv_at hl 1 rfl) ?_
    refine va_get (D := (dC, dI)) (ci := 0) (v := .int w1_size) (C := R_Big) (T := T_Big) (N := 2) hx hb hw in_Big hown hK hP 2 rfl rfl 1 (by decide) (hw _ wd_91) (fun _ h9 => h9) rfl d_Big_compare_16 ?_
    refine lv_isub hx hb d_Big_compare_19 ?_
    cases hf
    exact hend 20 ls _ _ d_Big_compare_20 hP hD hS
abbrev ws_Big_add : List Cond := .code y_Big_add prog_2_method_7_code 6 none :: zw
abbrev rm_Big_add : Room := { frames := 2, cells := 0, slots := 0, locals := 45 }
theorem hd_Big_add : y_Big_add.cls = "RealText$Big" ∧ y_Big_add.cls ≠ "java/lang/invoke/MethodHandle" ∧ y_Big_add.cls ≠ "java/lang/invoke/VarHandle" ∧ (parseMethodDescriptor y_Big_add.desc).map (fun d => d.parameters.length) = some 1 := by decide +kernel
theorem d_Big_add_0 : decode prog_2_method_7_code 0 = .ok (.lconst 0, 1) := by decide +kernel
theorem d_Big_add_1 : decode prog_2_method_7_code 1 = .ok (.lstore_n 2, 1) := by decide +kernel
theorem d_Big_add_2 : decode prog_2_method_7_code 2 = .ok (.aload_n 0, 1) := by decide +kernel
theorem d_Big_add_3 : decode prog_2_method_7_code 3 = .ok (.getfield 13, 3) := by decide +kernel
theorem d_Big_add_6 : decode prog_2_method_7_code 6 = .ok (.aload_n 1, 1) := by decide +kernel
theorem d_Big_add_7 : decode prog_2_method_7_code 7 = .ok (.getfield 13, 3) := by decide +kernel
theorem d_Big_add_10 : decode prog_2_method_7_code 10 = .ok (.invokestatic 42, 3) := by decide +kernel
theorem d_Big_add_13 : decode prog_2_method_7_code 13 = .ok (.istore 4, 2) := by decide +kernel
theorem d_Big_add_15 : decode prog_2_method_7_code 15 = .ok (.iconst 0, 1) := by decide +kernel
theorem d_Big_add_16 : decode prog_2_method_7_code 16 = .ok (.istore 5, 2) := by decide +kernel
theorem d_Big_add_18 : decode prog_2_method_7_code 18 = .ok (.iload 5, 2) := by decide +kernel
theorem d_Big_add_20 : decode prog_2_method_7_code 20 = .ok (.iload 4, 2) := by decide +kernel
theorem d_Big_add_22 : decode prog_2_method_7_code 22 = .ok (.if_icmp .ge 37, 3) := by decide +kernel
theorem d_Big_add_25 : decode prog_2_method_7_code 25 = .ok (.lload_n 2, 1) := by decide +kernel
theorem d_Big_add_26 : decode prog_2_method_7_code 26 = .ok (.aload_n 0, 1) := by decide +kernel
theorem d_Big_add_27 : decode prog_2_method_7_code 27 = .ok (.iload 5, 2) := by decide +kernel
theorem d_Big_add_29 : decode prog_2_method_7_code 29 = .ok (.invokevirtual 38, 3) := by decide +kernel
theorem d_Big_add_32 : decode prog_2_method_7_code 32 = .ok (.aload_n 1, 1) := by decide +kernel
theorem d_Big_add_33 : decode prog_2_method_7_code 33 = .ok (.iload 5, 2) := by decide +kernel
theorem d_Big_add_35 : decode prog_2_method_7_code 35 = .ok (.invokevirtual 38, 3) := by decide +kernel
theorem d_Big_add_38 : decode prog_2_method_7_code 38 = .ok (.ladd, 1) := by decide +kernel
theorem d_Big_add_39 : decode prog_2_method_7_code 39 = .ok (.ladd, 1) := by decide +kernel
theorem d_Big_add_40 : decode prog_2_method_7_code 40 = .ok (.lstore_n 2, 1) := by decide +kernel
theorem d_Big_add_41 : decode prog_2_method_7_code 41 = .ok (.aload_n 0, 1) := by decide +kernel
theorem d_Big_add_42 : decode prog_2_method_7_code 42 = .ok (.iload 5, 2) := by decide +kernel
theorem d_Big_add_44 : decode prog_2_method_7_code 44 = .ok (.lload_n 2, 1) := by decide +kernel
theorem d_Big_add_45 : decode prog_2_method_7_code 45 = .ok (.invokevirtual 45, 3) := by decide +kernel
theorem d_Big_add_48 : decode prog_2_method_7_code 48 = .ok (.lload_n 2, 1) := by decide +kernel
theorem d_Big_add_49 : decode prog_2_method_7_code 49 = .ok (.bipush 32, 2) := by decide +kernel
theorem d_Big_add_51 : decode prog_2_method_7_code 51 = .ok (.lushr, 1) := by decide +kernel
theorem d_Big_add_52 : decode prog_2_method_7_code 52 = .ok (.lstore_n 2, 1) := by decide +kernel
theorem d_Big_add_53 : decode prog_2_method_7_code 53 = .ok (.iinc 5 1, 3) := by decide +kernel
theorem d_Big_add_56 : decode prog_2_method_7_code 56 = .ok (.goto (-38), 3) := by decide +kernel
theorem d_Big_add_59 : decode prog_2_method_7_code 59 = .ok (.lload_n 2, 1) := by decide +kernel
theorem d_Big_add_60 : decode prog_2_method_7_code 60 = .ok (.lconst 0, 1) := by decide +kernel
theorem d_Big_add_61 : decode prog_2_method_7_code 61 = .ok (.lcmp, 1) := by decide +kernel
theorem d_Big_add_62 : decode prog_2_method_7_code 62 = .ok (.ifCond .eq 8, 3) := by decide +kernel
theorem d_Big_add_65 : decode prog_2_method_7_code 65 = .ok (.aload_n 0, 1) := by decide +kernel
theorem d_Big_add_66 : decode prog_2_method_7_code 66 = .ok (.lload_n 2, 1) := by decide +kernel
theorem d_Big_add_67 : decode prog_2_method_7_code 67 = .ok (.invokevirtual 19, 3) := by decide +kernel
theorem d_Big_add_70 : decode prog_2_method_7_code 70 = .ok (.return_, 1) := by decide +kernel
def f_Big_add_18 (fu : Nat) (n_v_limbs : Nat) (n_w1_limbs : Nat) (w1_size : Int32) (w1_limbs_a : Nat → Int32)  : Nat → Int64 → Int32 → Int32 → Int32 → (Nat → Int32) → Option (Int32 × (Nat → Int32))
  | 0, _, _, _, _, _ => none
  | n + 1, y2, y4, y5, v_size, v_limbs_a =>
  (if y4 ≤ y5 then
  (if (lg_cmp y2 0) = 0 then
  some (v_size, v_limbs_a)
  else
  (f_Big_addLimb n_v_limbs y2 v_size v_limbs_a).bind fun u_2 =>
  some (u_2.1, u_2.2))
  else
  (f_Big_limbAt n_v_limbs y5 v_size v_limbs_a).bind fun u_3 =>
  (f_Big_limbAt n_w1_limbs y5 w1_size w1_limbs_a).bind fun u_4 =>
  zz_lt (y2 + (u_3 + u_4)) fun x2_5 =>
  (f_Big_setLimb n_v_limbs y5 x2_5 v_size v_limbs_a).bind fun u_6 =>
  zz_lt ((x2_5.toUInt64 >>> ((32 : Int32).toInt64.toUInt64 &&& Int64.toUInt64 63)).toInt64) fun x2_7 =>
  f_Big_add_18 fu n_v_limbs n_w1_limbs w1_size w1_limbs_a n x2_7 y4 (y5 + 1) u_6.1 u_6.2)
theorem f_Big_add_18_s (fu : Nat) (n_v_limbs : Nat) (n_w1_limbs : Nat) (w1_size : Int32) (w1_limbs_a : Nat → Int32)  (n : Nat) (y2 : Int64) (y4 : Int32) (y5 : Int32) (v_size : Int32) (v_limbs_a : Nat → Int32) : f_Big_add_18 fu n_v_limbs n_w1_limbs w1_size w1_limbs_a (n + 1) y2 y4 y5 v_size v_limbs_a =
  (if y4 ≤ y5 then
  (if (lg_cmp y2 0) = 0 then
  some (v_size, v_limbs_a)
  else
  (f_Big_addLimb n_v_limbs y2 v_size v_limbs_a).bind fun u_2 =>
  some (u_2.1, u_2.2))
  else
  (f_Big_limbAt n_v_limbs y5 v_size v_limbs_a).bind fun u_3 =>
  (f_Big_limbAt n_w1_limbs y5 w1_size w1_limbs_a).bind fun u_4 =>
  zz_lt (y2 + (u_3 + u_4)) fun x2_5 =>
  (f_Big_setLimb n_v_limbs y5 x2_5 v_size v_limbs_a).bind fun u_6 =>
  zz_lt ((x2_5.toUInt64 >>> ((32 : Int32).toInt64.toUInt64 &&& Int64.toUInt64 63)).toInt64) fun x2_7 =>
  f_Big_add_18 fu n_v_limbs n_w1_limbs w1_size w1_limbs_a n x2_7 y4 (y5 + 1) u_6.1 u_6.2) := rfl
def f_Big_add (fu : Nat) (n_v_limbs : Nat) (n_w1_limbs : Nat) (v_size : Int32) (v_limbs_a : Nat → Int32) (w1_size : Int32) (w1_limbs_a : Nat → Int32) : Option (Int32 × (Nat → Int32)) :=
  (f_Mat_max v_size w1_size).bind fun u_1 =>
  f_Big_add_18 fu n_v_limbs n_w1_limbs w1_size w1_limbs_a fu 0 u_1 0 v_size v_limbs_a
set_option maxHeartbeats 4000000 in
set_option maxRecDepth 100000 in
theorem c_Big_add (l : Launch) (dC : Nat → ClassId) (dI : Nat → Nat → Nat) (cI cC cB cJ : ClassId) (fu : Nat) (sz : Nat) (h_v : Nat) (h_v_limbs : Nat) (h_w1 : Nat) (h_w1_limbs : Nat) (n_v_limbs : Nat) (n_w1_limbs : Nat) (v_size : Int32) (v_limbs_a : Nat → Int32) (w1_size : Int32) (w1_limbs_a : Nat → Int32) (u : Int32 × (Nat → Int32)) (hf : f_Big_add fu n_v_limbs n_w1_limbs v_size v_limbs_a w1_size w1_limbs_a = some u) : Met l y_Big_add ws_Big_add rm_Big_add (zz_P zz_T (dC, dI) vwCl (zz_tys cI cC cB cJ) [.ref h_v, .ref h_w1] [(h_v, .inr (0, [.ref h_v_limbs, .int v_size])), (h_v_limbs, .inl (cI, n_v_limbs, .inl v_limbs_a)), (h_w1, .inr (0, [.ref h_w1_limbs, .int w1_size])), (h_w1_limbs, .inl (cI, n_w1_limbs, .inl w1_limbs_a))] sz) (zz_Qv (dC, dI) vwCl [(h_v, .inr (0, [.ref h_v_limbs, .int u.1])), (h_v_limbs, .inl (cI, n_v_limbs, .inl u.2)), (h_w1, .inr (0, [.ref h_w1_limbs, .int w1_size])), (h_w1_limbs, .inl (cI, n_w1_limbs, .inl w1_limbs_a))] (va_A [(h_v, .inr (0, [.ref h_v_limbs, .int v_size])), (h_v_limbs, .inl (cI, n_v_limbs, .inl v_limbs_a)), (h_w1, .inr (0, [.ref h_w1_limbs, .int w1_size])), (h_w1_limbs, .inl (cI, n_w1_limbs, .inl w1_limbs_a))] sz)) 0 0 (va_A [(h_v, .inr (0, [.ref h_v_limbs, .int v_size])), (h_v_limbs, .inl (cI, n_v_limbs, .inl v_limbs_a)), (h_w1, .inr (0, [.ref h_w1_limbs, .int w1_size])), (h_w1_limbs, .inl (cI, n_w1_limbs, .inl w1_limbs_a))] sz) := by
  refine Met.ofW (cc := prog_2_method_7_code) (maxL := 6) (ret := none) (by decide +kernel) rfl ?_
  intro p e s m args below meth c s₁ B hml hv
  obtain ⟨rfl, hsz, hP, hK, hD0, hX⟩ := hv
  have hx := B.exec
  have hb := B.bytes
  have hr := B.returns
  have hts := atoms_spec (ws := ws_Big_add) B.pre
  have hw : ∀ w ∈ zw, w.before [.ref h_v, .ref h_w1].toArray s = true := fun w h => hts w (List.mem_cons_of_mem _ h)
  have hown : s.vm.findClass R_Big = some m.cls := findClass_of_methodNamed B.named
  have hlocks := B.notSynchronized
  subst hsz
  have hD := hD0.self (sz := s.heap.size)
  generalize hAe : va_A [(h_v, .inr (0, [.ref h_v_limbs, .int v_size])), (h_v_limbs, .inl (cI, n_v_limbs, .inl v_limbs_a)), (h_w1, .inr (0, [.ref h_w1_limbs, .int w1_size])), (h_w1_limbs, .inl (cI, n_w1_limbs, .inl w1_limbs_a))] s.heap.size = A at hD hX ⊢
  have hA : ∀ q : Nat, s.heap.size ≤ q → A q := fun q h => by rw [← hAe]; exact Or.inr h
  have hS : va_S A s.heap s.heap [] := va_S.rf
  have hl := lv_entry [.ref h_v, .ref h_w1] (n := 6) (Nat.le_of_ble_eq_true rfl)
  rw [lg_entry_eq]
  generalize (lg_sl [.ref h_v, .ref h_w1] ++ List.replicate (6 - (lg_sl [.ref h_v, .ref h_w1]).length) Slot.unset).toArray = ls at hl ⊢
  have hl : lv_has ls 6 [(0, .ref h_v), (1, .ref h_w1)] := hl
  refine zz_endv hx hb hr hlocks (fun Qq hend => ?_)
  have hL_18 : ∀ (n : Nat), ∀ (y2 : Int64) (y4 : Int32) (y5 : Int32) (v_size : Int32) (v_limbs_a : Nat → Int32) (ls : Array Slot) (H : Heap) (locs : List Loc), lv_has ls 6 [(0, .ref h_v), (1, .ref h_w1), (2, .long y2), (4, .int y4), (5, .int y5)] → va_P (dC, dI) vwCl [(h_v, .inr (0, [.ref h_v_limbs, .int v_size])), (h_v_limbs, .inl (cI, n_v_limbs, .inl v_limbs_a)), (h_w1, .inr (0, [.ref h_w1_limbs, .int w1_size])), (h_w1_limbs, .inl (cI, n_w1_limbs, .inl w1_limbs_a))] H → va_D A [(h_v, .inr (0, [.ref h_v_limbs, .int v_size])), (h_v_limbs, .inl (cI, n_v_limbs, .inl v_limbs_a)), (h_w1, .inr (0, [.ref h_w1_limbs, .int w1_size])), (h_w1_limbs, .inl (cI, n_w1_limbs, .inl w1_limbs_a))] → va_S A s.heap H locs → f_Big_add_18 fu n_v_limbs n_w1_limbs w1_size w1_limbs_a n y2 y4 y5 v_size v_limbs_a = some u → W p l e (headSpec ws_Big_add rm_Big_add).room s m [.ref h_v, .ref h_w1].toArray below meth c H locs 0 0 Qq (F0 m 18 ls []) := by
    intro n
    induction n with
    | zero =>
      intro y2 y4 y5 v_size v_limbs_a ls H locs hl hP hD hS hf
      exact zz_no hf
    | succ n ih =>
      intro y2 y4 y5 v_size v_limbs_a ls H locs hl hP hD hS hf
      rw [f_Big_add_18_s] at hf
      refine lv_iload hx hb d_Big_add_18 (lv_at hl 4 rfl) ?_
      refine lv_iload hx hb d_Big_add_20 (lv_at hl 3 rfl) ?_
      refine lv_icmp_ge (tgt := 59) hx hb d_Big_add_22 (by decide) (fun hc => ?_) (fun hc => ?_)
      · have hf := zz_ifp hc hf
        refine lv_lload_n hx hb d_Big_add_59 rfl (lv_at hl 2 rfl) ?_
        refine lv_lconst (v := 0) hx hb d_Big_add_60 (by decide) ?_
        refine W.lcmp hx hb d_Big_add_61 ?_
        refine lv_if_eq (tgt := 70) hx hb d_Big_add_62 (by decide) (fun hc => ?_) (fun hc => ?_)
        · have hf := zz_ifp hc hf
          cases hf
          exact hend 70 ls _ _ d_Big_add_70 hP hD hS
        · have hf := zz_ifn hc hf
          refine lv_aload_n hx hb d_Big_add_65 rfl (lv_at hl 0 rfl) ?_
          refine lv_lload_n hx hb d_Big_add_66 rfl (lv_at hl 2 rfl) ?_
          obtain ⟨u_2, hu_2, hf⟩ := zz_bd hf
          refine zz_cv (ws' := [(h_v, .inr (0, [.ref h_v_limbs, .int u_2.1])), (h_v_limbs, .inl (cI, n_v_limbs, .inl u_2.2)), (h_w1, .inr (0, [.ref h_w1_limbs, .int w1_size])), (h_w1_limbs, .inl (cI, n_w1_limbs, .inl w1_limbs_a))]) (wc := [(h_v, .inr (0, [.ref h_v_limbs, .int v_size])), (h_v_limbs, .inl (cI, n_v_limbs, .inl v_limbs_a))]) (w' := [(h_v, .inr (0, [.ref h_v_limbs, .int u_2.1])), (h_v_limbs, .inl (cI, n_v_limbs, .inl u_2.2))]) hP hD hS hA [0, 1] [2, 3] [2, 3, 0, 1] rfl rfl (by decide) (by decide) rfl (by decide) (va_runV (As := [.long y2]) (rest := []) ⟨hx, hb, hml, hown, hw⟩ (c_Big_addLimb l dC dI cI cC cB cJ _ h_v h_v_limbs n_v_limbs y2 v_size v_limbs_a u_2 hu_2) (cwV 1 hw (zg_V wd_327 wd_329 we_0_4 wd_5 wd_330) rfl rfl rfl hd_Big_addLimb ⟨Nat.le_of_ble_eq_true rfl, Nat.le_of_ble_eq_true rfl⟩) (zz_preV zz_TE (va_recv (q0 := 0) (ci := 0) hK hP rfl rfl) hP hD hK hS hA trivial [0, 1] rfl (by decide)) rfl rfl hl.1 rfl (lv_room (Nat.le_of_ble_eq_true rfl)) d_Big_add_67 ⟨Nat.zero_le _, Nat.zero_le _⟩) (fun H locs hP hD hS => ?_)
          cases hf
          exact hend 70 ls _ _ d_Big_add_70 hP hD hS
      · have hf := zz_ifn hc hf
        refine lv_lload_n hx hb d_Big_add_25 rfl (lv_at hl 2 rfl) ?_
        refine lv_aload_n hx hb d_Big_add_26 rfl (lv_at hl 0 rfl) ?_
        refine lv_iload hx hb d_Big_add_27 (lv_at hl 4 rfl) ?_
        obtain ⟨u_3, hu_3, hf⟩ := zz_bd hf
        refine zz_cl (ws' := [(h_v, .inr (0, [.ref h_v_limbs, .int v_size])), (h_v_limbs, .inl (cI, n_v_limbs, .inl v_limbs_a)), (h_w1, .inr (0, [.ref h_w1_limbs, .int w1_size])), (h_w1_limbs, .inl (cI, n_w1_limbs, .inl w1_limbs_a))]) (wc := [(h_v, .inr (0, [.ref h_v_limbs, .int v_size])), (h_v_limbs, .inl (cI, n_v_limbs, .inl v_limbs_a))]) (w' := [(h_v, .inr (0, [.ref h_v_limbs, .int v_size])), (h_v_limbs, .inl (cI, n_v_limbs, .inl v_limbs_a))]) hP hD hS hA [0, 1] [2, 3] [2, 3, 0, 1] rfl rfl (by decide) (by decide) rfl (by decide) (va_runV (As := [.int y5]) (rest := [.long y2]) ⟨hx, hb, hml, hown, hw⟩ (c_Big_limbAt l dC dI cI cC cB cJ _ h_v h_v_limbs n_v_limbs y5 v_size v_limbs_a u_3 hu_3) (cwV 1 hw (zg_V wd_339 wd_341 we_0_6 wd_5 wd_342) rfl rfl rfl hd_Big_limbAt ⟨Nat.le_of_ble_eq_true rfl, Nat.le_of_ble_eq_true rfl⟩) (zz_preV zz_TE (va_recv (q0 := 0) (ci := 0) hK hP rfl rfl) hP hD hK hS hA trivial [0, 1] rfl (by decide)) rfl rfl hl.1 rfl (lv_room (Nat.le_of_ble_eq_true rfl)) d_Big_add_29 ⟨Nat.zero_le _, Nat.zero_le _⟩) (fun H locs hP hD hS => ?_)
        refine lv_aload_n hx hb d_Big_add_32 rfl (lv_at hl 1 rfl) ?_
        refine lv_iload hx hb d_Big_add_33 (lv_at hl 4 rfl) ?_
        obtain ⟨u_4, hu_4, hf⟩ := zz_bd hf
        refine zz_cl (ws' := [(h_v, .inr (0, [.ref h_v_limbs, .int v_size])), (h_v_limbs, .inl (cI, n_v_limbs, .inl v_limbs_a)), (h_w1, .inr (0, [.ref h_w1_limbs, .int w1_size])), (h_w1_limbs, .inl (cI, n_w1_limbs, .inl w1_limbs_a))]) (wc := [(h_w1, .inr (0, [.ref h_w1_limbs, .int w1_size])), (h_w1_limbs, .inl (cI, n_w1_limbs, .inl w1_limbs_a))]) (w' := [(h_w1, .inr (0, [.ref h_w1_limbs, .int w1_size])), (h_w1_limbs, .inl (cI, n_w1_limbs, .inl w1_limbs_a))]) hP hD hS hA [2, 3] [0, 1] [0, 1, 2, 3] rfl rfl (by decide) (by decide) rfl (by decide) (va_runV (As := [.int y5]) (rest := [.long u_3, .long y2]) ⟨hx, hb, hml, hown, hw⟩ (c_Big_limbAt l dC dI cI cC cB cJ _ h_w1 h_w1_limbs n_w1_limbs y5 w1_size w1_limbs_a u_4 hu_4) (cwV 1 hw (zg_V wd_339 wd_341 we_0_6 wd_5 wd_342) rfl rfl rfl hd_Big_limbAt ⟨Nat.le_of_ble_eq_true rfl, Nat.le_of_ble_eq_true rfl⟩) (zz_preV zz_TE (va_recv (q0 := 2) (ci := 0) hK hP rfl rfl) hP hD hK hS hA trivial [2, 3] rfl (by decide)) rfl rfl hl.1 rfl (lv_room (Nat.le_of_ble_eq_true rfl)) d_Big_add_35 ⟨Nat.zero_le _, Nat.zero_le _⟩) (fun H locs hP hD hS => ?_)
        refine lv_ladd hx hb d_Big_add_38 ?_
        refine lv_ladd hx hb d_Big_add_39 ?_
        refine lv_topl (fun x2_5 e_x2_5 => ?_)
        have hf := zz_ltp hf x2_5 e_x2_5
        refine lv_lstore_n hx hb d_Big_add_40 rfl hl (by decide) rfl (fun ls hl => ?_)
        have hl : lv_has ls 6 [(2, .long x2_5), (0, .ref h_v), (1, .ref h_w1), (4, .int y4), (5, .int y5)] := hl
        refine lv_aload_n hx hb d_Big_add_41 rfl (lv_at hl 1 rfl) ?_
        refine lv_iload hx hb d_Big_add_42 (lv_at hl 4 rfl) ?_
        refine lv_lload_n hx hb d_Big_add_44 rfl (lv_at hl 0 rfl) ?_
        obtain ⟨u_6, hu_6, hf⟩ := zz_bd hf
        refine zz_cv (ws' := [(h_v, .inr (0, [.ref h_v_limbs, .int u_6.1])), (h_v_limbs, .inl (cI, n_v_limbs, .inl u_6.2)), (h_w1, .inr (0, [.ref h_w1_limbs, .int w1_size])), (h_w1_limbs, .inl (cI, n_w1_limbs, .inl w1_limbs_a))]) (wc := [(h_v, .inr (0, [.ref h_v_limbs, .int v_size])), (h_v_limbs, .inl (cI, n_v_limbs, .inl v_limbs_a))]) (w' := [(h_v, .inr (0, [.ref h_v_limbs, .int u_6.1])), (h_v_limbs, .inl (cI, n_v_limbs, .inl u_6.2))]) hP hD hS hA [0, 1] [2, 3] [2, 3, 0, 1] rfl rfl (by decide) (by decide) rfl (by decide) (va_runV (As := [.int y5, .long x2_5]) (rest := []) ⟨hx, hb, hml, hown, hw⟩ (c_Big_setLimb l dC dI cI cC cB cJ _ h_v h_v_limbs n_v_limbs y5 x2_5 v_size v_limbs_a u_6 hu_6) (cwV 2 hw (zg_V wd_405 wd_407 we_0_10 wd_5 wd_408) rfl rfl rfl hd_Big_setLimb ⟨Nat.le_of_ble_eq_true rfl, Nat.le_of_ble_eq_true rfl⟩) (zz_preV zz_TE (va_recv (q0 := 0) (ci := 0) hK hP rfl rfl) hP hD hK hS hA trivial [0, 1] rfl (by decide)) rfl rfl hl.1 rfl (lv_room (Nat.le_of_ble_eq_true rfl)) d_Big_add_45 ⟨Nat.zero_le _, Nat.zero_le _⟩) (fun H locs hP hD hS => ?_)
        refine lv_lload_n hx hb d_Big_add_48 rfl (lv_at hl 0 rfl) ?_
        refine lv_bipush (v := 32) hx hb d_Big_add_49 (by decide) ?_
        refine lv_lushr hx hb d_Big_add_51 rfl ?_
        refine lv_topl (fun x2_7 e_x2_7 => ?_)
        have hf := zz_ltp hf x2_7 e_x2_7
        refine lv_lstore_n hx hb d_Big_add_52 rfl hl (by decide) rfl (fun ls hl => ?_)
        have hl : lv_has ls 6 [(2, .long x2_7), (0, .ref h_v), (1, .ref h_w1), (4, .int y4), (5, .int y5)] := hl
        refine lv_iinc (k := 4) (v := y5 + 1) hx hb d_Big_add_53 hl rfl rfl (by decide) rfl (fun ls hl => ?_)
        have hl : lv_has ls 6 [(5, .int (y5 + 1)), (2, .long x2_7), (0, .ref h_v), (1, .ref h_w1), (4, .int y4)] := hl
        refine lv_goto (tgt := 18) hx hb d_Big_add_56 (by decide) ?_
        exact ih x2_7 y4 (y5 + 1) u_6.1 u_6.2 ls _ _ (lv_sub hl [2, 3, 1, 4, 0] rfl) hP hD hS hf
  unfold f_Big_add at hf
  refine lv_lconst (v := 0) hx hb d_Big_add_0 (by decide) ?_
  refine lv_lstore_n hx hb d_Big_add_1 rfl hl (by decide) rfl (fun ls hl => ?_)
  have hl : lv_has ls 6 [(2, .long 0), (0, .ref h_v), (1, .ref h_w1)] := hl
  refine lv_aload_n hx hb d_Big_add_2 rfl (lv_at hl 1 rfl) ?_
  refine va_get (D := (dC, dI)) (ci := 0) (v := .int v_size) (C := R_Big) (T := T_Big) (N := 2) hx hb hw in_Big hown hK hP 0 rfl rfl 1 (by decide) (hw _ wd_91) (fun _ h9 => h9) rfl d_Big_add_3 ?_
  refine lv_aload_n hx hb d_Big_add_6 rfl (lv_at hl 2 rfl) ?_
  refine va_get (D := (dC, dI)) (ci := 0) (v := .int w1_size) (C := R_Big) (T := T_Big) (N := 2) hx hb hw in_Big hown hK hP 2 rfl rfl 1 (by decide) (hw _ wd_91) (fun _ h9 => h9) rfl d_Big_add_7 ?_
  obtain ⟨u_1, hu_1, hf⟩ := zz_bd hf
  refine zz_ci (ws' := [(h_v, .inr (0, [.ref h_v_limbs, .int v_size])), (h_v_limbs, .inl (cI, n_v_limbs, .inl v_limbs_a)), (h_w1, .inr (0, [.ref h_w1_limbs, .int w1_size])), (h_w1_limbs, .inl (cI, n_w1_limbs, .inl w1_limbs_a))]) (wc := []) (w' := []) hP hD hS hA [] [0, 1, 2, 3] [0, 1, 2, 3] rfl rfl (by decide) (by decide) rfl (by decide) (va_runS (As := [.int v_size, .int w1_size]) (rest := []) ⟨hx, hb, hml, hown, hw⟩ (c_Mat_max l dC dI cI cC cB cJ _ v_size w1_size u_1 hu_1) (va_cwS 2 hw (zg_S wd_404 wd_316 wd_16 wd_317) rfl rfl rfl hd_Mat_max ⟨Nat.le_of_ble_eq_true rfl, Nat.le_of_ble_eq_true rfl⟩) (zz_preS zz_TE hP hD hK hS hA trivial [] rfl (by decide)) rfl rfl hl.1 rfl (lv_room (Nat.le_of_ble_eq_true rfl)) d_Big_add_10 ⟨Nat.zero_le _, Nat.zero_le _⟩) (fun H locs hP hD hS => ?_)
  refine lv_istore hx hb d_Big_add_13 hl (by decide) rfl (fun ls hl => ?_)
  have hl : lv_has ls 6 [(4, .int u_1), (2, .long 0), (0, .ref h_v), (1, .ref h_w1)] := hl
  refine lv_iconst (v := 0) hx hb d_Big_add_15 (by decide) ?_
  refine lv_istore hx hb d_Big_add_16 hl (by decide) rfl (fun ls hl => ?_)
  have hl : lv_has ls 6 [(5, .int 0), (4, .int u_1), (2, .long 0), (0, .ref h_v), (1, .ref h_w1)] := hl
  exact hL_18 fu 0 u_1 0 v_size v_limbs_a ls _ _ (lv_sub hl [3, 4, 2, 1, 0] rfl) hP hD hS hf
abbrev ws_Big_subtract : List Cond := .code y_Big_subtract prog_2_method_8_code 7 none :: zw
abbrev rm_Big_subtract : Room := { frames := 1, cells := 0, slots := 0, locals := 21 }
theorem hd_Big_subtract : y_Big_subtract.cls = "RealText$Big" ∧ y_Big_subtract.cls ≠ "java/lang/invoke/MethodHandle" ∧ y_Big_subtract.cls ≠ "java/lang/invoke/VarHandle" ∧ (parseMethodDescriptor y_Big_subtract.desc).map (fun d => d.parameters.length) = some 1 := by decide +kernel
theorem d_Big_subtract_0 : decode prog_2_method_8_code 0 = .ok (.lconst 0, 1) := by decide +kernel
theorem d_Big_subtract_1 : decode prog_2_method_8_code 1 = .ok (.lstore_n 2, 1) := by decide +kernel
theorem d_Big_subtract_2 : decode prog_2_method_8_code 2 = .ok (.iconst 0, 1) := by decide +kernel
theorem d_Big_subtract_3 : decode prog_2_method_8_code 3 = .ok (.istore 4, 2) := by decide +kernel
theorem d_Big_subtract_5 : decode prog_2_method_8_code 5 = .ok (.iload 4, 2) := by decide +kernel
theorem d_Big_subtract_7 : decode prog_2_method_8_code 7 = .ok (.aload_n 0, 1) := by decide +kernel
theorem d_Big_subtract_8 : decode prog_2_method_8_code 8 = .ok (.getfield 13, 3) := by decide +kernel
theorem d_Big_subtract_11 : decode prog_2_method_8_code 11 = .ok (.if_icmp .ge 49, 3) := by decide +kernel
theorem d_Big_subtract_14 : decode prog_2_method_8_code 14 = .ok (.aload_n 0, 1) := by decide +kernel
theorem d_Big_subtract_15 : decode prog_2_method_8_code 15 = .ok (.iload 4, 2) := by decide +kernel
theorem d_Big_subtract_17 : decode prog_2_method_8_code 17 = .ok (.invokevirtual 38, 3) := by decide +kernel
theorem d_Big_subtract_20 : decode prog_2_method_8_code 20 = .ok (.aload_n 1, 1) := by decide +kernel
theorem d_Big_subtract_21 : decode prog_2_method_8_code 21 = .ok (.iload 4, 2) := by decide +kernel
theorem d_Big_subtract_23 : decode prog_2_method_8_code 23 = .ok (.invokevirtual 38, 3) := by decide +kernel
theorem d_Big_subtract_26 : decode prog_2_method_8_code 26 = .ok (.lsub, 1) := by decide +kernel
theorem d_Big_subtract_27 : decode prog_2_method_8_code 27 = .ok (.lload_n 2, 1) := by decide +kernel
theorem d_Big_subtract_28 : decode prog_2_method_8_code 28 = .ok (.lsub, 1) := by decide +kernel
theorem d_Big_subtract_29 : decode prog_2_method_8_code 29 = .ok (.lstore 5, 2) := by decide +kernel
theorem d_Big_subtract_31 : decode prog_2_method_8_code 31 = .ok (.aload_n 0, 1) := by decide +kernel
theorem d_Big_subtract_32 : decode prog_2_method_8_code 32 = .ok (.getfield 7, 3) := by decide +kernel
theorem d_Big_subtract_35 : decode prog_2_method_8_code 35 = .ok (.iload 4, 2) := by decide +kernel
theorem d_Big_subtract_37 : decode prog_2_method_8_code 37 = .ok (.lload 5, 2) := by decide +kernel
theorem d_Big_subtract_39 : decode prog_2_method_8_code 39 = .ok (.l2i, 1) := by decide +kernel
theorem d_Big_subtract_40 : decode prog_2_method_8_code 40 = .ok (.iastore, 1) := by decide +kernel
theorem d_Big_subtract_41 : decode prog_2_method_8_code 41 = .ok (.lload 5, 2) := by decide +kernel
theorem d_Big_subtract_43 : decode prog_2_method_8_code 43 = .ok (.lconst 0, 1) := by decide +kernel
theorem d_Big_subtract_44 : decode prog_2_method_8_code 44 = .ok (.lcmp, 1) := by decide +kernel
theorem d_Big_subtract_45 : decode prog_2_method_8_code 45 = .ok (.ifCond .ge 7, 3) := by decide +kernel
theorem d_Big_subtract_48 : decode prog_2_method_8_code 48 = .ok (.lconst 1, 1) := by decide +kernel
theorem d_Big_subtract_49 : decode prog_2_method_8_code 49 = .ok (.goto 4, 3) := by decide +kernel
theorem d_Big_subtract_52 : decode prog_2_method_8_code 52 = .ok (.lconst 0, 1) := by decide +kernel
theorem d_Big_subtract_53 : decode prog_2_method_8_code 53 = .ok (.lstore_n 2, 1) := by decide +kernel
theorem d_Big_subtract_54 : decode prog_2_method_8_code 54 = .ok (.iinc 4 1, 3) := by decide +kernel
theorem d_Big_subtract_57 : decode prog_2_method_8_code 57 = .ok (.goto (-52), 3) := by decide +kernel
theorem d_Big_subtract_60 : decode prog_2_method_8_code 60 = .ok (.aload_n 0, 1) := by decide +kernel
theorem d_Big_subtract_61 : decode prog_2_method_8_code 61 = .ok (.invokevirtual 23, 3) := by decide +kernel
theorem d_Big_subtract_64 : decode prog_2_method_8_code 64 = .ok (.return_, 1) := by decide +kernel
def f_Big_subtract_5 (fu : Nat) (n_v_limbs : Nat) (n_w1_limbs : Nat) (w1_size : Int32) (w1_limbs_a : Nat → Int32)  : Nat → Int64 → Int32 → Int32 → (Nat → Int32) → Option (Int32 × (Nat → Int32))
  | 0, _, _, _, _ => none
  | n + 1, y2, y4, v_size, v_limbs_a =>
  (if v_size ≤ y4 then
  (f_Big_trim fu n_v_limbs v_size v_limbs_a).bind fun u_1 =>
  some (u_1, v_limbs_a)
  else
  (f_Big_limbAt n_v_limbs y4 v_size v_limbs_a).bind fun u_2 =>
  (f_Big_limbAt n_w1_limbs y4 w1_size w1_limbs_a).bind fun u_3 =>
  zz_lt ((u_2 - u_3) - y2) fun x5_4 =>
  if zz_in y4 n_v_limbs = true then
  (if 0 ≤ (lg_cmp x5_4 0) then
  f_Big_subtract_5 fu n_v_limbs n_w1_limbs w1_size w1_limbs_a n 0 (y4 + 1) v_size (upd v_limbs_a y4.toNatClampNeg x5_4.toInt32)
  else
  f_Big_subtract_5 fu n_v_limbs n_w1_limbs w1_size w1_limbs_a n 1 (y4 + 1) v_size (upd v_limbs_a y4.toNatClampNeg x5_4.toInt32))
  else none)
theorem f_Big_subtract_5_s (fu : Nat) (n_v_limbs : Nat) (n_w1_limbs : Nat) (w1_size : Int32) (w1_limbs_a : Nat → Int32)  (n : Nat) (y2 : Int64) (y4 : Int32) (v_size : Int32) (v_limbs_a : Nat → Int32) : f_Big_subtract_5 fu n_v_limbs n_w1_limbs w1_size w1_limbs_a (n + 1) y2 y4 v_size v_limbs_a =
  (if v_size ≤ y4 then
  (f_Big_trim fu n_v_limbs v_size v_limbs_a).bind fun u_1 =>
  some (u_1, v_limbs_a)
  else
  (f_Big_limbAt n_v_limbs y4 v_size v_limbs_a).bind fun u_2 =>
  (f_Big_limbAt n_w1_limbs y4 w1_size w1_limbs_a).bind fun u_3 =>
  zz_lt ((u_2 - u_3) - y2) fun x5_4 =>
  if zz_in y4 n_v_limbs = true then
  (if 0 ≤ (lg_cmp x5_4 0) then
  f_Big_subtract_5 fu n_v_limbs n_w1_limbs w1_size w1_limbs_a n 0 (y4 + 1) v_size (upd v_limbs_a y4.toNatClampNeg x5_4.toInt32)
  else
  f_Big_subtract_5 fu n_v_limbs n_w1_limbs w1_size w1_limbs_a n 1 (y4 + 1) v_size (upd v_limbs_a y4.toNatClampNeg x5_4.toInt32))
  else none) := rfl
def f_Big_subtract (fu : Nat) (n_v_limbs : Nat) (n_w1_limbs : Nat) (v_size : Int32) (v_limbs_a : Nat → Int32) (w1_size : Int32) (w1_limbs_a : Nat → Int32) : Option (Int32 × (Nat → Int32)) :=
  f_Big_subtract_5 fu n_v_limbs n_w1_limbs w1_size w1_limbs_a fu 0 0 v_size v_limbs_a
set_option maxHeartbeats 4000000 in
set_option maxRecDepth 100000 in
theorem c_Big_subtract (l : Launch) (dC : Nat → ClassId) (dI : Nat → Nat → Nat) (cI cC cB cJ : ClassId) (fu : Nat) (sz : Nat) (h_v : Nat) (h_v_limbs : Nat) (h_w1 : Nat) (h_w1_limbs : Nat) (n_v_limbs : Nat) (n_w1_limbs : Nat) (v_size : Int32) (v_limbs_a : Nat → Int32) (w1_size : Int32) (w1_limbs_a : Nat → Int32) (u : Int32 × (Nat → Int32)) (hf : f_Big_subtract fu n_v_limbs n_w1_limbs v_size v_limbs_a w1_size w1_limbs_a = some u) : Met l y_Big_subtract ws_Big_subtract rm_Big_subtract (zz_P zz_T (dC, dI) vwCl (zz_tys cI cC cB cJ) [.ref h_v, .ref h_w1] [(h_v, .inr (0, [.ref h_v_limbs, .int v_size])), (h_v_limbs, .inl (cI, n_v_limbs, .inl v_limbs_a)), (h_w1, .inr (0, [.ref h_w1_limbs, .int w1_size])), (h_w1_limbs, .inl (cI, n_w1_limbs, .inl w1_limbs_a))] sz) (zz_Qv (dC, dI) vwCl [(h_v, .inr (0, [.ref h_v_limbs, .int u.1])), (h_v_limbs, .inl (cI, n_v_limbs, .inl u.2)), (h_w1, .inr (0, [.ref h_w1_limbs, .int w1_size])), (h_w1_limbs, .inl (cI, n_w1_limbs, .inl w1_limbs_a))] (va_A [(h_v, .inr (0, [.ref h_v_limbs, .int v_size])), (h_v_limbs, .inl (cI, n_v_limbs, .inl v_limbs_a)), (h_w1, .inr (0, [.ref h_w1_limbs, .int w1_size])), (h_w1_limbs, .inl (cI, n_w1_limbs, .inl w1_limbs_a))] sz)) 0 0 (va_A [(h_v, .inr (0, [.ref h_v_limbs, .int v_size])), (h_v_limbs, .inl (cI, n_v_limbs, .inl v_limbs_a)), (h_w1, .inr (0, [.ref h_w1_limbs, .int w1_size])), (h_w1_limbs, .inl (cI, n_w1_limbs, .inl w1_limbs_a))] sz) := by
  refine Met.ofW (cc := prog_2_method_8_code) (maxL := 7) (ret := none) (by decide +kernel) rfl ?_
  intro p e s m args below meth c s₁ B hml hv
  obtain ⟨rfl, hsz, hP, hK, hD0, hX⟩ := hv
  have hx := B.exec
  have hb := B.bytes
  have hr := B.returns
  have hts := atoms_spec (ws := ws_Big_subtract) B.pre
  have hw : ∀ w ∈ zw, w.before [.ref h_v, .ref h_w1].toArray s = true := fun w h => hts w (List.mem_cons_of_mem _ h)
  have hown : s.vm.findClass R_Big = some m.cls := findClass_of_methodNamed B.named
  have hlocks := B.notSynchronized
  subst hsz
  have hD := hD0.self (sz := s.heap.size)
  generalize hAe : va_A [(h_v, .inr (0, [.ref h_v_limbs, .int v_size])), (h_v_limbs, .inl (cI, n_v_limbs, .inl v_limbs_a)), (h_w1, .inr (0, [.ref h_w1_limbs, .int w1_size])), (h_w1_limbs, .inl (cI, n_w1_limbs, .inl w1_limbs_a))] s.heap.size = A at hD hX ⊢
  have hA : ∀ q : Nat, s.heap.size ≤ q → A q := fun q h => by rw [← hAe]; exact Or.inr h
  have hS : va_S A s.heap s.heap [] := va_S.rf
  have hl := lv_entry [.ref h_v, .ref h_w1] (n := 7) (Nat.le_of_ble_eq_true rfl)
  rw [lg_entry_eq]
  generalize (lg_sl [.ref h_v, .ref h_w1] ++ List.replicate (7 - (lg_sl [.ref h_v, .ref h_w1]).length) Slot.unset).toArray = ls at hl ⊢
  have hl : lv_has ls 7 [(0, .ref h_v), (1, .ref h_w1)] := hl
  refine zz_endv hx hb hr hlocks (fun Qq hend => ?_)
  have hL_5 : ∀ (n : Nat), ∀ (y2 : Int64) (y4 : Int32) (v_size : Int32) (v_limbs_a : Nat → Int32) (ls : Array Slot) (H : Heap) (locs : List Loc), lv_has ls 7 [(0, .ref h_v), (1, .ref h_w1), (2, .long y2), (4, .int y4)] → va_P (dC, dI) vwCl [(h_v, .inr (0, [.ref h_v_limbs, .int v_size])), (h_v_limbs, .inl (cI, n_v_limbs, .inl v_limbs_a)), (h_w1, .inr (0, [.ref h_w1_limbs, .int w1_size])), (h_w1_limbs, .inl (cI, n_w1_limbs, .inl w1_limbs_a))] H → va_D A [(h_v, .inr (0, [.ref h_v_limbs, .int v_size])), (h_v_limbs, .inl (cI, n_v_limbs, .inl v_limbs_a)), (h_w1, .inr (0, [.ref h_w1_limbs, .int w1_size])), (h_w1_limbs, .inl (cI, n_w1_limbs, .inl w1_limbs_a))] → va_S A s.heap H locs → f_Big_subtract_5 fu n_v_limbs n_w1_limbs w1_size w1_limbs_a n y2 y4 v_size v_limbs_a = some u → W p l e (headSpec ws_Big_subtract rm_Big_subtract).room s m [.ref h_v, .ref h_w1].toArray below meth c H locs 0 0 Qq (F0 m 5 ls []) := by
    intro n
    induction n with
    | zero =>
      intro y2 y4 v_size v_limbs_a ls H locs hl hP hD hS hf
      exact zz_no hf
    | succ n ih =>
      intro y2 y4 v_size v_limbs_a ls H locs hl hP hD hS hf
      rw [f_Big_subtract_5_s] at hf
      refine lv_iload hx hb d_Big_subtract_5 (lv_at hl 3 rfl) ?_
      refine lv_aload_n hx hb d_Big_subtract_7 rfl (lv_at hl 0 rfl) ?_
      refine va_get (D := (dC, dI)) (ci := 0) (v := .int v_size) (C := R_Big) (T := T_Big) (N := 2) hx hb hw in_Big hown hK hP 0 rfl rfl 1 (by decide) (hw _ wd_91) (fun _ h9 => h9) rfl d_Big_subtract_8 ?_
      refine lv_icmp_ge (tgt := 60) hx hb d_Big_subtract_11 (by decide) (fun hc => ?_) (fun hc => ?_)
      · have hf := zz_ifp hc hf
        refine lv_aload_n hx hb d_Big_subtract_60 rfl (lv_at hl 0 rfl) ?_
        obtain ⟨u_1, hu_1, hf⟩ := zz_bd hf
        refine zz_cv (ws' := [(h_v, .inr (0, [.ref h_v_limbs, .int u_1])), (h_v_limbs, .inl (cI, n_v_limbs, .inl v_limbs_a)), (h_w1, .inr (0, [.ref h_w1_limbs, .int w1_size])), (h_w1_limbs, .inl (cI, n_w1_limbs, .inl w1_limbs_a))]) (wc := [(h_v, .inr (0, [.ref h_v_limbs, .int v_size])), (h_v_limbs, .inl (cI, n_v_limbs, .inl v_limbs_a))]) (w' := [(h_v, .inr (0, [.ref h_v_limbs, .int u_1])), (h_v_limbs, .inl (cI, n_v_limbs, .inl v_limbs_a))]) hP hD hS hA [0, 1] [2, 3] [2, 3, 0, 1] rfl rfl (by decide) (by decide) rfl (by decide) (va_runV (As := []) (rest := []) ⟨hx, hb, hml, hown, hw⟩ (c_Big_trim l dC dI cI cC cB cJ fu _ h_v h_v_limbs n_v_limbs v_size v_limbs_a u_1 hu_1) (cwV 0 hw (zg_V wd_331 wd_333 we_0_5 wd_5 wd_334) rfl rfl rfl hd_Big_trim ⟨Nat.le_of_ble_eq_true rfl, Nat.le_of_ble_eq_true rfl⟩) (zz_preV zz_TE (va_recv (q0 := 0) (ci := 0) hK hP rfl rfl) hP hD hK hS hA trivial [0, 1] rfl (by decide)) rfl rfl hl.1 rfl (lv_room (Nat.le_of_ble_eq_true rfl)) d_Big_subtract_61 ⟨Nat.zero_le _, Nat.zero_le _⟩) (fun H locs hP hD hS => ?_)
        cases hf
        exact hend 64 ls _ _ d_Big_subtract_64 hP hD hS
      · have hf := zz_ifn hc hf
        refine lv_aload_n hx hb d_Big_subtract_14 rfl (lv_at hl 0 rfl) ?_
        refine lv_iload hx hb d_Big_subtract_15 (lv_at hl 3 rfl) ?_
        obtain ⟨u_2, hu_2, hf⟩ := zz_bd hf
        refine zz_cl (ws' := [(h_v, .inr (0, [.ref h_v_limbs, .int v_size])), (h_v_limbs, .inl (cI, n_v_limbs, .inl v_limbs_a)), (h_w1, .inr (0, [.ref h_w1_limbs, .int w1_size])), (h_w1_limbs, .inl (cI, n_w1_limbs, .inl w1_limbs_a))]) (wc := [(h_v, .inr (0, [.ref h_v_limbs, .int v_size])), (h_v_limbs, .inl (cI, n_v_limbs, .inl v_limbs_a))]) (w' := [(h_v, .inr (0, [.ref h_v_limbs, .int v_size])), (h_v_limbs, .inl (cI, n_v_limbs, .inl v_limbs_a))]) hP hD hS hA [0, 1] [2, 3] [2, 3, 0, 1] rfl rfl (by decide) (by decide) rfl (by decide) (va_runV (As := [.int y4]) (rest := []) ⟨hx, hb, hml, hown, hw⟩ (c_Big_limbAt l dC dI cI cC cB cJ _ h_v h_v_limbs n_v_limbs y4 v_size v_limbs_a u_2 hu_2) (cwV 1 hw (zg_V wd_339 wd_341 we_0_6 wd_5 wd_342) rfl rfl rfl hd_Big_limbAt ⟨Nat.le_of_ble_eq_true rfl, Nat.le_of_ble_eq_true rfl⟩) (zz_preV zz_TE (va_recv (q0 := 0) (ci := 0) hK hP rfl rfl) hP hD hK hS hA trivial [0, 1] rfl (by decide)) rfl rfl hl.1 rfl (lv_room (Nat.le_of_ble_eq_true rfl)) d_Big_subtract_17 ⟨Nat.zero_le _, Nat.zero_le _⟩) (fun H locs hP hD hS => ?_)
        refine lv_aload_n hx hb d_Big_subtract_20 rfl (lv_at hl 1 rfl) ?_
        refine lv_iload hx hb d_Big_subtract_21 (lv_at hl 3 rfl) ?_
        obtain ⟨u_3, hu_3, hf⟩ := zz_bd hf
        refine zz_cl (ws' := [(h_v, .inr (0, [.ref h_v_limbs, .int v_size])), (h_v_limbs, .inl (cI, n_v_limbs, .inl v_limbs_a)), (h_w1, .inr (0, [.ref h_w1_limbs, .int w1_size])), (h_w1_limbs, .inl (cI, n_w1_limbs, .inl w1_limbs_a))]) (wc := [(h_w1, .inr (0, [.ref h_w1_limbs, .int w1_size])), (h_w1_limbs, .inl (cI, n_w1_limbs, .inl w1_limbs_a))]) (w' := [(h_w1, .inr (0, [.ref h_w1_limbs, .int w1_size])), (h_w1_limbs, .inl (cI, n_w1_limbs, .inl w1_limbs_a))]) hP hD hS hA [2, 3] [0, 1] [0, 1, 2, 3] rfl rfl (by decide) (by decide) rfl (by decide) (va_runV (As := [.int y4]) (rest := [.long u_2]) ⟨hx, hb, hml, hown, hw⟩ (c_Big_limbAt l dC dI cI cC cB cJ _ h_w1 h_w1_limbs n_w1_limbs y4 w1_size w1_limbs_a u_3 hu_3) (cwV 1 hw (zg_V wd_339 wd_341 we_0_6 wd_5 wd_342) rfl rfl rfl hd_Big_limbAt ⟨Nat.le_of_ble_eq_true rfl, Nat.le_of_ble_eq_true rfl⟩) (zz_preV zz_TE (va_recv (q0 := 2) (ci := 0) hK hP rfl rfl) hP hD hK hS hA trivial [2, 3] rfl (by decide)) rfl rfl hl.1 rfl (lv_room (Nat.le_of_ble_eq_true rfl)) d_Big_subtract_23 ⟨Nat.zero_le _, Nat.zero_le _⟩) (fun H locs hP hD hS => ?_)
        refine lv_lsub hx hb d_Big_subtract_26 ?_
        refine lv_lload_n hx hb d_Big_subtract_27 rfl (lv_at hl 2 rfl) ?_
        refine lv_lsub hx hb d_Big_subtract_28 ?_
        refine lv_topl (fun x5_4 e_x5_4 => ?_)
        have hf := zz_ltp hf x5_4 e_x5_4
        refine lv_lstore hx hb d_Big_subtract_29 hl (by decide) rfl (fun ls hl => ?_)
        have hl : lv_has ls 7 [(5, .long x5_4), (0, .ref h_v), (1, .ref h_w1), (2, .long y2), (4, .int y4)] := hl
        refine lv_aload_n hx hb d_Big_subtract_31 rfl (lv_at hl 1 rfl) ?_
        refine va_get (D := (dC, dI)) (ci := 0) (v := .ref h_v_limbs) (C := R_Big) (T := T_Big) (N := 2) hx hb hw in_Big hown hK hP 0 rfl rfl 0 (by decide) (hw _ wd_90) (fun _ h9 => h9) rfl d_Big_subtract_32 ?_
        refine lv_iload hx hb d_Big_subtract_35 (lv_at hl 4 rfl) ?_
        refine lv_lload hx hb d_Big_subtract_37 (lv_at hl 0 rfl) ?_
        refine lv_l2i hx hb d_Big_subtract_39 rfl ?_
        obtain ⟨hb_5, hf⟩ := zz_gd hf
        refine va_iast hx hb hK hP hD hS 1 0 rfl rfl (zz_vp hb_5) d_Big_subtract_40 (fun H locs hP hD hS => ?_)
        have hP : va_P (dC, dI) vwCl [(h_v, .inr (0, [.ref h_v_limbs, .int v_size])), (h_v_limbs, .inl (cI, n_v_limbs, .inl (upd v_limbs_a y4.toNatClampNeg x5_4.toInt32))), (h_w1, .inr (0, [.ref h_w1_limbs, .int w1_size])), (h_w1_limbs, .inl (cI, n_w1_limbs, .inl w1_limbs_a))] H := hP
        have hD : va_D A [(h_v, .inr (0, [.ref h_v_limbs, .int v_size])), (h_v_limbs, .inl (cI, n_v_limbs, .inl (upd v_limbs_a y4.toNatClampNeg x5_4.toInt32))), (h_w1, .inr (0, [.ref h_w1_limbs, .int w1_size])), (h_w1_limbs, .inl (cI, n_w1_limbs, .inl w1_limbs_a))] := hD
        refine lv_lload hx hb d_Big_subtract_41 (lv_at hl 0 rfl) ?_
        refine lv_lconst (v := 0) hx hb d_Big_subtract_43 (by decide) ?_
        refine W.lcmp hx hb d_Big_subtract_44 ?_
        refine lv_if_ge (tgt := 52) hx hb d_Big_subtract_45 (by decide) (fun hc => ?_) (fun hc => ?_)
        · have hf := zz_ifp hc hf
          refine lv_lconst (v := 0) hx hb d_Big_subtract_52 (by decide) ?_
          refine lv_lstore_n hx hb d_Big_subtract_53 rfl hl (by decide) rfl (fun ls hl => ?_)
          have hl : lv_has ls 7 [(2, .long 0), (5, .long x5_4), (0, .ref h_v), (1, .ref h_w1), (4, .int y4)] := hl
          refine lv_iinc (k := 4) (v := y4 + 1) hx hb d_Big_subtract_54 hl rfl rfl (by decide) rfl (fun ls hl => ?_)
          have hl : lv_has ls 7 [(4, .int (y4 + 1)), (2, .long 0), (5, .long x5_4), (0, .ref h_v), (1, .ref h_w1)] := hl
          refine lv_goto (tgt := 5) hx hb d_Big_subtract_57 (by decide) ?_
          exact ih 0 (y4 + 1) v_size (upd v_limbs_a y4.toNatClampNeg x5_4.toInt32) ls _ _ (lv_sub hl [3, 4, 1, 0] rfl) hP hD hS hf
        · have hf := zz_ifn hc hf
          refine lv_lconst (v := 1) hx hb d_Big_subtract_48 (by decide) ?_
          refine lv_goto (tgt := 53) hx hb d_Big_subtract_49 (by decide) ?_
          refine lv_lstore_n hx hb d_Big_subtract_53 rfl hl (by decide) rfl (fun ls hl => ?_)
          have hl : lv_has ls 7 [(2, .long 1), (5, .long x5_4), (0, .ref h_v), (1, .ref h_w1), (4, .int y4)] := hl
          refine lv_iinc (k := 4) (v := y4 + 1) hx hb d_Big_subtract_54 hl rfl rfl (by decide) rfl (fun ls hl => ?_)
          have hl : lv_has ls 7 [(4, .int (y4 + 1)), (2, .long 1), (5, .long x5_4), (0, .ref h_v), (1, .ref h_w1)] := hl
          refine lv_goto (tgt := 5) hx hb d_Big_subtract_57 (by decide) ?_
          exact ih 1 (y4 + 1) v_size (upd v_limbs_a y4.toNatClampNeg x5_4.toInt32) ls _ _ (lv_sub hl [3, 4, 1, 0] rfl) hP hD hS hf
  unfold f_Big_subtract at hf
  refine lv_lconst (v := 0) hx hb d_Big_subtract_0 (by decide) ?_
  refine lv_lstore_n hx hb d_Big_subtract_1 rfl hl (by decide) rfl (fun ls hl => ?_)
  have hl : lv_has ls 7 [(2, .long 0), (0, .ref h_v), (1, .ref h_w1)] := hl
  refine lv_iconst (v := 0) hx hb d_Big_subtract_2 (by decide) ?_
  refine lv_istore hx hb d_Big_subtract_3 hl (by decide) rfl (fun ls hl => ?_)
  have hl : lv_has ls 7 [(4, .int 0), (2, .long 0), (0, .ref h_v), (1, .ref h_w1)] := hl
  exact hL_5 fu 0 0 v_size v_limbs_a ls _ _ (lv_sub hl [2, 3, 1, 0] rfl) hP hD hS hf
abbrev ws_Big_multiplyAndAdd : List Cond := .code y_Big_multiplyAndAdd prog_2_method_9_code 6 none :: zw
abbrev rm_Big_multiplyAndAdd : Room := { frames := 1, cells := 0, slots := 0, locals := 22 }
theorem hd_Big_multiplyAndAdd : y_Big_multiplyAndAdd.cls = "RealText$Big" ∧ y_Big_multiplyAndAdd.cls ≠ "java/lang/invoke/MethodHandle" ∧ y_Big_multiplyAndAdd.cls ≠ "java/lang/invoke/VarHandle" ∧ (parseMethodDescriptor y_Big_multiplyAndAdd.desc).map (fun d => d.parameters.length) = some 2 := by decide +kernel
theorem d_Big_multiplyAndAdd_0 : decode prog_2_method_9_code 0 = .ok (.iload_n 2, 1) := by decide +kernel
theorem d_Big_multiplyAndAdd_1 : decode prog_2_method_9_code 1 = .ok (.i2l, 1) := by decide +kernel
theorem d_Big_multiplyAndAdd_2 : decode prog_2_method_9_code 2 = .ok (.lstore_n 3, 1) := by decide +kernel
theorem d_Big_multiplyAndAdd_3 : decode prog_2_method_9_code 3 = .ok (.iconst 0, 1) := by decide +kernel
theorem d_Big_multiplyAndAdd_4 : decode prog_2_method_9_code 4 = .ok (.istore 5, 2) := by decide +kernel
theorem d_Big_multiplyAndAdd_6 : decode prog_2_method_9_code 6 = .ok (.iload 5, 2) := by decide +kernel
theorem d_Big_multiplyAndAdd_8 : decode prog_2_method_9_code 8 = .ok (.aload_n 0, 1) := by decide +kernel
theorem d_Big_multiplyAndAdd_9 : decode prog_2_method_9_code 9 = .ok (.getfield 13, 3) := by decide +kernel
theorem d_Big_multiplyAndAdd_12 : decode prog_2_method_9_code 12 = .ok (.if_icmp .ge 35, 3) := by decide +kernel
theorem d_Big_multiplyAndAdd_15 : decode prog_2_method_9_code 15 = .ok (.lload_n 3, 1) := by decide +kernel
theorem d_Big_multiplyAndAdd_16 : decode prog_2_method_9_code 16 = .ok (.aload_n 0, 1) := by decide +kernel
theorem d_Big_multiplyAndAdd_17 : decode prog_2_method_9_code 17 = .ok (.iload 5, 2) := by decide +kernel
theorem d_Big_multiplyAndAdd_19 : decode prog_2_method_9_code 19 = .ok (.invokevirtual 38, 3) := by decide +kernel
theorem d_Big_multiplyAndAdd_22 : decode prog_2_method_9_code 22 = .ok (.iload_n 1, 1) := by decide +kernel
theorem d_Big_multiplyAndAdd_23 : decode prog_2_method_9_code 23 = .ok (.i2l, 1) := by decide +kernel
theorem d_Big_multiplyAndAdd_24 : decode prog_2_method_9_code 24 = .ok (.lmul, 1) := by decide +kernel
theorem d_Big_multiplyAndAdd_25 : decode prog_2_method_9_code 25 = .ok (.ladd, 1) := by decide +kernel
theorem d_Big_multiplyAndAdd_26 : decode prog_2_method_9_code 26 = .ok (.lstore_n 3, 1) := by decide +kernel
theorem d_Big_multiplyAndAdd_27 : decode prog_2_method_9_code 27 = .ok (.aload_n 0, 1) := by decide +kernel
theorem d_Big_multiplyAndAdd_28 : decode prog_2_method_9_code 28 = .ok (.getfield 7, 3) := by decide +kernel
theorem d_Big_multiplyAndAdd_31 : decode prog_2_method_9_code 31 = .ok (.iload 5, 2) := by decide +kernel
theorem d_Big_multiplyAndAdd_33 : decode prog_2_method_9_code 33 = .ok (.lload_n 3, 1) := by decide +kernel
theorem d_Big_multiplyAndAdd_34 : decode prog_2_method_9_code 34 = .ok (.l2i, 1) := by decide +kernel
theorem d_Big_multiplyAndAdd_35 : decode prog_2_method_9_code 35 = .ok (.iastore, 1) := by decide +kernel
theorem d_Big_multiplyAndAdd_36 : decode prog_2_method_9_code 36 = .ok (.lload_n 3, 1) := by decide +kernel
theorem d_Big_multiplyAndAdd_37 : decode prog_2_method_9_code 37 = .ok (.bipush 32, 2) := by decide +kernel
theorem d_Big_multiplyAndAdd_39 : decode prog_2_method_9_code 39 = .ok (.lushr, 1) := by decide +kernel
theorem d_Big_multiplyAndAdd_40 : decode prog_2_method_9_code 40 = .ok (.lstore_n 3, 1) := by decide +kernel
theorem d_Big_multiplyAndAdd_41 : decode prog_2_method_9_code 41 = .ok (.iinc 5 1, 3) := by decide +kernel
theorem d_Big_multiplyAndAdd_44 : decode prog_2_method_9_code 44 = .ok (.goto (-38), 3) := by decide +kernel
theorem d_Big_multiplyAndAdd_47 : decode prog_2_method_9_code 47 = .ok (.lload_n 3, 1) := by decide +kernel
theorem d_Big_multiplyAndAdd_48 : decode prog_2_method_9_code 48 = .ok (.lconst 0, 1) := by decide +kernel
theorem d_Big_multiplyAndAdd_49 : decode prog_2_method_9_code 49 = .ok (.lcmp, 1) := by decide +kernel
theorem d_Big_multiplyAndAdd_50 : decode prog_2_method_9_code 50 = .ok (.ifCond .eq 8, 3) := by decide +kernel
theorem d_Big_multiplyAndAdd_53 : decode prog_2_method_9_code 53 = .ok (.aload_n 0, 1) := by decide +kernel
theorem d_Big_multiplyAndAdd_54 : decode prog_2_method_9_code 54 = .ok (.lload_n 3, 1) := by decide +kernel
theorem d_Big_multiplyAndAdd_55 : decode prog_2_method_9_code 55 = .ok (.invokevirtual 19, 3) := by decide +kernel
theorem d_Big_multiplyAndAdd_58 : decode prog_2_method_9_code 58 = .ok (.return_, 1) := by decide +kernel
def f_Big_multiplyAndAdd_6 (fu : Nat) (n_v_limbs : Nat) (x1 : Int32) (x2 : Int32)  : Nat → Int64 → Int32 → Int32 → (Nat → Int32) → Option (Int32 × (Nat → Int32))
  | 0, _, _, _, _ => none
  | n + 1, y3, y5, v_size, v_limbs_a =>
  (if v_size ≤ y5 then
  (if (lg_cmp y3 0) = 0 then
  some (v_size, v_limbs_a)
  else
  (f_Big_addLimb n_v_limbs y3 v_size v_limbs_a).bind fun u_1 =>
  some (u_1.1, u_1.2))
  else
  (f_Big_limbAt n_v_limbs y5 v_size v_limbs_a).bind fun u_2 =>
  zz_lt (y3 + (u_2 * x1.toInt64)) fun x3_3 =>
  if zz_in y5 n_v_limbs = true then
  zz_lt ((x3_3.toUInt64 >>> ((32 : Int32).toInt64.toUInt64 &&& Int64.toUInt64 63)).toInt64) fun x3_5 =>
  f_Big_multiplyAndAdd_6 fu n_v_limbs x1 x2 n x3_5 (y5 + 1) v_size (upd v_limbs_a y5.toNatClampNeg x3_3.toInt32)
  else none)
theorem f_Big_multiplyAndAdd_6_s (fu : Nat) (n_v_limbs : Nat) (x1 : Int32) (x2 : Int32)  (n : Nat) (y3 : Int64) (y5 : Int32) (v_size : Int32) (v_limbs_a : Nat → Int32) : f_Big_multiplyAndAdd_6 fu n_v_limbs x1 x2 (n + 1) y3 y5 v_size v_limbs_a =
  (if v_size ≤ y5 then
  (if (lg_cmp y3 0) = 0 then
  some (v_size, v_limbs_a)
  else
  (f_Big_addLimb n_v_limbs y3 v_size v_limbs_a).bind fun u_1 =>
  some (u_1.1, u_1.2))
  else
  (f_Big_limbAt n_v_limbs y5 v_size v_limbs_a).bind fun u_2 =>
  zz_lt (y3 + (u_2 * x1.toInt64)) fun x3_3 =>
  if zz_in y5 n_v_limbs = true then
  zz_lt ((x3_3.toUInt64 >>> ((32 : Int32).toInt64.toUInt64 &&& Int64.toUInt64 63)).toInt64) fun x3_5 =>
  f_Big_multiplyAndAdd_6 fu n_v_limbs x1 x2 n x3_5 (y5 + 1) v_size (upd v_limbs_a y5.toNatClampNeg x3_3.toInt32)
  else none) := rfl
def f_Big_multiplyAndAdd (fu : Nat) (n_v_limbs : Nat) (x1 : Int32) (x2 : Int32) (v_size : Int32) (v_limbs_a : Nat → Int32) : Option (Int32 × (Nat → Int32)) :=
  f_Big_multiplyAndAdd_6 fu n_v_limbs x1 x2 fu x2.toInt64 0 v_size v_limbs_a
set_option maxHeartbeats 4000000 in
set_option maxRecDepth 100000 in
theorem c_Big_multiplyAndAdd (l : Launch) (dC : Nat → ClassId) (dI : Nat → Nat → Nat) (cI cC cB cJ : ClassId) (fu : Nat) (sz : Nat) (h_v : Nat) (h_v_limbs : Nat) (n_v_limbs : Nat) (x1 : Int32) (x2 : Int32) (v_size : Int32) (v_limbs_a : Nat → Int32) (u : Int32 × (Nat → Int32)) (hf : f_Big_multiplyAndAdd fu n_v_limbs x1 x2 v_size v_limbs_a = some u) : Met l y_Big_multiplyAndAdd ws_Big_multiplyAndAdd rm_Big_multiplyAndAdd (zz_P zz_T (dC, dI) vwCl (zz_tys cI cC cB cJ) [.ref h_v, .int x1, .int x2] [(h_v, .inr (0, [.ref h_v_limbs, .int v_size])), (h_v_limbs, .inl (cI, n_v_limbs, .inl v_limbs_a))] sz) (zz_Qv (dC, dI) vwCl [(h_v, .inr (0, [.ref h_v_limbs, .int u.1])), (h_v_limbs, .inl (cI, n_v_limbs, .inl u.2))] (va_A [(h_v, .inr (0, [.ref h_v_limbs, .int v_size])), (h_v_limbs, .inl (cI, n_v_limbs, .inl v_limbs_a))] sz)) 0 0 (va_A [(h_v, .inr (0, [.ref h_v_limbs, .int v_size])), (h_v_limbs, .inl (cI, n_v_limbs, .inl v_limbs_a))] sz) := by
  refine Met.ofW (cc := prog_2_method_9_code) (maxL := 6) (ret := none) (by decide +kernel) rfl ?_
  intro p e s m args below meth c s₁ B hml hv
  obtain ⟨rfl, hsz, hP, hK, hD0, hX⟩ := hv
  have hx := B.exec
  have hb := B.bytes
  have hr := B.returns
  have hts := atoms_spec (ws := ws_Big_multiplyAndAdd) B.pre
  have hw : ∀ w ∈ zw, w.before [.ref h_v, .int x1, .int x2].toArray s = true := fun w h => hts w (List.mem_cons_of_mem _ h)
  have hown : s.vm.findClass R_Big = some m.cls := findClass_of_methodNamed B.named
  have hlocks := B.notSynchronized
  subst hsz
  have hD := hD0.self (sz := s.heap.size)
  generalize hAe : va_A [(h_v, .inr (0, [.ref h_v_limbs, .int v_size])), (h_v_limbs, .inl (cI, n_v_limbs, .inl v_limbs_a))] s.heap.size = A at hD hX ⊢
  have hA : ∀ q : Nat, s.heap.size ≤ q → A q := fun q h => by rw [← hAe]; exact Or.inr h
  have hS : va_S A s.heap s.heap [] := va_S.rf
  have hl := lv_entry [.ref h_v, .int x1, .int x2] (n := 6) (Nat.le_of_ble_eq_true rfl)
  rw [lg_entry_eq]
  generalize (lg_sl [.ref h_v, .int x1, .int x2] ++ List.replicate (6 - (lg_sl [.ref h_v, .int x1, .int x2]).length) Slot.unset).toArray = ls at hl ⊢
  have hl : lv_has ls 6 [(0, .ref h_v), (1, .int x1), (2, .int x2)] := hl
  refine zz_endv hx hb hr hlocks (fun Qq hend => ?_)
  have hL_6 : ∀ (n : Nat), ∀ (y3 : Int64) (y5 : Int32) (v_size : Int32) (v_limbs_a : Nat → Int32) (ls : Array Slot) (H : Heap) (locs : List Loc), lv_has ls 6 [(0, .ref h_v), (1, .int x1), (3, .long y3), (5, .int y5)] → va_P (dC, dI) vwCl [(h_v, .inr (0, [.ref h_v_limbs, .int v_size])), (h_v_limbs, .inl (cI, n_v_limbs, .inl v_limbs_a))] H → va_D A [(h_v, .inr (0, [.ref h_v_limbs, .int v_size])), (h_v_limbs, .inl (cI, n_v_limbs, .inl v_limbs_a))] → va_S A s.heap H locs → f_Big_multiplyAndAdd_6 fu n_v_limbs x1 x2 n y3 y5 v_size v_limbs_a = some u → W p l e (headSpec ws_Big_multiplyAndAdd rm_Big_multiplyAndAdd).room s m [.ref h_v, .int x1, .int x2].toArray below meth c H locs 0 0 Qq (F0 m 6 ls []) := by
    intro n
    induction n with
    | zero =>
      intro y3 y5 v_size v_limbs_a ls H locs hl hP hD hS hf
      exact zz_no hf
    | succ n ih =>
      intro y3 y5 v_size v_limbs_a ls H locs hl hP hD hS hf
      rw [f_Big_multiplyAndAdd_6_s] at hf
      refine lv_iload hx hb d_Big_multiplyAndAdd_6 (lv_at hl 3 rfl) ?_
      refine lv_aload_n hx hb d_Big_multiplyAndAdd_8 rfl (lv_at hl 0 rfl) ?_
      refine va_get (D := (dC, dI)) (ci := 0) (v := .int v_size) (C := R_Big) (T := T_Big) (N := 2) hx hb hw in_Big hown hK hP 0 rfl rfl 1 (by decide) (hw _ wd_91) (fun _ h9 => h9) rfl d_Big_multiplyAndAdd_9 ?_
      refine lv_icmp_ge (tgt := 47) hx hb d_Big_multiplyAndAdd_12 (by decide) (fun hc => ?_) (fun hc => ?_)
      · have hf := zz_ifp hc hf
        refine lv_lload_n hx hb d_Big_multiplyAndAdd_47 rfl (lv_at hl 2 rfl) ?_
        refine lv_lconst (v := 0) hx hb d_Big_multiplyAndAdd_48 (by decide) ?_
        refine W.lcmp hx hb d_Big_multiplyAndAdd_49 ?_
        refine lv_if_eq (tgt := 58) hx hb d_Big_multiplyAndAdd_50 (by decide) (fun hc => ?_) (fun hc => ?_)
        · have hf := zz_ifp hc hf
          cases hf
          exact hend 58 ls _ _ d_Big_multiplyAndAdd_58 hP hD hS
        · have hf := zz_ifn hc hf
          refine lv_aload_n hx hb d_Big_multiplyAndAdd_53 rfl (lv_at hl 0 rfl) ?_
          refine lv_lload_n hx hb d_Big_multiplyAndAdd_54 rfl (lv_at hl 2 rfl) ?_
          obtain ⟨u_1, hu_1, hf⟩ := zz_bd hf
          refine zz_cv (ws' := [(h_v, .inr (0, [.ref h_v_limbs, .int u_1.1])), (h_v_limbs, .inl (cI, n_v_limbs, .inl u_1.2))]) (wc := [(h_v, .inr (0, [.ref h_v_limbs, .int v_size])), (h_v_limbs, .inl (cI, n_v_limbs, .inl v_limbs_a))]) (w' := [(h_v, .inr (0, [.ref h_v_limbs, .int u_1.1])), (h_v_limbs, .inl (cI, n_v_limbs, .inl u_1.2))]) hP hD hS hA [0, 1] [] [0, 1] rfl rfl (by decide) (by decide) rfl (by decide) (va_runV (As := [.long y3]) (rest := []) ⟨hx, hb, hml, hown, hw⟩ (c_Big_addLimb l dC dI cI cC cB cJ _ h_v h_v_limbs n_v_limbs y3 v_size v_limbs_a u_1 hu_1) (cwV 1 hw (zg_V wd_327 wd_329 we_0_4 wd_5 wd_330) rfl rfl rfl hd_Big_addLimb ⟨Nat.le_of_ble_eq_true rfl, Nat.le_of_ble_eq_true rfl⟩) (zz_preV zz_TE (va_recv (q0 := 0) (ci := 0) hK hP rfl rfl) hP hD hK hS hA trivial [0, 1] rfl (by decide)) rfl rfl hl.1 rfl (lv_room (Nat.le_of_ble_eq_true rfl)) d_Big_multiplyAndAdd_55 ⟨Nat.zero_le _, Nat.zero_le _⟩) (fun H locs hP hD hS => ?_)
          cases hf
          exact hend 58 ls _ _ d_Big_multiplyAndAdd_58 hP hD hS
      · have hf := zz_ifn hc hf
        refine lv_lload_n hx hb d_Big_multiplyAndAdd_15 rfl (lv_at hl 2 rfl) ?_
        refine lv_aload_n hx hb d_Big_multiplyAndAdd_16 rfl (lv_at hl 0 rfl) ?_
        refine lv_iload hx hb d_Big_multiplyAndAdd_17 (lv_at hl 3 rfl) ?_
        obtain ⟨u_2, hu_2, hf⟩ := zz_bd hf
        refine zz_cl (ws' := [(h_v, .inr (0, [.ref h_v_limbs, .int v_size])), (h_v_limbs, .inl (cI, n_v_limbs, .inl v_limbs_a))]) (wc := [(h_v, .inr (0, [.ref h_v_limbs, .int v_size])), (h_v_limbs, .inl (cI, n_v_limbs, .inl v_limbs_a))]) (w' := [(h_v, .inr (0, [.ref h_v_limbs, .int v_size])), (h_v_limbs, .inl (cI, n_v_limbs, .inl v_limbs_a))]) hP hD hS hA [0, 1] [] [0, 1] rfl rfl (by decide) (by decide) rfl (by decide) (va_runV (As := [.int y5]) (rest := [.long y3]) ⟨hx, hb, hml, hown, hw⟩ (c_Big_limbAt l dC dI cI cC cB cJ _ h_v h_v_limbs n_v_limbs y5 v_size v_limbs_a u_2 hu_2) (cwV 1 hw (zg_V wd_339 wd_341 we_0_6 wd_5 wd_342) rfl rfl rfl hd_Big_limbAt ⟨Nat.le_of_ble_eq_true rfl, Nat.le_of_ble_eq_true rfl⟩) (zz_preV zz_TE (va_recv (q0 := 0) (ci := 0) hK hP rfl rfl) hP hD hK hS hA trivial [0, 1] rfl (by decide)) rfl rfl hl.1 rfl (lv_room (Nat.le_of_ble_eq_true rfl)) d_Big_multiplyAndAdd_19 ⟨Nat.zero_le _, Nat.zero_le _⟩) (fun H locs hP hD hS => ?_)
        refine lv_iload_n hx hb d_Big_multiplyAndAdd_22 rfl (lv_at hl 1 rfl) ?_
        refine lv_i2l hx hb d_Big_multiplyAndAdd_23 rfl ?_
        refine lv_lmul hx hb d_Big_multiplyAndAdd_24 ?_
        refine lv_ladd hx hb d_Big_multiplyAndAdd_25 ?_
        refine lv_topl (fun x3_3 e_x3_3 => ?_)
        have hf := zz_ltp hf x3_3 e_x3_3
        refine lv_lstore_n hx hb d_Big_multiplyAndAdd_26 rfl hl (by decide) rfl (fun ls hl => ?_)
        have hl : lv_has ls 6 [(3, .long x3_3), (0, .ref h_v), (1, .int x1), (5, .int y5)] := hl
        refine lv_aload_n hx hb d_Big_multiplyAndAdd_27 rfl (lv_at hl 1 rfl) ?_
        refine va_get (D := (dC, dI)) (ci := 0) (v := .ref h_v_limbs) (C := R_Big) (T := T_Big) (N := 2) hx hb hw in_Big hown hK hP 0 rfl rfl 0 (by decide) (hw _ wd_90) (fun _ h9 => h9) rfl d_Big_multiplyAndAdd_28 ?_
        refine lv_iload hx hb d_Big_multiplyAndAdd_31 (lv_at hl 3 rfl) ?_
        refine lv_lload_n hx hb d_Big_multiplyAndAdd_33 rfl (lv_at hl 0 rfl) ?_
        refine lv_l2i hx hb d_Big_multiplyAndAdd_34 rfl ?_
        obtain ⟨hb_4, hf⟩ := zz_gd hf
        refine va_iast hx hb hK hP hD hS 1 0 rfl rfl (zz_vp hb_4) d_Big_multiplyAndAdd_35 (fun H locs hP hD hS => ?_)
        have hP : va_P (dC, dI) vwCl [(h_v, .inr (0, [.ref h_v_limbs, .int v_size])), (h_v_limbs, .inl (cI, n_v_limbs, .inl (upd v_limbs_a y5.toNatClampNeg x3_3.toInt32)))] H := hP
        have hD : va_D A [(h_v, .inr (0, [.ref h_v_limbs, .int v_size])), (h_v_limbs, .inl (cI, n_v_limbs, .inl (upd v_limbs_a y5.toNatClampNeg x3_3.toInt32)))] := hD
        refine lv_lload_n hx hb d_Big_multiplyAndAdd_36 rfl (lv_at hl 0 rfl) ?_
        refine lv_bipush (v := 32) hx hb d_Big_multiplyAndAdd_37 (by decide) ?_
        refine lv_lushr hx hb d_Big_multiplyAndAdd_39 rfl ?_
        refine lv_topl (fun x3_5 e_x3_5 => ?_)
        have hf := zz_ltp hf x3_5 e_x3_5
        refine lv_lstore_n hx hb d_Big_multiplyAndAdd_40 rfl hl (by decide) rfl (fun ls hl => ?_)
        have hl : lv_has ls 6 [(3, .long x3_5), (0, .ref h_v), (1, .int x1), (5, .int y5)] := hl
        refine lv_iinc (k := 3) (v := y5 + 1) hx hb d_Big_multiplyAndAdd_41 hl rfl rfl (by decide) rfl (fun ls hl => ?_)
        have hl : lv_has ls 6 [(5, .int (y5 + 1)), (3, .long x3_5), (0, .ref h_v), (1, .int x1)] := hl
        refine lv_goto (tgt := 6) hx hb d_Big_multiplyAndAdd_44 (by decide) ?_
        exact ih x3_5 (y5 + 1) v_size (upd v_limbs_a y5.toNatClampNeg x3_3.toInt32) ls _ _ (lv_sub hl [2, 3, 1, 0] rfl) hP hD hS hf
  unfold f_Big_multiplyAndAdd at hf
  refine lv_iload_n hx hb d_Big_multiplyAndAdd_0 rfl (lv_at hl 2 rfl) ?_
  refine lv_i2l hx hb d_Big_multiplyAndAdd_1 rfl ?_
  refine lv_lstore_n hx hb d_Big_multiplyAndAdd_2 rfl hl (by decide) rfl (fun ls hl => ?_)
  have hl : lv_has ls 6 [(3, .long x2.toInt64), (0, .ref h_v), (1, .int x1), (2, .int x2)] := hl
  refine lv_iconst (v := 0) hx hb d_Big_multiplyAndAdd_3 (by decide) ?_
  refine lv_istore hx hb d_Big_multiplyAndAdd_4 hl (by decide) rfl (fun ls hl => ?_)
  have hl : lv_has ls 6 [(5, .int 0), (3, .long x2.toInt64), (0, .ref h_v), (1, .int x1), (2, .int x2)] := hl
  exact hL_6 fu x2.toInt64 0 v_size v_limbs_a ls _ _ (lv_sub hl [2, 3, 1, 0] rfl) hP hD hS hf
abbrev ws_Big_shiftLeft : List Cond := .code y_Big_shiftLeft prog_2_method_12_code 7 none :: zw
abbrev rm_Big_shiftLeft : Room := { frames := 1, cells := 0, slots := 0, locals := 21 }
theorem hd_Big_shiftLeft : y_Big_shiftLeft.cls = "RealText$Big" ∧ y_Big_shiftLeft.cls ≠ "java/lang/invoke/MethodHandle" ∧ y_Big_shiftLeft.cls ≠ "java/lang/invoke/VarHandle" ∧ (parseMethodDescriptor y_Big_shiftLeft.desc).map (fun d => d.parameters.length) = some 1 := by decide +kernel
theorem d_Big_shiftLeft_0 : decode prog_2_method_12_code 0 = .ok (.iload_n 1, 1) := by decide +kernel
theorem d_Big_shiftLeft_1 : decode prog_2_method_12_code 1 = .ok (.bipush 32, 2) := by decide +kernel
theorem d_Big_shiftLeft_3 : decode prog_2_method_12_code 3 = .ok (.idiv, 1) := by decide +kernel
theorem d_Big_shiftLeft_4 : decode prog_2_method_12_code 4 = .ok (.istore_n 2, 1) := by decide +kernel
theorem d_Big_shiftLeft_5 : decode prog_2_method_12_code 5 = .ok (.iload_n 1, 1) := by decide +kernel
theorem d_Big_shiftLeft_6 : decode prog_2_method_12_code 6 = .ok (.bipush 32, 2) := by decide +kernel
theorem d_Big_shiftLeft_8 : decode prog_2_method_12_code 8 = .ok (.irem, 1) := by decide +kernel
theorem d_Big_shiftLeft_9 : decode prog_2_method_12_code 9 = .ok (.istore_n 3, 1) := by decide +kernel
theorem d_Big_shiftLeft_10 : decode prog_2_method_12_code 10 = .ok (.iload_n 1, 1) := by decide +kernel
theorem d_Big_shiftLeft_11 : decode prog_2_method_12_code 11 = .ok (.ifCond .le 17, 3) := by decide +kernel
theorem d_Big_shiftLeft_14 : decode prog_2_method_12_code 14 = .ok (.aload_n 0, 1) := by decide +kernel
theorem d_Big_shiftLeft_15 : decode prog_2_method_12_code 15 = .ok (.getfield 13, 3) := by decide +kernel
theorem d_Big_shiftLeft_18 : decode prog_2_method_12_code 18 = .ok (.iload_n 2, 1) := by decide +kernel
theorem d_Big_shiftLeft_19 : decode prog_2_method_12_code 19 = .ok (.iadd, 1) := by decide +kernel
theorem d_Big_shiftLeft_20 : decode prog_2_method_12_code 20 = .ok (.aload_n 0, 1) := by decide +kernel
theorem d_Big_shiftLeft_21 : decode prog_2_method_12_code 21 = .ok (.getfield 7, 3) := by decide +kernel
theorem d_Big_shiftLeft_24 : decode prog_2_method_12_code 24 = .ok (.arraylength, 1) := by decide +kernel
theorem d_Big_shiftLeft_25 : decode prog_2_method_12_code 25 = .ok (.if_icmp .lt 4, 3) := by decide +kernel
theorem d_Big_shiftLeft_28 : decode prog_2_method_12_code 28 = .ok (.return_, 1) := by decide +kernel
theorem d_Big_shiftLeft_29 : decode prog_2_method_12_code 29 = .ok (.aload_n 0, 1) := by decide +kernel
theorem d_Big_shiftLeft_30 : decode prog_2_method_12_code 30 = .ok (.getfield 13, 3) := by decide +kernel
theorem d_Big_shiftLeft_33 : decode prog_2_method_12_code 33 = .ok (.istore 4, 2) := by decide +kernel
theorem d_Big_shiftLeft_35 : decode prog_2_method_12_code 35 = .ok (.iload 4, 2) := by decide +kernel
theorem d_Big_shiftLeft_37 : decode prog_2_method_12_code 37 = .ok (.ifCond .lt 46, 3) := by decide +kernel
theorem d_Big_shiftLeft_40 : decode prog_2_method_12_code 40 = .ok (.aload_n 0, 1) := by decide +kernel
theorem d_Big_shiftLeft_41 : decode prog_2_method_12_code 41 = .ok (.iload 4, 2) := by decide +kernel
theorem d_Big_shiftLeft_43 : decode prog_2_method_12_code 43 = .ok (.invokevirtual 38, 3) := by decide +kernel
theorem d_Big_shiftLeft_46 : decode prog_2_method_12_code 46 = .ok (.bipush 32, 2) := by decide +kernel
theorem d_Big_shiftLeft_48 : decode prog_2_method_12_code 48 = .ok (.lshl, 1) := by decide +kernel
theorem d_Big_shiftLeft_49 : decode prog_2_method_12_code 49 = .ok (.aload_n 0, 1) := by decide +kernel
theorem d_Big_shiftLeft_50 : decode prog_2_method_12_code 50 = .ok (.iload 4, 2) := by decide +kernel
theorem d_Big_shiftLeft_52 : decode prog_2_method_12_code 52 = .ok (.iconst 1, 1) := by decide +kernel
theorem d_Big_shiftLeft_53 : decode prog_2_method_12_code 53 = .ok (.isub, 1) := by decide +kernel
theorem d_Big_shiftLeft_54 : decode prog_2_method_12_code 54 = .ok (.invokevirtual 38, 3) := by decide +kernel
theorem d_Big_shiftLeft_57 : decode prog_2_method_12_code 57 = .ok (.lor, 1) := by decide +kernel
theorem d_Big_shiftLeft_58 : decode prog_2_method_12_code 58 = .ok (.lstore 5, 2) := by decide +kernel
theorem d_Big_shiftLeft_60 : decode prog_2_method_12_code 60 = .ok (.aload_n 0, 1) := by decide +kernel
theorem d_Big_shiftLeft_61 : decode prog_2_method_12_code 61 = .ok (.getfield 7, 3) := by decide +kernel
theorem d_Big_shiftLeft_64 : decode prog_2_method_12_code 64 = .ok (.iload 4, 2) := by decide +kernel
theorem d_Big_shiftLeft_66 : decode prog_2_method_12_code 66 = .ok (.iload_n 2, 1) := by decide +kernel
theorem d_Big_shiftLeft_67 : decode prog_2_method_12_code 67 = .ok (.iadd, 1) := by decide +kernel
theorem d_Big_shiftLeft_68 : decode prog_2_method_12_code 68 = .ok (.lload 5, 2) := by decide +kernel
theorem d_Big_shiftLeft_70 : decode prog_2_method_12_code 70 = .ok (.iload_n 3, 1) := by decide +kernel
theorem d_Big_shiftLeft_71 : decode prog_2_method_12_code 71 = .ok (.lshl, 1) := by decide +kernel
theorem d_Big_shiftLeft_72 : decode prog_2_method_12_code 72 = .ok (.bipush 32, 2) := by decide +kernel
theorem d_Big_shiftLeft_74 : decode prog_2_method_12_code 74 = .ok (.lushr, 1) := by decide +kernel
theorem d_Big_shiftLeft_75 : decode prog_2_method_12_code 75 = .ok (.l2i, 1) := by decide +kernel
theorem d_Big_shiftLeft_76 : decode prog_2_method_12_code 76 = .ok (.iastore, 1) := by decide +kernel
theorem d_Big_shiftLeft_77 : decode prog_2_method_12_code 77 = .ok (.iinc 4 (-1), 3) := by decide +kernel
theorem d_Big_shiftLeft_80 : decode prog_2_method_12_code 80 = .ok (.goto (-45), 3) := by decide +kernel
theorem d_Big_shiftLeft_83 : decode prog_2_method_12_code 83 = .ok (.iconst 0, 1) := by decide +kernel
theorem d_Big_shiftLeft_84 : decode prog_2_method_12_code 84 = .ok (.istore 4, 2) := by decide +kernel
theorem d_Big_shiftLeft_86 : decode prog_2_method_12_code 86 = .ok (.iload 4, 2) := by decide +kernel
theorem d_Big_shiftLeft_88 : decode prog_2_method_12_code 88 = .ok (.iload_n 2, 1) := by decide +kernel
theorem d_Big_shiftLeft_89 : decode prog_2_method_12_code 89 = .ok (.if_icmp .ge 17, 3) := by decide +kernel
theorem d_Big_shiftLeft_92 : decode prog_2_method_12_code 92 = .ok (.aload_n 0, 1) := by decide +kernel
theorem d_Big_shiftLeft_93 : decode prog_2_method_12_code 93 = .ok (.getfield 7, 3) := by decide +kernel
theorem d_Big_shiftLeft_96 : decode prog_2_method_12_code 96 = .ok (.iload 4, 2) := by decide +kernel
theorem d_Big_shiftLeft_98 : decode prog_2_method_12_code 98 = .ok (.iconst 0, 1) := by decide +kernel
theorem d_Big_shiftLeft_99 : decode prog_2_method_12_code 99 = .ok (.iastore, 1) := by decide +kernel
theorem d_Big_shiftLeft_100 : decode prog_2_method_12_code 100 = .ok (.iinc 4 1, 3) := by decide +kernel
theorem d_Big_shiftLeft_103 : decode prog_2_method_12_code 103 = .ok (.goto (-17), 3) := by decide +kernel
theorem d_Big_shiftLeft_106 : decode prog_2_method_12_code 106 = .ok (.aload_n 0, 1) := by decide +kernel
theorem d_Big_shiftLeft_107 : decode prog_2_method_12_code 107 = .ok (.dup, 1) := by decide +kernel
theorem d_Big_shiftLeft_108 : decode prog_2_method_12_code 108 = .ok (.getfield 13, 3) := by decide +kernel
theorem d_Big_shiftLeft_111 : decode prog_2_method_12_code 111 = .ok (.iload_n 2, 1) := by decide +kernel
theorem d_Big_shiftLeft_112 : decode prog_2_method_12_code 112 = .ok (.iconst 1, 1) := by decide +kernel
theorem d_Big_shiftLeft_113 : decode prog_2_method_12_code 113 = .ok (.iadd, 1) := by decide +kernel
theorem d_Big_shiftLeft_114 : decode prog_2_method_12_code 114 = .ok (.iadd, 1) := by decide +kernel
theorem d_Big_shiftLeft_115 : decode prog_2_method_12_code 115 = .ok (.putfield 13, 3) := by decide +kernel
theorem d_Big_shiftLeft_118 : decode prog_2_method_12_code 118 = .ok (.aload_n 0, 1) := by decide +kernel
theorem d_Big_shiftLeft_119 : decode prog_2_method_12_code 119 = .ok (.invokevirtual 23, 3) := by decide +kernel
theorem d_Big_shiftLeft_122 : decode prog_2_method_12_code 122 = .ok (.return_, 1) := by decide +kernel
def f_Big_shiftLeft_86 (fu : Nat) (n_v_limbs : Nat) (x1 : Int32)  : Nat → Int32 → Int32 → Int32 → (Nat → Int32) → Option (Int32 × (Nat → Int32))
  | 0, _, _, _, _ => none
  | n + 1, y2, y4, v_size, v_limbs_a =>
  (if y2 ≤ y4 then
  (f_Big_trim fu n_v_limbs (v_size + (y2 + 1)) v_limbs_a).bind fun u_3 =>
  some (u_3, v_limbs_a)
  else
  if zz_in y4 n_v_limbs = true then
  f_Big_shiftLeft_86 fu n_v_limbs x1 n y2 (y4 + 1) v_size (upd v_limbs_a y4.toNatClampNeg 0)
  else none)
theorem f_Big_shiftLeft_86_s (fu : Nat) (n_v_limbs : Nat) (x1 : Int32)  (n : Nat) (y2 : Int32) (y4 : Int32) (v_size : Int32) (v_limbs_a : Nat → Int32) : f_Big_shiftLeft_86 fu n_v_limbs x1 (n + 1) y2 y4 v_size v_limbs_a =
  (if y2 ≤ y4 then
  (f_Big_trim fu n_v_limbs (v_size + (y2 + 1)) v_limbs_a).bind fun u_3 =>
  some (u_3, v_limbs_a)
  else
  if zz_in y4 n_v_limbs = true then
  f_Big_shiftLeft_86 fu n_v_limbs x1 n y2 (y4 + 1) v_size (upd v_limbs_a y4.toNatClampNeg 0)
  else none) := rfl
def f_Big_shiftLeft_35 (fu : Nat) (n_v_limbs : Nat) (x1 : Int32)  : Nat → Int32 → Int32 → Int32 → Int32 → (Nat → Int32) → Option (Int32 × (Nat → Int32))
  | 0, _, _, _, _, _ => none
  | n + 1, y2, y3, y4, v_size, v_limbs_a =>
  (if y4 < 0 then
  f_Big_shiftLeft_86 fu n_v_limbs x1 fu y2 0 v_size v_limbs_a
  else
  (f_Big_limbAt n_v_limbs y4 v_size v_limbs_a).bind fun u_5 =>
  (f_Big_limbAt n_v_limbs (y4 - 1) v_size v_limbs_a).bind fun u_6 =>
  zz_lt ((u_5 <<< ((32 : Int32).toInt64 &&& 63)) ||| u_6) fun x5_7 =>
  if zz_in (y4 + y2) n_v_limbs = true then
  f_Big_shiftLeft_35 fu n_v_limbs x1 n y2 y3 (y4 + (-1)) v_size (upd v_limbs_a (y4 + y2).toNatClampNeg ((((x5_7 <<< (y3.toInt64 &&& 63)).toUInt64 >>> ((32 : Int32).toInt64.toUInt64 &&& Int64.toUInt64 63)).toInt64).toInt32))
  else none)
theorem f_Big_shiftLeft_35_s (fu : Nat) (n_v_limbs : Nat) (x1 : Int32)  (n : Nat) (y2 : Int32) (y3 : Int32) (y4 : Int32) (v_size : Int32) (v_limbs_a : Nat → Int32) : f_Big_shiftLeft_35 fu n_v_limbs x1 (n + 1) y2 y3 y4 v_size v_limbs_a =
  (if y4 < 0 then
  f_Big_shiftLeft_86 fu n_v_limbs x1 fu y2 0 v_size v_limbs_a
  else
  (f_Big_limbAt n_v_limbs y4 v_size v_limbs_a).bind fun u_5 =>
  (f_Big_limbAt n_v_limbs (y4 - 1) v_size v_limbs_a).bind fun u_6 =>
  zz_lt ((u_5 <<< ((32 : Int32).toInt64 &&& 63)) ||| u_6) fun x5_7 =>
  if zz_in (y4 + y2) n_v_limbs = true then
  f_Big_shiftLeft_35 fu n_v_limbs x1 n y2 y3 (y4 + (-1)) v_size (upd v_limbs_a (y4 + y2).toNatClampNeg ((((x5_7 <<< (y3.toInt64 &&& 63)).toUInt64 >>> ((32 : Int32).toInt64.toUInt64 &&& Int64.toUInt64 63)).toInt64).toInt32))
  else none) := rfl
def f_Big_shiftLeft (fu : Nat) (n_v_limbs : Nat) (x1 : Int32) (v_size : Int32) (v_limbs_a : Nat → Int32) : Option (Int32 × (Nat → Int32)) :=
  zz_lt (x1 / 32) fun x2_1 =>
  zz_lt (x1 - x1 / 32 * 32) fun x3_2 =>
  (if x1 ≤ 0 then
  some (v_size, v_limbs_a)
  else
  (if (v_size + x2_1) < (nI n_v_limbs) then
  f_Big_shiftLeft_35 fu n_v_limbs x1 fu x2_1 x3_2 v_size v_size v_limbs_a
  else
  some (v_size, v_limbs_a)))
set_option maxHeartbeats 4000000 in
set_option maxRecDepth 100000 in
theorem c_Big_shiftLeft (l : Launch) (dC : Nat → ClassId) (dI : Nat → Nat → Nat) (cI cC cB cJ : ClassId) (fu : Nat) (sz : Nat) (h_v : Nat) (h_v_limbs : Nat) (n_v_limbs : Nat) (x1 : Int32) (v_size : Int32) (v_limbs_a : Nat → Int32) (u : Int32 × (Nat → Int32)) (hf : f_Big_shiftLeft fu n_v_limbs x1 v_size v_limbs_a = some u) : Met l y_Big_shiftLeft ws_Big_shiftLeft rm_Big_shiftLeft (zz_P zz_T (dC, dI) vwCl (zz_tys cI cC cB cJ) [.ref h_v, .int x1] [(h_v, .inr (0, [.ref h_v_limbs, .int v_size])), (h_v_limbs, .inl (cI, n_v_limbs, .inl v_limbs_a))] sz) (zz_Qv (dC, dI) vwCl [(h_v, .inr (0, [.ref h_v_limbs, .int u.1])), (h_v_limbs, .inl (cI, n_v_limbs, .inl u.2))] (va_A [(h_v, .inr (0, [.ref h_v_limbs, .int v_size])), (h_v_limbs, .inl (cI, n_v_limbs, .inl v_limbs_a))] sz)) 0 0 (va_A [(h_v, .inr (0, [.ref h_v_limbs, .int v_size])), (h_v_limbs, .inl (cI, n_v_limbs, .inl v_limbs_a))] sz) := by
  refine Met.ofW (cc := prog_2_method_12_code) (maxL := 7) (ret := none) (by decide +kernel) rfl ?_
  intro p e s m args below meth c s₁ B hml hv
  obtain ⟨rfl, hsz, hP, hK, hD0, hX⟩ := hv
  have hx := B.exec
  have hb := B.bytes
  have hr := B.returns
  have hts := atoms_spec (ws := ws_Big_shiftLeft) B.pre
  have hw : ∀ w ∈ zw, w.before [.ref h_v, .int x1].toArray s = true := fun w h => hts w (List.mem_cons_of_mem _ h)
  have hown : s.vm.findClass R_Big = some m.cls := findClass_of_methodNamed B.named
  have hlocks := B.notSynchronized
  subst hsz
  have hD := hD0.self (sz := s.heap.size)
  generalize hAe : va_A [(h_v, .inr (0, [.ref h_v_limbs, .int v_size])), (h_v_limbs, .inl (cI, n_v_limbs, .inl v_limbs_a))] s.heap.size = A at hD hX ⊢
  have hA : ∀ q : Nat, s.heap.size ≤ q → A q := fun q h => by rw [← hAe]; exact Or.inr h
  have hS : va_S A s.heap s.heap [] := va_S.rf
  have hl := lv_entry [.ref h_v, .int x1] (n := 7) (Nat.le_of_ble_eq_true rfl)
  rw [lg_entry_eq]
  generalize (lg_sl [.ref h_v, .int x1] ++ List.replicate (7 - (lg_sl [.ref h_v, .int x1]).length) Slot.unset).toArray = ls at hl ⊢
  have hl : lv_has ls 7 [(0, .ref h_v), (1, .int x1)] := hl
  refine zz_endv hx hb hr hlocks (fun Qq hend => ?_)
  have hL_86 : ∀ (n : Nat), ∀ (y2 : Int32) (y4 : Int32) (v_size : Int32) (v_limbs_a : Nat → Int32) (ls : Array Slot) (H : Heap) (locs : List Loc), lv_has ls 7 [(0, .ref h_v), (2, .int y2), (4, .int y4)] → va_P (dC, dI) vwCl [(h_v, .inr (0, [.ref h_v_limbs, .int v_size])), (h_v_limbs, .inl (cI, n_v_limbs, .inl v_limbs_a))] H → va_D A [(h_v, .inr (0, [.ref h_v_limbs, .int v_size])), (h_v_limbs, .inl (cI, n_v_limbs, .inl v_limbs_a))] → va_S A s.heap H locs → f_Big_shiftLeft_86 fu n_v_limbs x1 n y2 y4 v_size v_limbs_a = some u → W p l e (headSpec ws_Big_shiftLeft rm_Big_shiftLeft).room s m [.ref h_v, .int x1].toArray below meth c H locs 0 0 Qq (F0 m 86 ls []) := by
    intro n
    induction n with
    | zero =>
      intro y2 y4 v_size v_limbs_a ls H locs hl hP hD hS hf
      exact zz_no hf
    | succ n ih =>
      intro y2 y4 v_size v_limbs_a ls H locs hl hP hD hS hf
      rw [f_Big_shiftLeft_86_s] at hf
      refine lv_iload hx hb d_Big_shiftLeft_86 (lv_at hl 2 rfl) ?_
      refine lv_iload_n hx hb d_Big_shiftLeft_88 rfl (lv_at hl 1 rfl) ?_
      refine lv_icmp_ge (tgt := 106) hx hb d_Big_shiftLeft_89 (by decide) (fun hc => ?_) (fun hc => ?_)
      · have hf := zz_ifp hc hf
        refine lv_aload_n hx hb d_Big_shiftLeft_106 rfl (lv_at hl 0 rfl) ?_
        refine lv_dup hx hb d_Big_shiftLeft_107 rfl ?_
        refine va_get (D := (dC, dI)) (ci := 0) (v := .int v_size) (C := R_Big) (T := T_Big) (N := 2) hx hb hw in_Big hown hK hP 0 rfl rfl 1 (by decide) (hw _ wd_91) (fun _ h9 => h9) rfl d_Big_shiftLeft_108 ?_
        refine lv_iload_n hx hb d_Big_shiftLeft_111 rfl (lv_at hl 1 rfl) ?_
        refine lv_iconst (v := 1) hx hb d_Big_shiftLeft_112 (by decide) ?_
        refine lv_iadd hx hb d_Big_shiftLeft_113 ?_
        refine lv_iadd hx hb d_Big_shiftLeft_114 ?_
        refine va_put (D := (dC, dI)) (ci := 0) (v := .int (v_size + (y2 + 1))) (ty := .int) (C := R_Big) (T := T_Big) (N := 2) hx hb hw in_Big ty_Big tyok_Big nm_Big hown hK hP hD hS 0 rfl rfl 1 (by decide) (hw _ wd_91) (fun _ h9 => h9) rfl (tyok_Big 1 (by decide)) rfl rfl (Nat.le_of_ble_eq_true rfl) d_Big_shiftLeft_115 (fun H locs hP hD hS => ?_)
        have hP : va_P (dC, dI) vwCl [(h_v, .inr (0, [.ref h_v_limbs, .int (v_size + (y2 + 1))])), (h_v_limbs, .inl (cI, n_v_limbs, .inl v_limbs_a))] H := hP
        have hD : va_D A [(h_v, .inr (0, [.ref h_v_limbs, .int (v_size + (y2 + 1))])), (h_v_limbs, .inl (cI, n_v_limbs, .inl v_limbs_a))] := hD
        refine lv_aload_n hx hb d_Big_shiftLeft_118 rfl (lv_at hl 0 rfl) ?_
        obtain ⟨u_3, hu_3, hf⟩ := zz_bd hf
        refine zz_cv (ws' := [(h_v, .inr (0, [.ref h_v_limbs, .int u_3])), (h_v_limbs, .inl (cI, n_v_limbs, .inl v_limbs_a))]) (wc := [(h_v, .inr (0, [.ref h_v_limbs, .int (v_size + (y2 + 1))])), (h_v_limbs, .inl (cI, n_v_limbs, .inl v_limbs_a))]) (w' := [(h_v, .inr (0, [.ref h_v_limbs, .int u_3])), (h_v_limbs, .inl (cI, n_v_limbs, .inl v_limbs_a))]) hP hD hS hA [0, 1] [] [0, 1] rfl rfl (by decide) (by decide) rfl (by decide) (va_runV (As := []) (rest := []) ⟨hx, hb, hml, hown, hw⟩ (c_Big_trim l dC dI cI cC cB cJ fu _ h_v h_v_limbs n_v_limbs (v_size + (y2 + 1)) v_limbs_a u_3 hu_3) (cwV 0 hw (zg_V wd_331 wd_333 we_0_5 wd_5 wd_334) rfl rfl rfl hd_Big_trim ⟨Nat.le_of_ble_eq_true rfl, Nat.le_of_ble_eq_true rfl⟩) (zz_preV zz_TE (va_recv (q0 := 0) (ci := 0) hK hP rfl rfl) hP hD hK hS hA trivial [0, 1] rfl (by decide)) rfl rfl hl.1 rfl (lv_room (Nat.le_of_ble_eq_true rfl)) d_Big_shiftLeft_119 ⟨Nat.zero_le _, Nat.zero_le _⟩) (fun H locs hP hD hS => ?_)
        cases hf
        exact hend 122 ls _ _ d_Big_shiftLeft_122 hP hD hS
      · have hf := zz_ifn hc hf
        refine lv_aload_n hx hb d_Big_shiftLeft_92 rfl (lv_at hl 0 rfl) ?_
        refine va_get (D := (dC, dI)) (ci := 0) (v := .ref h_v_limbs) (C := R_Big) (T := T_Big) (N := 2) hx hb hw in_Big hown hK hP 0 rfl rfl 0 (by decide) (hw _ wd_90) (fun _ h9 => h9) rfl d_Big_shiftLeft_93 ?_
        refine lv_iload hx hb d_Big_shiftLeft_96 (lv_at hl 2 rfl) ?_
        refine lv_iconst (v := 0) hx hb d_Big_shiftLeft_98 (by decide) ?_
        obtain ⟨hb_4, hf⟩ := zz_gd hf
        refine va_iast hx hb hK hP hD hS 1 0 rfl rfl (zz_vp hb_4) d_Big_shiftLeft_99 (fun H locs hP hD hS => ?_)
        have hP : va_P (dC, dI) vwCl [(h_v, .inr (0, [.ref h_v_limbs, .int v_size])), (h_v_limbs, .inl (cI, n_v_limbs, .inl (upd v_limbs_a y4.toNatClampNeg 0)))] H := hP
        have hD : va_D A [(h_v, .inr (0, [.ref h_v_limbs, .int v_size])), (h_v_limbs, .inl (cI, n_v_limbs, .inl (upd v_limbs_a y4.toNatClampNeg 0)))] := hD
        refine lv_iinc (k := 2) (v := y4 + 1) hx hb d_Big_shiftLeft_100 hl rfl rfl (by decide) rfl (fun ls hl => ?_)
        have hl : lv_has ls 7 [(4, .int (y4 + 1)), (0, .ref h_v), (2, .int y2)] := hl
        refine lv_goto (tgt := 86) hx hb d_Big_shiftLeft_103 (by decide) ?_
        exact ih y2 (y4 + 1) v_size (upd v_limbs_a y4.toNatClampNeg 0) ls _ _ (lv_sub hl [1, 2, 0] rfl) hP hD hS hf
  have hL_35 : ∀ (n : Nat), ∀ (y2 : Int32) (y3 : Int32) (y4 : Int32) (v_size : Int32) (v_limbs_a : Nat → Int32) (ls : Array Slot) (H : Heap) (locs : List Loc), lv_has ls 7 [(0, .ref h_v), (2, .int y2), (3, .int y3), (4, .int y4)] → va_P (dC, dI) vwCl [(h_v, .inr (0, [.ref h_v_limbs, .int v_size])), (h_v_limbs, .inl (cI, n_v_limbs, .inl v_limbs_a))] H → va_D A [(h_v, .inr (0, [.ref h_v_limbs, .int v_size])), (h_v_limbs, .inl (cI, n_v_limbs, .inl v_limbs_a))] → va_S A s.heap H locs → f_Big_shiftLeft_35 fu n_v_limbs x1 n y2 y3 y4 v_size v_limbs_a = some u → W p l e (headSpec ws_Big_shiftLeft rm_Big_shiftLeft).room s m [.ref h_v, .int x1].toArray below meth c H locs 0 0 Qq (F0 m 35 ls []) := by
    intro n
    induction n with
    | zero =>
      intro y2 y3 y4 v_size v_limbs_a ls H locs hl hP hD hS hf
      exact zz_no hf
    | succ n ih =>
      intro y2 y3 y4 v_size v_limbs_a ls H locs hl hP hD hS hf
      rw [f_Big_shiftLeft_35_s] at hf
      refine lv_iload hx hb d_Big_shiftLeft_35 (lv_at hl 3 rfl) ?_
      refine lv_if_lt (tgt := 83) hx hb d_Big_shiftLeft_37 (by decide) (fun hc => ?_) (fun hc => ?_)
      · have hf := zz_ifp hc hf
        refine lv_iconst (v := 0) hx hb d_Big_shiftLeft_83 (by decide) ?_
        refine lv_istore hx hb d_Big_shiftLeft_84 hl (by decide) rfl (fun ls hl => ?_)
        have hl : lv_has ls 7 [(4, .int 0), (0, .ref h_v), (2, .int y2), (3, .int y3)] := hl
        exact hL_86 fu y2 0 v_size v_limbs_a ls _ _ (lv_sub hl [1, 2, 0] rfl) hP hD hS hf
      · have hf := zz_ifn hc hf
        refine lv_aload_n hx hb d_Big_shiftLeft_40 rfl (lv_at hl 0 rfl) ?_
        refine lv_iload hx hb d_Big_shiftLeft_41 (lv_at hl 3 rfl) ?_
        obtain ⟨u_5, hu_5, hf⟩ := zz_bd hf
        refine zz_cl (ws' := [(h_v, .inr (0, [.ref h_v_limbs, .int v_size])), (h_v_limbs, .inl (cI, n_v_limbs, .inl v_limbs_a))]) (wc := [(h_v, .inr (0, [.ref h_v_limbs, .int v_size])), (h_v_limbs, .inl (cI, n_v_limbs, .inl v_limbs_a))]) (w' := [(h_v, .inr (0, [.ref h_v_limbs, .int v_size])), (h_v_limbs, .inl (cI, n_v_limbs, .inl v_limbs_a))]) hP hD hS hA [0, 1] [] [0, 1] rfl rfl (by decide) (by decide) rfl (by decide) (va_runV (As := [.int y4]) (rest := []) ⟨hx, hb, hml, hown, hw⟩ (c_Big_limbAt l dC dI cI cC cB cJ _ h_v h_v_limbs n_v_limbs y4 v_size v_limbs_a u_5 hu_5) (cwV 1 hw (zg_V wd_339 wd_341 we_0_6 wd_5 wd_342) rfl rfl rfl hd_Big_limbAt ⟨Nat.le_of_ble_eq_true rfl, Nat.le_of_ble_eq_true rfl⟩) (zz_preV zz_TE (va_recv (q0 := 0) (ci := 0) hK hP rfl rfl) hP hD hK hS hA trivial [0, 1] rfl (by decide)) rfl rfl hl.1 rfl (lv_room (Nat.le_of_ble_eq_true rfl)) d_Big_shiftLeft_43 ⟨Nat.zero_le _, Nat.zero_le _⟩) (fun H locs hP hD hS => ?_)
        refine lv_bipush (v := 32) hx hb d_Big_shiftLeft_46 (by decide) ?_
        refine lv_lshl hx hb d_Big_shiftLeft_48 rfl ?_
        refine lv_aload_n hx hb d_Big_shiftLeft_49 rfl (lv_at hl 0 rfl) ?_
        refine lv_iload hx hb d_Big_shiftLeft_50 (lv_at hl 3 rfl) ?_
        refine lv_iconst (v := 1) hx hb d_Big_shiftLeft_52 (by decide) ?_
        refine lv_isub hx hb d_Big_shiftLeft_53 ?_
        obtain ⟨u_6, hu_6, hf⟩ := zz_bd hf
        refine zz_cl (ws' := [(h_v, .inr (0, [.ref h_v_limbs, .int v_size])), (h_v_limbs, .inl (cI, n_v_limbs, .inl v_limbs_a))]) (wc := [(h_v, .inr (0, [.ref h_v_limbs, .int v_size])), (h_v_limbs, .inl (cI, n_v_limbs, .inl v_limbs_a))]) (w' := [(h_v, .inr (0, [.ref h_v_limbs, .int v_size])), (h_v_limbs, .inl (cI, n_v_limbs, .inl v_limbs_a))]) hP hD hS hA [0, 1] [] [0, 1] rfl rfl (by decide) (by decide) rfl (by decide) (va_runV (As := [.int (y4 - 1)]) (rest := [.long (u_5 <<< ((32 : Int32).toInt64 &&& 63))]) ⟨hx, hb, hml, hown, hw⟩ (c_Big_limbAt l dC dI cI cC cB cJ _ h_v h_v_limbs n_v_limbs (y4 - 1) v_size v_limbs_a u_6 hu_6) (cwV 1 hw (zg_V wd_339 wd_341 we_0_6 wd_5 wd_342) rfl rfl rfl hd_Big_limbAt ⟨Nat.le_of_ble_eq_true rfl, Nat.le_of_ble_eq_true rfl⟩) (zz_preV zz_TE (va_recv (q0 := 0) (ci := 0) hK hP rfl rfl) hP hD hK hS hA trivial [0, 1] rfl (by decide)) rfl rfl hl.1 rfl (lv_room (Nat.le_of_ble_eq_true rfl)) d_Big_shiftLeft_54 ⟨Nat.zero_le _, Nat.zero_le _⟩) (fun H locs hP hD hS => ?_)
        refine lv_lor hx hb d_Big_shiftLeft_57 ?_
        refine lv_topl (fun x5_7 e_x5_7 => ?_)
        have hf := zz_ltp hf x5_7 e_x5_7
        refine lv_lstore hx hb d_Big_shiftLeft_58 hl (by decide) rfl (fun ls hl => ?_)
        have hl : lv_has ls 7 [(5, .long x5_7), (0, .ref h_v), (2, .int y2), (3, .int y3), (4, .int y4)] := hl
        refine lv_aload_n hx hb d_Big_shiftLeft_60 rfl (lv_at hl 1 rfl) ?_
        refine va_get (D := (dC, dI)) (ci := 0) (v := .ref h_v_limbs) (C := R_Big) (T := T_Big) (N := 2) hx hb hw in_Big hown hK hP 0 rfl rfl 0 (by decide) (hw _ wd_90) (fun _ h9 => h9) rfl d_Big_shiftLeft_61 ?_
        refine lv_iload hx hb d_Big_shiftLeft_64 (lv_at hl 4 rfl) ?_
        refine lv_iload_n hx hb d_Big_shiftLeft_66 rfl (lv_at hl 2 rfl) ?_
        refine lv_iadd hx hb d_Big_shiftLeft_67 ?_
        refine lv_lload hx hb d_Big_shiftLeft_68 (lv_at hl 0 rfl) ?_
        refine lv_iload_n hx hb d_Big_shiftLeft_70 rfl (lv_at hl 3 rfl) ?_
        refine lv_lshl hx hb d_Big_shiftLeft_71 rfl ?_
        refine lv_bipush (v := 32) hx hb d_Big_shiftLeft_72 (by decide) ?_
        refine lv_lushr hx hb d_Big_shiftLeft_74 rfl ?_
        refine lv_l2i hx hb d_Big_shiftLeft_75 rfl ?_
        obtain ⟨hb_8, hf⟩ := zz_gd hf
        refine va_iast hx hb hK hP hD hS 1 0 rfl rfl (zz_vp hb_8) d_Big_shiftLeft_76 (fun H locs hP hD hS => ?_)
        have hP : va_P (dC, dI) vwCl [(h_v, .inr (0, [.ref h_v_limbs, .int v_size])), (h_v_limbs, .inl (cI, n_v_limbs, .inl (upd v_limbs_a (y4 + y2).toNatClampNeg ((((x5_7 <<< (y3.toInt64 &&& 63)).toUInt64 >>> ((32 : Int32).toInt64.toUInt64 &&& Int64.toUInt64 63)).toInt64).toInt32))))] H := hP
        have hD : va_D A [(h_v, .inr (0, [.ref h_v_limbs, .int v_size])), (h_v_limbs, .inl (cI, n_v_limbs, .inl (upd v_limbs_a (y4 + y2).toNatClampNeg ((((x5_7 <<< (y3.toInt64 &&& 63)).toUInt64 >>> ((32 : Int32).toInt64.toUInt64 &&& Int64.toUInt64 63)).toInt64).toInt32))))] := hD
        refine lv_iinc (k := 4) (v := y4 + (-1)) hx hb d_Big_shiftLeft_77 hl rfl rfl (by decide) rfl (fun ls hl => ?_)
        have hl : lv_has ls 7 [(4, .int (y4 + (-1))), (5, .long x5_7), (0, .ref h_v), (2, .int y2), (3, .int y3)] := hl
        refine lv_goto (tgt := 35) hx hb d_Big_shiftLeft_80 (by decide) ?_
        exact ih y2 y3 (y4 + (-1)) v_size (upd v_limbs_a (y4 + y2).toNatClampNeg ((((x5_7 <<< (y3.toInt64 &&& 63)).toUInt64 >>> ((32 : Int32).toInt64.toUInt64 &&& Int64.toUInt64 63)).toInt64).toInt32)) ls _ _ (lv_sub hl [2, 3, 4, 0] rfl) hP hD hS hf
  unfold f_Big_shiftLeft at hf
  refine lv_iload_n hx hb d_Big_shiftLeft_0 rfl (lv_at hl 1 rfl) ?_
  refine lv_bipush (v := 32) hx hb d_Big_shiftLeft_1 (by decide) ?_
  refine lv_idiv hx hb d_Big_shiftLeft_3 (by decide) ?_
  refine lv_topi (fun x2_1 e_x2_1 => ?_)
  have hf := zz_ltp hf x2_1 e_x2_1
  refine lv_istore_n hx hb d_Big_shiftLeft_4 rfl hl (by decide) rfl (fun ls hl => ?_)
  have hl : lv_has ls 7 [(2, .int x2_1), (0, .ref h_v), (1, .int x1)] := hl
  refine lv_iload_n hx hb d_Big_shiftLeft_5 rfl (lv_at hl 2 rfl) ?_
  refine lv_bipush (v := 32) hx hb d_Big_shiftLeft_6 (by decide) ?_
  refine lv_irem hx hb d_Big_shiftLeft_8 (by decide) ?_
  refine lv_topi (fun x3_2 e_x3_2 => ?_)
  have hf := zz_ltp hf x3_2 e_x3_2
  refine lv_istore_n hx hb d_Big_shiftLeft_9 rfl hl (by decide) rfl (fun ls hl => ?_)
  have hl : lv_has ls 7 [(3, .int x3_2), (2, .int x2_1), (0, .ref h_v), (1, .int x1)] := hl
  refine lv_iload_n hx hb d_Big_shiftLeft_10 rfl (lv_at hl 3 rfl) ?_
  refine lv_if_le (tgt := 28) hx hb d_Big_shiftLeft_11 (by decide) (fun hc => ?_) (fun hc => ?_)
  · have hf := zz_ifp hc hf
    cases hf
    exact hend 28 ls _ _ d_Big_shiftLeft_28 hP hD hS
  · have hf := zz_ifn hc hf
    refine lv_aload_n hx hb d_Big_shiftLeft_14 rfl (lv_at hl 2 rfl) ?_
    refine va_get (D := (dC, dI)) (ci := 0) (v := .int v_size) (C := R_Big) (T := T_Big) (N := 2) hx hb hw in_Big hown hK hP 0 rfl rfl 1 (by decide) (hw _ wd_91) (fun _ h9 => h9) rfl d_Big_shiftLeft_15 ?_
    refine lv_iload_n hx hb d_Big_shiftLeft_18 rfl (lv_at hl 1 rfl) ?_
    refine lv_iadd hx hb d_Big_shiftLeft_19 ?_
    refine lv_aload_n hx hb d_Big_shiftLeft_20 rfl (lv_at hl 2 rfl) ?_
    refine va_get (D := (dC, dI)) (ci := 0) (v := .ref h_v_limbs) (C := R_Big) (T := T_Big) (N := 2) hx hb hw in_Big hown hK hP 0 rfl rfl 0 (by decide) (hw _ wd_90) (fun _ h9 => h9) rfl d_Big_shiftLeft_21 ?_
    refine va_alen (v := nI n_v_limbs) hx hb hK hP 1 0 rfl rfl rfl d_Big_shiftLeft_24 ?_
    refine lv_icmp_lt (tgt := 29) hx hb d_Big_shiftLeft_25 (by decide) (fun hc => ?_) (fun hc => ?_)
    · have hf := zz_ifp hc hf
      refine lv_aload_n hx hb d_Big_shiftLeft_29 rfl (lv_at hl 2 rfl) ?_
      refine va_get (D := (dC, dI)) (ci := 0) (v := .int v_size) (C := R_Big) (T := T_Big) (N := 2) hx hb hw in_Big hown hK hP 0 rfl rfl 1 (by decide) (hw _ wd_91) (fun _ h9 => h9) rfl d_Big_shiftLeft_30 ?_
      refine lv_istore hx hb d_Big_shiftLeft_33 hl (by decide) rfl (fun ls hl => ?_)
      have hl : lv_has ls 7 [(4, .int v_size), (3, .int x3_2), (2, .int x2_1), (0, .ref h_v), (1, .int x1)] := hl
      exact hL_35 fu x2_1 x3_2 v_size v_size v_limbs_a ls _ _ (lv_sub hl [3, 2, 1, 0] rfl) hP hD hS hf
    · have hf := zz_ifn hc hf
      cases hf
      exact hend 28 ls _ _ d_Big_shiftLeft_28 hP hD hS
abbrev ws_Big_copy : List Cond := .code y_Big_copy prog_2_method_3_code 2 none :: zw
abbrev rm_Big_copy : Room := { frames := 1, cells := 0, slots := 0, locals := 200 }
theorem hd_Big_copy : y_Big_copy.cls = "RealText$Big" ∧ y_Big_copy.cls ≠ "java/lang/invoke/MethodHandle" ∧ y_Big_copy.cls ≠ "java/lang/invoke/VarHandle" ∧ (parseMethodDescriptor y_Big_copy.desc).map (fun d => d.parameters.length) = some 1 := by decide +kernel
theorem d_Big_copy_0 : decode prog_2_method_3_code 0 = .ok (.aload_n 0, 1) := by decide +kernel
theorem d_Big_copy_1 : decode prog_2_method_3_code 1 = .ok (.aload_n 1, 1) := by decide +kernel
theorem d_Big_copy_2 : decode prog_2_method_3_code 2 = .ok (.getfield 13, 3) := by decide +kernel
theorem d_Big_copy_5 : decode prog_2_method_3_code 5 = .ok (.aload_n 0, 1) := by decide +kernel
theorem d_Big_copy_6 : decode prog_2_method_3_code 6 = .ok (.getfield 7, 3) := by decide +kernel
theorem d_Big_copy_9 : decode prog_2_method_3_code 9 = .ok (.arraylength, 1) := by decide +kernel
theorem d_Big_copy_10 : decode prog_2_method_3_code 10 = .ok (.invokestatic 26, 3) := by decide +kernel
theorem d_Big_copy_13 : decode prog_2_method_3_code 13 = .ok (.putfield 13, 3) := by decide +kernel
theorem d_Big_copy_16 : decode prog_2_method_3_code 16 = .ok (.aload_n 1, 1) := by decide +kernel
theorem d_Big_copy_17 : decode prog_2_method_3_code 17 = .ok (.getfield 7, 3) := by decide +kernel
theorem d_Big_copy_20 : decode prog_2_method_3_code 20 = .ok (.iconst 0, 1) := by decide +kernel
theorem d_Big_copy_21 : decode prog_2_method_3_code 21 = .ok (.aload_n 0, 1) := by decide +kernel
theorem d_Big_copy_22 : decode prog_2_method_3_code 22 = .ok (.getfield 7, 3) := by decide +kernel
theorem d_Big_copy_25 : decode prog_2_method_3_code 25 = .ok (.iconst 0, 1) := by decide +kernel
theorem d_Big_copy_26 : decode prog_2_method_3_code 26 = .ok (.aload_n 0, 1) := by decide +kernel
theorem d_Big_copy_27 : decode prog_2_method_3_code 27 = .ok (.getfield 13, 3) := by decide +kernel
theorem d_Big_copy_30 : decode prog_2_method_3_code 30 = .ok (.invokestatic 32, 3) := by decide +kernel
theorem d_Big_copy_33 : decode prog_2_method_3_code 33 = .ok (.return_, 1) := by decide +kernel
def f_Big_copy (n_v_limbs : Nat) (n_w1_limbs : Nat) (v_size : Int32) (v_limbs_a : Nat → Int32) (w1_size : Int32) (w1_limbs_a : Nat → Int32) : Option (Int32 × (Nat → Int32)) :=
  (f_Mat_min w1_size (nI n_v_limbs)).bind fun u_1 =>
  if zz_cp 0 0 u_1 n_w1_limbs n_v_limbs = true then
  some (u_1, va_cpy w1_limbs_a v_limbs_a (0 : Int32).toNatClampNeg (0 : Int32).toNatClampNeg u_1.toNatClampNeg)
  else none
set_option maxHeartbeats 4000000 in
set_option maxRecDepth 100000 in
theorem c_Big_copy (l : Launch) (dC : Nat → ClassId) (dI : Nat → Nat → Nat) (cI cC cB cJ : ClassId) (sz : Nat) (h_v : Nat) (h_v_limbs : Nat) (h_w1 : Nat) (h_w1_limbs : Nat) (n_v_limbs : Nat) (n_w1_limbs : Nat) (v_size : Int32) (v_limbs_a : Nat → Int32) (w1_size : Int32) (w1_limbs_a : Nat → Int32) (u : Int32 × (Nat → Int32)) (hf : f_Big_copy n_v_limbs n_w1_limbs v_size v_limbs_a w1_size w1_limbs_a = some u) : Met l y_Big_copy ws_Big_copy rm_Big_copy (zz_P zz_T (dC, dI) vwCl (zz_tys cI cC cB cJ) [.ref h_v, .ref h_w1] [(h_v, .inr (0, [.ref h_v_limbs, .int v_size])), (h_v_limbs, .inl (cI, n_v_limbs, .inl v_limbs_a)), (h_w1, .inr (0, [.ref h_w1_limbs, .int w1_size])), (h_w1_limbs, .inl (cI, n_w1_limbs, .inl w1_limbs_a))] sz) (zz_Qv (dC, dI) vwCl [(h_v, .inr (0, [.ref h_v_limbs, .int u.1])), (h_v_limbs, .inl (cI, n_v_limbs, .inl u.2)), (h_w1, .inr (0, [.ref h_w1_limbs, .int w1_size])), (h_w1_limbs, .inl (cI, n_w1_limbs, .inl w1_limbs_a))] (va_A [(h_v, .inr (0, [.ref h_v_limbs, .int v_size])), (h_v_limbs, .inl (cI, n_v_limbs, .inl v_limbs_a)), (h_w1, .inr (0, [.ref h_w1_limbs, .int w1_size])), (h_w1_limbs, .inl (cI, n_w1_limbs, .inl w1_limbs_a))] sz)) 0 0 (va_A [(h_v, .inr (0, [.ref h_v_limbs, .int v_size])), (h_v_limbs, .inl (cI, n_v_limbs, .inl v_limbs_a)), (h_w1, .inr (0, [.ref h_w1_limbs, .int w1_size])), (h_w1_limbs, .inl (cI, n_w1_limbs, .inl w1_limbs_a))] sz) := by
  refine Met.ofW (cc := prog_2_method_3_code) (maxL := 2) (ret := none) (by decide +kernel) rfl ?_
  intro p e s m args below meth c s₁ B hml hv
  obtain ⟨rfl, hsz, hP, hK, hD0, hX⟩ := hv
  have hx := B.exec
  have hb := B.bytes
  have hr := B.returns
  have hts := atoms_spec (ws := ws_Big_copy) B.pre
  have hw : ∀ w ∈ zw, w.before [.ref h_v, .ref h_w1].toArray s = true := fun w h => hts w (List.mem_cons_of_mem _ h)
  have hown : s.vm.findClass R_Big = some m.cls := findClass_of_methodNamed B.named
  have hlocks := B.notSynchronized
  subst hsz
  have hD := hD0.self (sz := s.heap.size)
  generalize hAe : va_A [(h_v, .inr (0, [.ref h_v_limbs, .int v_size])), (h_v_limbs, .inl (cI, n_v_limbs, .inl v_limbs_a)), (h_w1, .inr (0, [.ref h_w1_limbs, .int w1_size])), (h_w1_limbs, .inl (cI, n_w1_limbs, .inl w1_limbs_a))] s.heap.size = A at hD hX ⊢
  have hA : ∀ q : Nat, s.heap.size ≤ q → A q := fun q h => by rw [← hAe]; exact Or.inr h
  have hS : va_S A s.heap s.heap [] := va_S.rf
  have hl := lv_entry [.ref h_v, .ref h_w1] (n := 2) (Nat.le_of_ble_eq_true rfl)
  rw [lg_entry_eq]
  generalize (lg_sl [.ref h_v, .ref h_w1] ++ List.replicate (2 - (lg_sl [.ref h_v, .ref h_w1]).length) Slot.unset).toArray = ls at hl ⊢
  have hl : lv_has ls 2 [(0, .ref h_v), (1, .ref h_w1)] := hl
  refine zz_endv hx hb hr hlocks (fun Qq hend => ?_)
  unfold f_Big_copy at hf
  refine lv_aload_n hx hb d_Big_copy_0 rfl (lv_at hl 0 rfl) ?_
  refine lv_aload_n hx hb d_Big_copy_1 rfl (lv_at hl 1 rfl) ?_
  refine va_get (D := (dC, dI)) (ci := 0) (v := .int w1_size) (C := R_Big) (T := T_Big) (N := 2) hx hb hw in_Big hown hK hP 2 rfl rfl 1 (by decide) (hw _ wd_91) (fun _ h9 => h9) rfl d_Big_copy_2 ?_
  refine lv_aload_n hx hb d_Big_copy_5 rfl (lv_at hl 0 rfl) ?_
  refine va_get (D := (dC, dI)) (ci := 0) (v := .ref h_v_limbs) (C := R_Big) (T := T_Big) (N := 2) hx hb hw in_Big hown hK hP 0 rfl rfl 0 (by decide) (hw _ wd_90) (fun _ h9 => h9) rfl d_Big_copy_6 ?_
  refine va_alen (v := nI n_v_limbs) hx hb hK hP 1 0 rfl rfl rfl d_Big_copy_9 ?_
  obtain ⟨u_1, hu_1, hf⟩ := zz_bd hf
  refine zz_ci (ws' := [(h_v, .inr (0, [.ref h_v_limbs, .int v_size])), (h_v_limbs, .inl (cI, n_v_limbs, .inl v_limbs_a)), (h_w1, .inr (0, [.ref h_w1_limbs, .int w1_size])), (h_w1_limbs, .inl (cI, n_w1_limbs, .inl w1_limbs_a))]) (wc := []) (w' := []) hP hD hS hA [] [0, 1, 2, 3] [0, 1, 2, 3] rfl rfl (by decide) (by decide) rfl (by decide) (va_runS (As := [.int w1_size, .int (nI n_v_limbs)]) (rest := [.ref h_v]) ⟨hx, hb, hml, hown, hw⟩ (c_Mat_min l dC dI cI cC cB cJ _ w1_size (nI n_v_limbs) u_1 hu_1) (va_cwS 2 hw (zg_S wd_363 wd_364 wd_16 wd_365) rfl rfl rfl hd_Mat_min ⟨Nat.le_of_ble_eq_true rfl, Nat.le_of_ble_eq_true rfl⟩) (zz_preS zz_TE hP hD hK hS hA trivial [] rfl (by decide)) rfl rfl hl.1 rfl (lv_room (Nat.le_of_ble_eq_true rfl)) d_Big_copy_10 ⟨Nat.zero_le _, Nat.zero_le _⟩) (fun H locs hP hD hS => ?_)
  refine va_put (D := (dC, dI)) (ci := 0) (v := .int u_1) (ty := .int) (C := R_Big) (T := T_Big) (N := 2) hx hb hw in_Big ty_Big tyok_Big nm_Big hown hK hP hD hS 0 rfl rfl 1 (by decide) (hw _ wd_91) (fun _ h9 => h9) rfl (tyok_Big 1 (by decide)) rfl rfl (Nat.le_of_ble_eq_true rfl) d_Big_copy_13 (fun H locs hP hD hS => ?_)
  have hP : va_P (dC, dI) vwCl [(h_v, .inr (0, [.ref h_v_limbs, .int u_1])), (h_v_limbs, .inl (cI, n_v_limbs, .inl v_limbs_a)), (h_w1, .inr (0, [.ref h_w1_limbs, .int w1_size])), (h_w1_limbs, .inl (cI, n_w1_limbs, .inl w1_limbs_a))] H := hP
  have hD : va_D A [(h_v, .inr (0, [.ref h_v_limbs, .int u_1])), (h_v_limbs, .inl (cI, n_v_limbs, .inl v_limbs_a)), (h_w1, .inr (0, [.ref h_w1_limbs, .int w1_size])), (h_w1_limbs, .inl (cI, n_w1_limbs, .inl w1_limbs_a))] := hD
  refine lv_aload_n hx hb d_Big_copy_16 rfl (lv_at hl 1 rfl) ?_
  refine va_get (D := (dC, dI)) (ci := 0) (v := .ref h_w1_limbs) (C := R_Big) (T := T_Big) (N := 2) hx hb hw in_Big hown hK hP 2 rfl rfl 0 (by decide) (hw _ wd_90) (fun _ h9 => h9) rfl d_Big_copy_17 ?_
  refine lv_iconst (v := 0) hx hb d_Big_copy_20 (by decide) ?_
  refine lv_aload_n hx hb d_Big_copy_21 rfl (lv_at hl 0 rfl) ?_
  refine va_get (D := (dC, dI)) (ci := 0) (v := .ref h_v_limbs) (C := R_Big) (T := T_Big) (N := 2) hx hb hw in_Big hown hK hP 0 rfl rfl 0 (by decide) (hw _ wd_90) (fun _ h9 => h9) rfl d_Big_copy_22 ?_
  refine lv_iconst (v := 0) hx hb d_Big_copy_25 (by decide) ?_
  refine lv_aload_n hx hb d_Big_copy_26 rfl (lv_at hl 0 rfl) ?_
  refine va_get (D := (dC, dI)) (ci := 0) (v := .int u_1) (C := R_Big) (T := T_Big) (N := 2) hx hb hw in_Big hown hK hP 0 rfl rfl 1 (by decide) (hw _ wd_91) (fun _ h9 => h9) rfl d_Big_copy_27 ?_
  obtain ⟨hb_2, hf⟩ := zz_gd hf
  obtain ⟨g1, g2, g3, g4, g5⟩ := zz_cpD hb_2
  refine va_copyi hx hb (hml.trans hl.1.symm) hown (hw _ wd_397) (hw _ wd_399) (hw _ wd_398) (hw _ wd_22) hK hP hD hS 3 1 0 0 rfl rfl rfl rfl rfl g1 g2 g3 g4 g5 (fun _ _ => rfl) (Nat.le_of_ble_eq_true rfl) (Nat.le_of_ble_eq_true rfl) d_Big_copy_30 (fun H locs hP hD hS => ?_)
  have hP : va_P (dC, dI) vwCl [(h_v, .inr (0, [.ref h_v_limbs, .int u_1])), (h_v_limbs, .inl (cI, n_v_limbs, .inl (va_cpy w1_limbs_a v_limbs_a (0 : Int32).toNatClampNeg (0 : Int32).toNatClampNeg u_1.toNatClampNeg))), (h_w1, .inr (0, [.ref h_w1_limbs, .int w1_size])), (h_w1_limbs, .inl (cI, n_w1_limbs, .inl w1_limbs_a))] H := hP
  have hD : va_D A [(h_v, .inr (0, [.ref h_v_limbs, .int u_1])), (h_v_limbs, .inl (cI, n_v_limbs, .inl (va_cpy w1_limbs_a v_limbs_a (0 : Int32).toNatClampNeg (0 : Int32).toNatClampNeg u_1.toNatClampNeg))), (h_w1, .inr (0, [.ref h_w1_limbs, .int w1_size])), (h_w1_limbs, .inl (cI, n_w1_limbs, .inl w1_limbs_a))] := hD
  cases hf
  exact hend 33 ls _ _ d_Big_copy_33 hP hD hS
end
section
-- the statics: the two sizes of numbers, the powers of five, the three texts, what the library's own code reads
abbrev zx_q0 : String × String × String × List Int32 := ("RealText$Format", "fractionBits", "I", [23, 52])
abbrev zx_q1 : String × String × String × List Int32 := ("RealText$Format", "exponentMask", "I", [255, 2047])
abbrev zx_q2 : String × String × String × List Int32 := ("RealText$Format", "leastPower", "I", [-149, -1074])
abbrev zx_F : List (String × String × String × List Int32) := [zx_q0, zx_q1, zx_q2]
theorem zx_m0 : zx_q0 ∈ zx_F := List.mem_cons_self
theorem zx_m1 : zx_q1 ∈ zx_F := List.mem_cons_of_mem _ List.mem_cons_self
theorem zx_m2 : zx_q2 ∈ zx_F := List.mem_cons_of_mem _ (List.mem_cons_of_mem _ List.mem_cons_self)
abbrev zx_fractionBits (i : Nat) : Int32 := ([23, 52] : List Int32).getD i 0
abbrev zx_exponentMask (i : Nat) : Int32 := ([255, 2047] : List Int32).getD i 0
abbrev zx_leastPower (i : Nat) : Int32 := ([-149, -1074] : List Int32).getD i 0
abbrev zx_pw (j : Nat) : Int32 := ([1, 5, 25, 125, 625, 3125, 15625, 78125, 390625, 1953125, 9765625, 48828125, 244140625, 1220703125] : List Int32).getD j 0
abbrev zx_len : List Nat := [3, 8, 3]
abbrev zx_byt : List (List Int32) := [[78, 97, 78], [73, 110, 102, 105, 110, 105, 116, 121], [48, 46, 48]]
abbrev zx_E (adF : Nat → Nat) (tp : Nat) (adK adV : Nat → Nat) : (Nat → Prop) → State → Heap → Prop := fun A U H =>
  va_En "RealText$Format" "LRealText$Format;" ["FLOAT", "DOUBLE"] zx_F adF A U H ∧
  va_Z "RealText$Big" "POWERS_OF_FIVE" "[I" (.ref tp) A U H ∧
  va_T .int tp 14 (fun j => .int (zx_pw j)) A U H ∧
  vk_S 3 zx_len zx_byt adK adV A U H ∧
  (vk_R "RealText" 115 "NaN" (adK 0) U ∧ vk_R "RealText" 124 "Infinity" (adK 1) U ∧ vk_R "RealText" 126 "0.0" (adK 2) U) ∧
  va_Z "java/lang/String" "COMPACT_STRINGS" "Z" (.int 1) A U H ∧
  va_Zq "jdk/internal/util/Preconditions" "SIOOBE_FORMATTER" "Ljava/util/function/BiFunction;" A U H ∧
  va_Zq "java/lang/Throwable" "UNASSIGNED_STACK" "[Ljava/lang/StackTraceElement;" A U H ∧
  va_Zq "java/lang/Throwable" "SUPPRESSED_SENTINEL" "Ljava/util/List;" A U H
theorem zx_ok (adF : Nat → Nat) (tp : Nat) (adK adV : Nat → Nat) : zz_E (zx_E adF tp adK adV) := by
  refine ⟨fun A u U H hW h => ?_, fun A U H H1 h hq => ?_, fun A B U H h hAB => ?_⟩
  · obtain ⟨h1, h2, h3, h4, ⟨h5, h6, h7⟩, h8, h9, h10, h11⟩ := h
    exact ⟨va_En.moved hW.alike h1, va_Z.moved hW.alike h2, va_T.moved hW.alike h3, vk_S.moved hW.alike h4, ⟨vk_R.warm hW h5, vk_R.warm hW h6, vk_R.warm hW h7⟩, va_Z.moved hW.alike h8, va_Zq.moved hW.alike h9, va_Zq.moved hW.alike h10, va_Zq.moved hW.alike h11⟩
  · obtain ⟨h1, h2, h3, h4, h5, h8, h9, h10, h11⟩ := h
    exact ⟨h1.kept hq, h2.kept hq, h3.kept hq, h4.kept hq, h5, h8.kept hq, h9.kept hq, h10.kept hq, h11.kept hq⟩
  · obtain ⟨h1, h2, h3, h4, h5, h8, h9, h10, h11⟩ := h
    exact ⟨h1.narrow hAB, h2.narrow hAB, h3.narrow hAB, h4.narrow hAB, h5, h8.narrow hAB, h9.narrow hAB, h10.narrow hAB, h11.narrow hAB⟩
end
section
abbrev ws_Fmt_infinity : List Cond := .code y_Fmt_infinity prog_4_method_4_code 1 (some .long) :: zw
abbrev rm_Fmt_infinity : Room := { frames := 0, cells := 0, slots := 0, locals := 0 }
theorem hd_Fmt_infinity : y_Fmt_infinity.cls = "RealText$Format" ∧ y_Fmt_infinity.cls ≠ "java/lang/invoke/MethodHandle" ∧ y_Fmt_infinity.cls ≠ "java/lang/invoke/VarHandle" ∧ (parseMethodDescriptor y_Fmt_infinity.desc).map (fun d => d.parameters.length) = some 0 := by decide +kernel
theorem d_Fmt_infinity_0 : decode prog_4_method_4_code 0 = .ok (.aload_n 0, 1) := by decide +kernel
theorem d_Fmt_infinity_1 : decode prog_4_method_4_code 1 = .ok (.getfield 35, 3) := by decide +kernel
theorem d_Fmt_infinity_4 : decode prog_4_method_4_code 4 = .ok (.i2l, 1) := by decide +kernel
theorem d_Fmt_infinity_5 : decode prog_4_method_4_code 5 = .ok (.aload_n 0, 1) := by decide +kernel
theorem d_Fmt_infinity_6 : decode prog_4_method_4_code 6 = .ok (.getfield 31, 3) := by decide +kernel
theorem d_Fmt_infinity_9 : decode prog_4_method_4_code 9 = .ok (.lshl, 1) := by decide +kernel
theorem d_Fmt_infinity_10 : decode prog_4_method_4_code 10 = .ok (.lreturn, 1) := by decide +kernel
def f_Fmt_infinity (x0 : Nat) : Option (Int64) :=
  some (((zx_exponentMask x0).toInt64) <<< ((zx_fractionBits x0).toInt64 &&& 63))
set_option maxHeartbeats 4000000 in
set_option maxRecDepth 100000 in
theorem c_Fmt_infinity (l : Launch) (dC : Nat → ClassId) (dI : Nat → Nat → Nat) (cI cC cB cJ : ClassId) (adF : Nat → Nat) (tp : Nat) (adK adV : Nat → Nat) (sz : Nat) (x0 : Nat) (he_x0 : x0 < 2) (u : Int64) (hf : f_Fmt_infinity x0 = some u) : Met l y_Fmt_infinity ws_Fmt_infinity rm_Fmt_infinity (zz_P (zx_E adF tp adK adV) (dC, dI) vwCl (zz_tys cI cC cB cJ) [.ref (adF x0)] [] sz) (zz_Ql (dC, dI) vwCl u [] (va_A [] sz)) 0 0 (va_A [] sz) := by
  refine Met.ofW (cc := prog_4_method_4_code) (maxL := 1) (ret := (some .long)) (by decide +kernel) rfl ?_
  intro p e s m args below meth c s₁ B hml hv
  obtain ⟨rfl, hsz, hP, hK, hD0, hX⟩ := hv
  have hx := B.exec
  have hb := B.bytes
  have hr := B.returns
  have hts := atoms_spec (ws := ws_Fmt_infinity) B.pre
  have hw : ∀ w ∈ zw, w.before [.ref (adF x0)].toArray s = true := fun w h => hts w (List.mem_cons_of_mem _ h)
  have hown : s.vm.findClass R_Fmt = some m.cls := findClass_of_methodNamed B.named
  have hlocks := B.notSynchronized
  subst hsz
  have hD := hD0.self (sz := s.heap.size)
  generalize hAe : va_A [] s.heap.size = A at hD hX ⊢
  have hA : ∀ q : Nat, s.heap.size ≤ q → A q := fun q h => by rw [← hAe]; exact Or.inr h
  have hS : va_S A s.heap s.heap [] := va_S.rf
  have hl := lv_entry [.ref (adF x0)] (n := 1) (Nat.le_of_ble_eq_true rfl)
  rw [lg_entry_eq]
  generalize (lg_sl [.ref (adF x0)] ++ List.replicate (1 - (lg_sl [.ref (adF x0)]).length) Slot.unset).toArray = ls at hl ⊢
  have hl : lv_has ls 1 [(0, .ref (adF x0))] := hl
  refine zz_endl hx hb hr hlocks (fun Qq hend => ?_)
  unfold f_Fmt_infinity at hf
  refine lv_aload_n hx hb d_Fmt_infinity_0 rfl (lv_at hl 0 rfl) ?_
  refine va_getE (q := zx_q1) hx hb hX.1 he_x0 hS hown zx_m1 (hw _ wd_918) (fun _ h9 => h9) d_Fmt_infinity_1 ?_
  refine lv_i2l hx hb d_Fmt_infinity_4 rfl ?_
  refine lv_aload_n hx hb d_Fmt_infinity_5 rfl (lv_at hl 0 rfl) ?_
  refine va_getE (q := zx_q0) hx hb hX.1 he_x0 hS hown zx_m0 (hw _ wd_916) (fun _ h9 => h9) d_Fmt_infinity_6 ?_
  refine lv_lshl hx hb d_Fmt_infinity_9 rfl ?_
  cases hf
  exact hend 10 ls _ _ d_Fmt_infinity_10 hP hD hS
abbrev ws_Fmt_hiddenBit : List Cond := .code y_Fmt_hiddenBit prog_4_method_7_code 1 (some .long) :: zw
abbrev rm_Fmt_hiddenBit : Room := { frames := 0, cells := 0, slots := 0, locals := 0 }
theorem hd_Fmt_hiddenBit : y_Fmt_hiddenBit.cls = "RealText$Format" ∧ y_Fmt_hiddenBit.cls ≠ "java/lang/invoke/MethodHandle" ∧ y_Fmt_hiddenBit.cls ≠ "java/lang/invoke/VarHandle" ∧ (parseMethodDescriptor y_Fmt_hiddenBit.desc).map (fun d => d.parameters.length) = some 0 := by decide +kernel
theorem d_Fmt_hiddenBit_0 : decode prog_4_method_7_code 0 = .ok (.lconst 1, 1) := by decide +kernel
theorem d_Fmt_hiddenBit_1 : decode prog_4_method_7_code 1 = .ok (.aload_n 0, 1) := by decide +kernel
theorem d_Fmt_hiddenBit_2 : decode prog_4_method_7_code 2 = .ok (.getfield 31, 3) := by decide +kernel
theorem d_Fmt_hiddenBit_5 : decode prog_4_method_7_code 5 = .ok (.lshl, 1) := by decide +kernel
theorem d_Fmt_hiddenBit_6 : decode prog_4_method_7_code 6 = .ok (.lreturn, 1) := by decide +kernel
def f_Fmt_hiddenBit (x0 : Nat) : Option (Int64) :=
  some (1 <<< ((zx_fractionBits x0).toInt64 &&& 63))
set_option maxHeartbeats 4000000 in
set_option maxRecDepth 100000 in
theorem c_Fmt_hiddenBit (l : Launch) (dC : Nat → ClassId) (dI : Nat → Nat → Nat) (cI cC cB cJ : ClassId) (adF : Nat → Nat) (tp : Nat) (adK adV : Nat → Nat) (sz : Nat) (x0 : Nat) (he_x0 : x0 < 2) (u : Int64) (hf : f_Fmt_hiddenBit x0 = some u) : Met l y_Fmt_hiddenBit ws_Fmt_hiddenBit rm_Fmt_hiddenBit (zz_P (zx_E adF tp adK adV) (dC, dI) vwCl (zz_tys cI cC cB cJ) [.ref (adF x0)] [] sz) (zz_Ql (dC, dI) vwCl u [] (va_A [] sz)) 0 0 (va_A [] sz) := by
  refine Met.ofW (cc := prog_4_method_7_code) (maxL := 1) (ret := (some .long)) (by decide +kernel) rfl ?_
  intro p e s m args below meth c s₁ B hml hv
  obtain ⟨rfl, hsz, hP, hK, hD0, hX⟩ := hv
  have hx := B.exec
  have hb := B.bytes
  have hr := B.returns
  have hts := atoms_spec (ws := ws_Fmt_hiddenBit) B.pre
  have hw : ∀ w ∈ zw, w.before [.ref (adF x0)].toArray s = true := fun w h => hts w (List.mem_cons_of_mem _ h)
  have hown : s.vm.findClass R_Fmt = some m.cls := findClass_of_methodNamed B.named
  have hlocks := B.notSynchronized
  subst hsz
  have hD := hD0.self (sz := s.heap.size)
  generalize hAe : va_A [] s.heap.size = A at hD hX ⊢
  have hA : ∀ q : Nat, s.heap.size ≤ q → A q := fun q h => by rw [← hAe]; exact Or.inr h
  have hS : va_S A s.heap s.heap [] := va_S.rf
  have hl := lv_entry [.ref (adF x0)] (n := 1) (Nat.le_of_ble_eq_true rfl)
  rw [lg_entry_eq]
  generalize (lg_sl [.ref (adF x0)] ++ List.replicate (1 - (lg_sl [.ref (adF x0)]).length) Slot.unset).toArray = ls at hl ⊢
  have hl : lv_has ls 1 [(0, .ref (adF x0))] := hl
  refine zz_endl hx hb hr hlocks (fun Qq hend => ?_)
  unfold f_Fmt_hiddenBit at hf
  refine lv_lconst (v := 1) hx hb d_Fmt_hiddenBit_0 (by decide) ?_
  refine lv_aload_n hx hb d_Fmt_hiddenBit_1 rfl (lv_at hl 0 rfl) ?_
  refine va_getE (q := zx_q0) hx hb hX.1 he_x0 hS hown zx_m0 (hw _ wd_916) (fun _ h9 => h9) d_Fmt_hiddenBit_2 ?_
  refine lv_lshl hx hb d_Fmt_hiddenBit_5 rfl ?_
  cases hf
  exact hend 6 ls _ _ d_Fmt_hiddenBit_6 hP hD hS
abbrev ws_Fmt_fractionMask : List Cond := .code y_Fmt_fractionMask prog_4_method_8_code 1 (some .long) :: zw
abbrev rm_Fmt_fractionMask : Room := { frames := 1, cells := 0, slots := 0, locals := 20 }
theorem hd_Fmt_fractionMask : y_Fmt_fractionMask.cls = "RealText$Format" ∧ y_Fmt_fractionMask.cls ≠ "java/lang/invoke/MethodHandle" ∧ y_Fmt_fractionMask.cls ≠ "java/lang/invoke/VarHandle" ∧ (parseMethodDescriptor y_Fmt_fractionMask.desc).map (fun d => d.parameters.length) = some 0 := by decide +kernel
theorem d_Fmt_fractionMask_0 : decode prog_4_method_8_code 0 = .ok (.aload_n 0, 1) := by decide +kernel
theorem d_Fmt_fractionMask_1 : decode prog_4_method_8_code 1 = .ok (.invokevirtual 51, 3) := by decide +kernel
theorem d_Fmt_fractionMask_4 : decode prog_4_method_8_code 4 = .ok (.lconst 1, 1) := by decide +kernel
theorem d_Fmt_fractionMask_5 : decode prog_4_method_8_code 5 = .ok (.lsub, 1) := by decide +kernel
theorem d_Fmt_fractionMask_6 : decode prog_4_method_8_code 6 = .ok (.lreturn, 1) := by decide +kernel
def f_Fmt_fractionMask (x0 : Nat) : Option (Int64) :=
  (f_Fmt_hiddenBit x0).bind fun u_1 =>
  some (u_1 - 1)
set_option maxHeartbeats 4000000 in
set_option maxRecDepth 100000 in
theorem c_Fmt_fractionMask (l : Launch) (dC : Nat → ClassId) (dI : Nat → Nat → Nat) (cI cC cB cJ : ClassId) (adF : Nat → Nat) (tp : Nat) (adK adV : Nat → Nat) (sz : Nat) (x0 : Nat) (he_x0 : x0 < 2) (u : Int64) (hf : f_Fmt_fractionMask x0 = some u) : Met l y_Fmt_fractionMask ws_Fmt_fractionMask rm_Fmt_fractionMask (zz_P (zx_E adF tp adK adV) (dC, dI) vwCl (zz_tys cI cC cB cJ) [.ref (adF x0)] [] sz) (zz_Ql (dC, dI) vwCl u [] (va_A [] sz)) 0 0 (va_A [] sz) := by
  refine Met.ofW (cc := prog_4_method_8_code) (maxL := 1) (ret := (some .long)) (by decide +kernel) rfl ?_
  intro p e s m args below meth c s₁ B hml hv
  obtain ⟨rfl, hsz, hP, hK, hD0, hX⟩ := hv
  have hx := B.exec
  have hb := B.bytes
  have hr := B.returns
  have hts := atoms_spec (ws := ws_Fmt_fractionMask) B.pre
  have hw : ∀ w ∈ zw, w.before [.ref (adF x0)].toArray s = true := fun w h => hts w (List.mem_cons_of_mem _ h)
  have hown : s.vm.findClass R_Fmt = some m.cls := findClass_of_methodNamed B.named
  have hlocks := B.notSynchronized
  subst hsz
  have hD := hD0.self (sz := s.heap.size)
  generalize hAe : va_A [] s.heap.size = A at hD hX ⊢
  have hA : ∀ q : Nat, s.heap.size ≤ q → A q := fun q h => by rw [← hAe]; exact Or.inr h
  have hS : va_S A s.heap s.heap [] := va_S.rf
  have hl := lv_entry [.ref (adF x0)] (n := 1) (Nat.le_of_ble_eq_true rfl)
  rw [lg_entry_eq]
  generalize (lg_sl [.ref (adF x0)] ++ List.replicate (1 - (lg_sl [.ref (adF x0)]).length) Slot.unset).toArray = ls at hl ⊢
  have hl : lv_has ls 1 [(0, .ref (adF x0))] := hl
  refine zz_endl hx hb hr hlocks (fun Qq hend => ?_)
  unfold f_Fmt_fractionMask at hf
  refine lv_aload_n hx hb d_Fmt_fractionMask_0 rfl (lv_at hl 0 rfl) ?_
  obtain ⟨u_1, hu_1, hf⟩ := zz_bd hf
  refine zz_cl (ws' := []) (wc := []) (w' := []) hP hD hS hA [] [] [] rfl rfl (by decide) (by decide) rfl (by decide) (va_runV (As := []) (rest := []) ⟨hx, hb, hml, hown, hw⟩ (c_Fmt_hiddenBit l dC dI cI cC cB cJ adF tp adK adV _ x0 he_x0 u_1 hu_1) (cwV 0 hw (zg_V wd_217 wd_219 we_0_1 wd_15 wd_220) rfl rfl rfl hd_Fmt_hiddenBit ⟨Nat.le_of_ble_eq_true rfl, Nat.le_of_ble_eq_true rfl⟩) (zz_preV (zx_ok adF tp adK adV) (va_recvE hX.1 he_x0 hS) hP hD hK hS hA hX [] rfl (by decide)) rfl rfl hl.1 rfl (lv_room (Nat.le_of_ble_eq_true rfl)) d_Fmt_fractionMask_1 ⟨Nat.zero_le _, Nat.zero_le _⟩) (fun H locs hP hD hS => ?_)
  refine lv_lconst (v := 1) hx hb d_Fmt_fractionMask_4 (by decide) ?_
  refine lv_lsub hx hb d_Fmt_fractionMask_5 ?_
  cases hf
  exact hend 6 ls _ _ d_Fmt_fractionMask_6 hP hD hS
abbrev ws_Fmt_magnitudeMask : List Cond := .code y_Fmt_magnitudeMask prog_4_method_5_code 1 (some .long) :: zw
abbrev rm_Fmt_magnitudeMask : Room := { frames := 2, cells := 0, slots := 0, locals := 40 }
theorem hd_Fmt_magnitudeMask : y_Fmt_magnitudeMask.cls = "RealText$Format" ∧ y_Fmt_magnitudeMask.cls ≠ "java/lang/invoke/MethodHandle" ∧ y_Fmt_magnitudeMask.cls ≠ "java/lang/invoke/VarHandle" ∧ (parseMethodDescriptor y_Fmt_magnitudeMask.desc).map (fun d => d.parameters.length) = some 0 := by decide +kernel
theorem d_Fmt_magnitudeMask_0 : decode prog_4_method_5_code 0 = .ok (.aload_n 0, 1) := by decide +kernel
theorem d_Fmt_magnitudeMask_1 : decode prog_4_method_5_code 1 = .ok (.invokevirtual 41, 3) := by decide +kernel
theorem d_Fmt_magnitudeMask_4 : decode prog_4_method_5_code 4 = .ok (.aload_n 0, 1) := by decide +kernel
theorem d_Fmt_magnitudeMask_5 : decode prog_4_method_5_code 5 = .ok (.invokevirtual 45, 3) := by decide +kernel
theorem d_Fmt_magnitudeMask_8 : decode prog_4_method_5_code 8 = .ok (.lor, 1) := by decide +kernel
theorem d_Fmt_magnitudeMask_9 : decode prog_4_method_5_code 9 = .ok (.lreturn, 1) := by decide +kernel
def f_Fmt_magnitudeMask (x0 : Nat) : Option (Int64) :=
  (f_Fmt_infinity x0).bind fun u_1 =>
  (f_Fmt_fractionMask x0).bind fun u_2 =>
  some (u_1 ||| u_2)
set_option maxHeartbeats 4000000 in
set_option maxRecDepth 100000 in
theorem c_Fmt_magnitudeMask (l : Launch) (dC : Nat → ClassId) (dI : Nat → Nat → Nat) (cI cC cB cJ : ClassId) (adF : Nat → Nat) (tp : Nat) (adK adV : Nat → Nat) (sz : Nat) (x0 : Nat) (he_x0 : x0 < 2) (u : Int64) (hf : f_Fmt_magnitudeMask x0 = some u) : Met l y_Fmt_magnitudeMask ws_Fmt_magnitudeMask rm_Fmt_magnitudeMask (zz_P (zx_E adF tp adK adV) (dC, dI) vwCl (zz_tys cI cC cB cJ) [.ref (adF x0)] [] sz) (zz_Ql (dC, dI) vwCl u [] (va_A [] sz)) 0 0 (va_A [] sz) := by
  refine Met.ofW (cc := prog_4_method_5_code) (maxL := 1) (ret := (some .long)) (by decide +kernel) rfl ?_
  intro p e s m args below meth c s₁ B hml hv
  obtain ⟨rfl, hsz, hP, hK, hD0, hX⟩ := hv
  have hx := B.exec
  have hb := B.bytes
  have hr := B.returns
  have hts := atoms_spec (ws := ws_Fmt_magnitudeMask) B.pre
  have hw : ∀ w ∈ zw, w.before [.ref (adF x0)].toArray s = true := fun w h => hts w (List.mem_cons_of_mem _ h)
  have hown : s.vm.findClass R_Fmt = some m.cls := findClass_of_methodNamed B.named
  have hlocks := B.notSynchronized
  subst hsz
  have hD := hD0.self (sz := s.heap.size)
  generalize hAe : va_A [] s.heap.size = A at hD hX ⊢
  have hA : ∀ q : Nat, s.heap.size ≤ q → A q := fun q h => by rw [← hAe]; exact Or.inr h
  have hS : va_S A s.heap s.heap [] := va_S.rf
  have hl := lv_entry [.ref (adF x0)] (n := 1) (Nat.le_of_ble_eq_true rfl)
  rw [lg_entry_eq]
  generalize (lg_sl [.ref (adF x0)] ++ List.replicate (1 - (lg_sl [.ref (adF x0)]).length) Slot.unset).toArray = ls at hl ⊢
  have hl : lv_has ls 1 [(0, .ref (adF x0))] := hl
  refine zz_endl hx hb hr hlocks (fun Qq hend => ?_)
  unfold f_Fmt_magnitudeMask at hf
  refine lv_aload_n hx hb d_Fmt_magnitudeMask_0 rfl (lv_at hl 0 rfl) ?_
  obtain ⟨u_1, hu_1, hf⟩ := zz_bd hf
  refine zz_cl (ws' := []) (wc := []) (w' := []) hP hD hS hA [] [] [] rfl rfl (by decide) (by decide) rfl (by decide) (va_runV (As := []) (rest := []) ⟨hx, hb, hml, hown, hw⟩ (c_Fmt_infinity l dC dI cI cC cB cJ adF tp adK adV _ x0 he_x0 u_1 hu_1) (cwV 0 hw (zg_V wd_208 wd_209 wd_210 wd_15 wd_211) rfl rfl rfl hd_Fmt_infinity ⟨Nat.le_of_ble_eq_true rfl, Nat.le_of_ble_eq_true rfl⟩) (zz_preV (zx_ok adF tp adK adV) (va_recvE hX.1 he_x0 hS) hP hD hK hS hA hX [] rfl (by decide)) rfl rfl hl.1 rfl (lv_room (Nat.le_of_ble_eq_true rfl)) d_Fmt_magnitudeMask_1 ⟨Nat.zero_le _, Nat.zero_le _⟩) (fun H locs hP hD hS => ?_)
  refine lv_aload_n hx hb d_Fmt_magnitudeMask_4 rfl (lv_at hl 0 rfl) ?_
  obtain ⟨u_2, hu_2, hf⟩ := zz_bd hf
  refine zz_cl (ws' := []) (wc := []) (w' := []) hP hD hS hA [] [] [] rfl rfl (by decide) (by decide) rfl (by decide) (va_runV (As := []) (rest := [.long u_1]) ⟨hx, hb, hml, hown, hw⟩ (c_Fmt_fractionMask l dC dI cI cC cB cJ adF tp adK adV _ x0 he_x0 u_2 hu_2) (cwV 0 hw (zg_V wd_212 wd_214 we_0_0 wd_15 wd_216) rfl rfl rfl hd_Fmt_fractionMask ⟨Nat.le_of_ble_eq_true rfl, Nat.le_of_ble_eq_true rfl⟩) (zz_preV (zx_ok adF tp adK adV) (va_recvE hX.1 he_x0 hS) hP hD hK hS hA hX [] rfl (by decide)) rfl rfl hl.1 rfl (lv_room (Nat.le_of_ble_eq_true rfl)) d_Fmt_magnitudeMask_5 ⟨Nat.zero_le _, Nat.zero_le _⟩) (fun H locs hP hD hS => ?_)
  refine lv_lor hx hb d_Fmt_magnitudeMask_8 ?_
  cases hf
  exact hend 9 ls _ _ d_Fmt_magnitudeMask_9 hP hD hS
abbrev ws_Fmt_signMask : List Cond := .code y_Fmt_signMask prog_4_method_6_code 1 (some .long) :: zw
abbrev rm_Fmt_signMask : Room := { frames := 3, cells := 0, slots := 0, locals := 60 }
theorem hd_Fmt_signMask : y_Fmt_signMask.cls = "RealText$Format" ∧ y_Fmt_signMask.cls ≠ "java/lang/invoke/MethodHandle" ∧ y_Fmt_signMask.cls ≠ "java/lang/invoke/VarHandle" ∧ (parseMethodDescriptor y_Fmt_signMask.desc).map (fun d => d.parameters.length) = some 0 := by decide +kernel
theorem d_Fmt_signMask_0 : decode prog_4_method_6_code 0 = .ok (.aload_n 0, 1) := by decide +kernel
theorem d_Fmt_signMask_1 : decode prog_4_method_6_code 1 = .ok (.invokevirtual 48, 3) := by decide +kernel
theorem d_Fmt_signMask_4 : decode prog_4_method_6_code 4 = .ok (.lconst 1, 1) := by decide +kernel
theorem d_Fmt_signMask_5 : decode prog_4_method_6_code 5 = .ok (.ladd, 1) := by decide +kernel
theorem d_Fmt_signMask_6 : decode prog_4_method_6_code 6 = .ok (.lreturn, 1) := by decide +kernel
def f_Fmt_signMask (x0 : Nat) : Option (Int64) :=
  (f_Fmt_magnitudeMask x0).bind fun u_1 =>
  some (u_1 + 1)
set_option maxHeartbeats 4000000 in
set_option maxRecDepth 100000 in
theorem c_Fmt_signMask (l : Launch) (dC : Nat → ClassId) (dI : Nat → Nat → Nat) (cI cC cB cJ : ClassId) (adF : Nat → Nat) (tp : Nat) (adK adV : Nat → Nat) (sz : Nat) (x0 : Nat) (he_x0 : x0 < 2) (u : Int64) (hf : f_Fmt_signMask x0 = some u) : Met l y_Fmt_signMask ws_Fmt_signMask rm_Fmt_signMask (zz_P (zx_E adF tp adK adV) (dC, dI) vwCl (zz_tys cI cC cB cJ) [.ref (adF x0)] [] sz) (zz_Ql (dC, dI) vwCl u [] (va_A [] sz)) 0 0 (va_A [] sz) := by
  refine Met.ofW (cc := prog_4_method_6_code) (maxL := 1) (ret := (some .long)) (by decide +kernel) rfl ?_
  intro p e s m args below meth c s₁ B hml hv
  obtain ⟨rfl, hsz, hP, hK, hD0, hX⟩ := hv
  have hx := B.exec
  have hb := B.bytes
  have hr := B.returns
  have hts := atoms_spec (ws := ws_Fmt_signMask) B.pre
  have hw : ∀ w ∈ zw, w.before [.ref (adF x0)].toArray s = true := fun w h => hts w (List.mem_cons_of_mem _ h)
  have hown : s.vm.findClass R_Fmt = some m.cls := findClass_of_methodNamed B.named
  have hlocks := B.notSynchronized
  subst hsz
  have hD := hD0.self (sz := s.heap.size)
  generalize hAe : va_A [] s.heap.size = A at hD hX ⊢
  have hA : ∀ q : Nat, s.heap.size ≤ q → A q := fun q h => by rw [← hAe]; exact Or.inr h
  have hS : va_S A s.heap s.heap [] := va_S.rf
  have hl := lv_entry [.ref (adF x0)] (n := 1) (Nat.le_of_ble_eq_true rfl)
  rw [lg_entry_eq]
  generalize (lg_sl [.ref (adF x0)] ++ List.replicate (1 - (lg_sl [.ref (adF x0)]).length) Slot.unset).toArray = ls at hl ⊢
  have hl : lv_has ls 1 [(0, .ref (adF x0))] := hl
  refine zz_endl hx hb hr hlocks (fun Qq hend => ?_)
  unfold f_Fmt_signMask at hf
  refine lv_aload_n hx hb d_Fmt_signMask_0 rfl (lv_at hl 0 rfl) ?_
  obtain ⟨u_1, hu_1, hf⟩ := zz_bd hf
  refine zz_cl (ws' := []) (wc := []) (w' := []) hP hD hS hA [] [] [] rfl rfl (by decide) (by decide) rfl (by decide) (va_runV (As := []) (rest := []) ⟨hx, hb, hml, hown, hw⟩ (c_Fmt_magnitudeMask l dC dI cI cC cB cJ adF tp adK adV _ x0 he_x0 u_1 hu_1) (cwV 0 hw (zg_V wd_291 wd_205 wd_206 wd_15 wd_207) rfl rfl rfl hd_Fmt_magnitudeMask ⟨Nat.le_of_ble_eq_true rfl, Nat.le_of_ble_eq_true rfl⟩) (zz_preV (zx_ok adF tp adK adV) (va_recvE hX.1 he_x0 hS) hP hD hK hS hA hX [] rfl (by decide)) rfl rfl hl.1 rfl (lv_room (Nat.le_of_ble_eq_true rfl)) d_Fmt_signMask_1 ⟨Nat.zero_le _, Nat.zero_le _⟩) (fun H locs hP hD hS => ?_)
  refine lv_lconst (v := 1) hx hb d_Fmt_signMask_4 (by decide) ?_
  refine lv_ladd hx hb d_Fmt_signMask_5 ?_
  cases hf
  exact hend 6 ls _ _ d_Fmt_signMask_6 hP hD hS
abbrev ws_Fmt_exponentOf : List Cond := .code y_Fmt_exponentOf prog_4_method_9_code 3 (some .int) :: zw
abbrev rm_Fmt_exponentOf : Room := { frames := 0, cells := 0, slots := 0, locals := 0 }
theorem hd_Fmt_exponentOf : y_Fmt_exponentOf.cls = "RealText$Format" ∧ y_Fmt_exponentOf.cls ≠ "java/lang/invoke/MethodHandle" ∧ y_Fmt_exponentOf.cls ≠ "java/lang/invoke/VarHandle" ∧ (parseMethodDescriptor y_Fmt_exponentOf.desc).map (fun d => d.parameters.length) = some 1 := by decide +kernel
theorem d_Fmt_exponentOf_0 : decode prog_4_method_9_code 0 = .ok (.lload_n 1, 1) := by decide +kernel
theorem d_Fmt_exponentOf_1 : decode prog_4_method_9_code 1 = .ok (.aload_n 0, 1) := by decide +kernel
theorem d_Fmt_exponentOf_2 : decode prog_4_method_9_code 2 = .ok (.getfield 31, 3) := by decide +kernel
theorem d_Fmt_exponentOf_5 : decode prog_4_method_9_code 5 = .ok (.lushr, 1) := by decide +kernel
theorem d_Fmt_exponentOf_6 : decode prog_4_method_9_code 6 = .ok (.l2i, 1) := by decide +kernel
theorem d_Fmt_exponentOf_7 : decode prog_4_method_9_code 7 = .ok (.ireturn, 1) := by decide +kernel
def f_Fmt_exponentOf (x0 : Nat) (x1 : Int64) : Option (Int32) :=
  some (((x1.toUInt64 >>> ((zx_fractionBits x0).toInt64.toUInt64 &&& Int64.toUInt64 63)).toInt64).toInt32)
set_option maxHeartbeats 4000000 in
set_option maxRecDepth 100000 in
theorem c_Fmt_exponentOf (l : Launch) (dC : Nat → ClassId) (dI : Nat → Nat → Nat) (cI cC cB cJ : ClassId) (adF : Nat → Nat) (tp : Nat) (adK adV : Nat → Nat) (sz : Nat) (x0 : Nat) (x1 : Int64) (he_x0 : x0 < 2) (u : Int32) (hf : f_Fmt_exponentOf x0 x1 = some u) : Met l y_Fmt_exponentOf ws_Fmt_exponentOf rm_Fmt_exponentOf (zz_P (zx_E adF tp adK adV) (dC, dI) vwCl (zz_tys cI cC cB cJ) [.ref (adF x0), .long x1] [] sz) (zz_Qi (dC, dI) vwCl u [] (va_A [] sz)) 0 0 (va_A [] sz) := by
  refine Met.ofW (cc := prog_4_method_9_code) (maxL := 3) (ret := (some .int)) (by decide +kernel) rfl ?_
  intro p e s m args below meth c s₁ B hml hv
  obtain ⟨rfl, hsz, hP, hK, hD0, hX⟩ := hv
  have hx := B.exec
  have hb := B.bytes
  have hr := B.returns
  have hts := atoms_spec (ws := ws_Fmt_exponentOf) B.pre
  have hw : ∀ w ∈ zw, w.before [.ref (adF x0), .long x1].toArray s = true := fun w h => hts w (List.mem_cons_of_mem _ h)
  have hown : s.vm.findClass R_Fmt = some m.cls := findClass_of_methodNamed B.named
  have hlocks := B.notSynchronized
  subst hsz
  have hD := hD0.self (sz := s.heap.size)
  generalize hAe : va_A [] s.heap.size = A at hD hX ⊢
  have hA : ∀ q : Nat, s.heap.size ≤ q → A q := fun q h => by rw [← hAe]; exact Or.inr h
  have hS : va_S A s.heap s.heap [] := va_S.rf
  have hl := lv_entry [.ref (adF x0), .long x1] (n := 3) (Nat.le_of_ble_eq_true rfl)
  rw [lg_entry_eq]
  generalize (lg_sl [.ref (adF x0), .long x1] ++ List.replicate (3 - (lg_sl [.ref (adF x0), .long x1]).length) Slot.unset).toArray = ls at hl ⊢
  have hl : lv_has ls 3 [(0, .ref (adF x0)), (1, .long x1)] := hl
  refine zz_endi hx hb hr hlocks (fun Qq hend => ?_)
  unfold f_Fmt_exponentOf at hf
  refine lv_lload_n hx hb d_Fmt_exponentOf_0 rfl (lv_at hl 1 rfl) ?_
  refine lv_aload_n hx hb d_Fmt_exponentOf_1 rfl (lv_at hl 0 rfl) ?_
  refine va_getE (q := zx_q0) hx hb hX.1 he_x0 hS hown zx_m0 (hw _ wd_916) (fun _ h9 => h9) d_Fmt_exponentOf_2 ?_
  refine lv_lushr hx hb d_Fmt_exponentOf_5 rfl ?_
  refine lv_l2i hx hb d_Fmt_exponentOf_6 rfl ?_
  cases hf
  exact hend 7 ls _ _ d_Fmt_exponentOf_7 hP hD hS
abbrev ws_Fmt_significandOf : List Cond := .code y_Fmt_significandOf prog_4_method_10_code 5 (some .long) :: zw
abbrev rm_Fmt_significandOf : Room := { frames := 2, cells := 0, slots := 0, locals := 40 }
theorem hd_Fmt_significandOf : y_Fmt_significandOf.cls = "RealText$Format" ∧ y_Fmt_significandOf.cls ≠ "java/lang/invoke/MethodHandle" ∧ y_Fmt_significandOf.cls ≠ "java/lang/invoke/VarHandle" ∧ (parseMethodDescriptor y_Fmt_significandOf.desc).map (fun d => d.parameters.length) = some 1 := by decide +kernel
theorem d_Fmt_significandOf_0 : decode prog_4_method_10_code 0 = .ok (.lload_n 1, 1) := by decide +kernel
theorem d_Fmt_significandOf_1 : decode prog_4_method_10_code 1 = .ok (.aload_n 0, 1) := by decide +kernel
theorem d_Fmt_significandOf_2 : decode prog_4_method_10_code 2 = .ok (.invokevirtual 45, 3) := by decide +kernel
theorem d_Fmt_significandOf_5 : decode prog_4_method_10_code 5 = .ok (.land, 1) := by decide +kernel
theorem d_Fmt_significandOf_6 : decode prog_4_method_10_code 6 = .ok (.lstore_n 3, 1) := by decide +kernel
theorem d_Fmt_significandOf_7 : decode prog_4_method_10_code 7 = .ok (.aload_n 0, 1) := by decide +kernel
theorem d_Fmt_significandOf_8 : decode prog_4_method_10_code 8 = .ok (.lload_n 1, 1) := by decide +kernel
theorem d_Fmt_significandOf_9 : decode prog_4_method_10_code 9 = .ok (.invokevirtual 54, 3) := by decide +kernel
theorem d_Fmt_significandOf_12 : decode prog_4_method_10_code 12 = .ok (.ifCond .ne 7, 3) := by decide +kernel
theorem d_Fmt_significandOf_15 : decode prog_4_method_10_code 15 = .ok (.lload_n 3, 1) := by decide +kernel
theorem d_Fmt_significandOf_16 : decode prog_4_method_10_code 16 = .ok (.goto 9, 3) := by decide +kernel
theorem d_Fmt_significandOf_19 : decode prog_4_method_10_code 19 = .ok (.lload_n 3, 1) := by decide +kernel
theorem d_Fmt_significandOf_20 : decode prog_4_method_10_code 20 = .ok (.aload_n 0, 1) := by decide +kernel
theorem d_Fmt_significandOf_21 : decode prog_4_method_10_code 21 = .ok (.invokevirtual 51, 3) := by decide +kernel
theorem d_Fmt_significandOf_24 : decode prog_4_method_10_code 24 = .ok (.lor, 1) := by decide +kernel
theorem d_Fmt_significandOf_25 : decode prog_4_method_10_code 25 = .ok (.lreturn, 1) := by decide +kernel
def f_Fmt_significandOf (x0 : Nat) (x1 : Int64) : Option (Int64) :=
  (f_Fmt_fractionMask x0).bind fun u_1 =>
  zz_lt (x1 &&& u_1) fun x3_2 =>
  (f_Fmt_exponentOf x0 x1).bind fun u_3 =>
  (if u_3 = 0 then
  some (x3_2)
  else
  (f_Fmt_hiddenBit x0).bind fun u_4 =>
  some (x3_2 ||| u_4))
set_option maxHeartbeats 4000000 in
set_option maxRecDepth 100000 in
theorem c_Fmt_significandOf (l : Launch) (dC : Nat → ClassId) (dI : Nat → Nat → Nat) (cI cC cB cJ : ClassId) (adF : Nat → Nat) (tp : Nat) (adK adV : Nat → Nat) (sz : Nat) (x0 : Nat) (x1 : Int64) (he_x0 : x0 < 2) (u : Int64) (hf : f_Fmt_significandOf x0 x1 = some u) : Met l y_Fmt_significandOf ws_Fmt_significandOf rm_Fmt_significandOf (zz_P (zx_E adF tp adK adV) (dC, dI) vwCl (zz_tys cI cC cB cJ) [.ref (adF x0), .long x1] [] sz) (zz_Ql (dC, dI) vwCl u [] (va_A [] sz)) 0 0 (va_A [] sz) := by
  refine Met.ofW (cc := prog_4_method_10_code) (maxL := 5) (ret := (some .long)) (by decide +kernel) rfl ?_
  intro p e s m args below meth c s₁ B hml hv
  obtain ⟨rfl, hsz, hP, hK, hD0, hX⟩ := hv
  have hx := B.exec
  have hb := B.bytes
  have hr := B.returns
  have hts := atoms_spec (ws := ws_Fmt_significandOf) B.pre
  have hw : ∀ w ∈ zw, w.before [.ref (adF x0), .long x1].toArray s = true := fun w h => hts w (List.mem_cons_of_mem _ h)
  have hown : s.vm.findClass R_Fmt = some m.cls := findClass_of_methodNamed B.named
  have hlocks := B.notSynchronized
  subst hsz
  have hD := hD0.self (sz := s.heap.size)
  generalize hAe : va_A [] s.heap.size = A at hD hX ⊢
  have hA : ∀ q : Nat, s.heap.size ≤ q → A q := fun q h => by rw [← hAe]; exact Or.inr h
  have hS : va_S A s.heap s.heap [] := va_S.rf
  have hl := lv_entry [.ref (adF x0), .long x1] (n := 5) (Nat.le_of_ble_eq_true rfl)
  rw [lg_entry_eq]
  generalize (lg_sl [.ref (adF x0), .long x1] ++ List.replicate (5 - (lg_sl [.ref (adF x0), .long x1]).length) Slot.unset).toArray = ls at hl ⊢
  have hl : lv_has ls 5 [(0, .ref (adF x0)), (1, .long x1)] := hl
  refine zz_endl hx hb hr hlocks (fun Qq hend => ?_)
  unfold f_Fmt_significandOf at hf
  refine lv_lload_n hx hb d_Fmt_significandOf_0 rfl (lv_at hl 1 rfl) ?_
  refine lv_aload_n hx hb d_Fmt_significandOf_1 rfl (lv_at hl 0 rfl) ?_
  obtain ⟨u_1, hu_1, hf⟩ := zz_bd hf
  refine zz_cl (ws' := []) (wc := []) (w' := []) hP hD hS hA [] [] [] rfl rfl (by decide) (by decide) rfl (by decide) (va_runV (As := []) (rest := [.long x1]) ⟨hx, hb, hml, hown, hw⟩ (c_Fmt_fractionMask l dC dI cI cC cB cJ adF tp adK adV _ x0 he_x0 u_1 hu_1) (cwV 0 hw (zg_V wd_212 wd_214 we_0_0 wd_15 wd_216) rfl rfl rfl hd_Fmt_fractionMask ⟨Nat.le_of_ble_eq_true rfl, Nat.le_of_ble_eq_true rfl⟩) (zz_preV (zx_ok adF tp adK adV) (va_recvE hX.1 he_x0 hS) hP hD hK hS hA hX [] rfl (by decide)) rfl rfl hl.1 rfl (lv_room (Nat.le_of_ble_eq_true rfl)) d_Fmt_significandOf_2 ⟨Nat.zero_le _, Nat.zero_le _⟩) (fun H locs hP hD hS => ?_)
  refine lv_land hx hb d_Fmt_significandOf_5 ?_
  refine lv_topl (fun x3_2 e_x3_2 => ?_)
  have hf := zz_ltp hf x3_2 e_x3_2
  refine lv_lstore_n hx hb d_Fmt_significandOf_6 rfl hl (by decide) rfl (fun ls hl => ?_)
  have hl : lv_has ls 5 [(3, .long x3_2), (0, .ref (adF x0)), (1, .long x1)] := hl
  refine lv_aload_n hx hb d_Fmt_significandOf_7 rfl (lv_at hl 1 rfl) ?_
  refine lv_lload_n hx hb d_Fmt_significandOf_8 rfl (lv_at hl 2 rfl) ?_
  obtain ⟨u_3, hu_3, hf⟩ := zz_bd hf
  refine zz_ci (ws' := []) (wc := []) (w' := []) hP hD hS hA [] [] [] rfl rfl (by decide) (by decide) rfl (by decide) (va_runV (As := [.long x1]) (rest := []) ⟨hx, hb, hml, hown, hw⟩ (c_Fmt_exponentOf l dC dI cI cC cB cJ adF tp adK adV _ x0 x1 he_x0 u_3 hu_3) (cwV 1 hw (zg_V wd_303 wd_305 we_0_2 wd_15 wd_306) rfl rfl rfl hd_Fmt_exponentOf ⟨Nat.le_of_ble_eq_true rfl, Nat.le_of_ble_eq_true rfl⟩) (zz_preV (zx_ok adF tp adK adV) (va_recvE hX.1 he_x0 hS) hP hD hK hS hA hX [] rfl (by decide)) rfl rfl hl.1 rfl (lv_room (Nat.le_of_ble_eq_true rfl)) d_Fmt_significandOf_9 ⟨Nat.zero_le _, Nat.zero_le _⟩) (fun H locs hP hD hS => ?_)
  refine lv_if_ne (tgt := 19) hx hb d_Fmt_significandOf_12 (by decide) (fun hc => ?_) (fun hc => ?_)
  · have hf := zz_ifn hc hf
    refine lv_lload_n hx hb d_Fmt_significandOf_19 rfl (lv_at hl 0 rfl) ?_
    refine lv_aload_n hx hb d_Fmt_significandOf_20 rfl (lv_at hl 1 rfl) ?_
    obtain ⟨u_4, hu_4, hf⟩ := zz_bd hf
    refine zz_cl (ws' := []) (wc := []) (w' := []) hP hD hS hA [] [] [] rfl rfl (by decide) (by decide) rfl (by decide) (va_runV (As := []) (rest := [.long x3_2]) ⟨hx, hb, hml, hown, hw⟩ (c_Fmt_hiddenBit l dC dI cI cC cB cJ adF tp adK adV _ x0 he_x0 u_4 hu_4) (cwV 0 hw (zg_V wd_217 wd_219 we_0_1 wd_15 wd_220) rfl rfl rfl hd_Fmt_hiddenBit ⟨Nat.le_of_ble_eq_true rfl, Nat.le_of_ble_eq_true rfl⟩) (zz_preV (zx_ok adF tp adK adV) (va_recvE hX.1 he_x0 hS) hP hD hK hS hA hX [] rfl (by decide)) rfl rfl hl.1 rfl (lv_room (Nat.le_of_ble_eq_true rfl)) d_Fmt_significandOf_21 ⟨Nat.zero_le _, Nat.zero_le _⟩) (fun H locs hP hD hS => ?_)
    refine lv_lor hx hb d_Fmt_significandOf_24 ?_
    cases hf
    exact hend 25 ls _ _ d_Fmt_significandOf_25 hP hD hS
  · have hf := zz_ifp hc hf
    refine lv_lload_n hx hb d_Fmt_significandOf_15 rfl (lv_at hl 0 rfl) ?_
    refine lv_goto (tgt := 25) hx hb d_Fmt_significandOf_16 (by decide) ?_
    cases hf
    exact hend 25 ls _ _ d_Fmt_significandOf_25 hP hD hS
abbrev ws_Fmt_powerOf : List Cond := .code y_Fmt_powerOf prog_4_method_11_code 3 (some .int) :: zw
abbrev rm_Fmt_powerOf : Room := { frames := 1, cells := 0, slots := 0, locals := 22 }
theorem hd_Fmt_powerOf : y_Fmt_powerOf.cls = "RealText$Format" ∧ y_Fmt_powerOf.cls ≠ "java/lang/invoke/MethodHandle" ∧ y_Fmt_powerOf.cls ≠ "java/lang/invoke/VarHandle" ∧ (parseMethodDescriptor y_Fmt_powerOf.desc).map (fun d => d.parameters.length) = some 1 := by decide +kernel
theorem d_Fmt_powerOf_0 : decode prog_4_method_11_code 0 = .ok (.aload_n 0, 1) := by decide +kernel
theorem d_Fmt_powerOf_1 : decode prog_4_method_11_code 1 = .ok (.getfield 38, 3) := by decide +kernel
theorem d_Fmt_powerOf_4 : decode prog_4_method_11_code 4 = .ok (.aload_n 0, 1) := by decide +kernel
theorem d_Fmt_powerOf_5 : decode prog_4_method_11_code 5 = .ok (.lload_n 1, 1) := by decide +kernel
theorem d_Fmt_powerOf_6 : decode prog_4_method_11_code 6 = .ok (.invokevirtual 54, 3) := by decide +kernel
theorem d_Fmt_powerOf_9 : decode prog_4_method_11_code 9 = .ok (.iconst 1, 1) := by decide +kernel
theorem d_Fmt_powerOf_10 : decode prog_4_method_11_code 10 = .ok (.isub, 1) := by decide +kernel
theorem d_Fmt_powerOf_11 : decode prog_4_method_11_code 11 = .ok (.iconst 0, 1) := by decide +kernel
theorem d_Fmt_powerOf_12 : decode prog_4_method_11_code 12 = .ok (.invokestatic 58, 3) := by decide +kernel
theorem d_Fmt_powerOf_15 : decode prog_4_method_11_code 15 = .ok (.iadd, 1) := by decide +kernel
theorem d_Fmt_powerOf_16 : decode prog_4_method_11_code 16 = .ok (.ireturn, 1) := by decide +kernel
def f_Fmt_powerOf (x0 : Nat) (x1 : Int64) : Option (Int32) :=
  (f_Fmt_exponentOf x0 x1).bind fun u_1 =>
  (f_Mat_max (u_1 - 1) 0).bind fun u_2 =>
  some ((zx_leastPower x0) + u_2)
set_option maxHeartbeats 4000000 in
set_option maxRecDepth 100000 in
theorem c_Fmt_powerOf (l : Launch) (dC : Nat → ClassId) (dI : Nat → Nat → Nat) (cI cC cB cJ : ClassId) (adF : Nat → Nat) (tp : Nat) (adK adV : Nat → Nat) (sz : Nat) (x0 : Nat) (x1 : Int64) (he_x0 : x0 < 2) (u : Int32) (hf : f_Fmt_powerOf x0 x1 = some u) : Met l y_Fmt_powerOf ws_Fmt_powerOf rm_Fmt_powerOf (zz_P (zx_E adF tp adK adV) (dC, dI) vwCl (zz_tys cI cC cB cJ) [.ref (adF x0), .long x1] [] sz) (zz_Qi (dC, dI) vwCl u [] (va_A [] sz)) 0 0 (va_A [] sz) := by
  refine Met.ofW (cc := prog_4_method_11_code) (maxL := 3) (ret := (some .int)) (by decide +kernel) rfl ?_
  intro p e s m args below meth c s₁ B hml hv
  obtain ⟨rfl, hsz, hP, hK, hD0, hX⟩ := hv
  have hx := B.exec
  have hb := B.bytes
  have hr := B.returns
  have hts := atoms_spec (ws := ws_Fmt_powerOf) B.pre
  have hw : ∀ w ∈ zw, w.before [.ref (adF x0), .long x1].toArray s = true := fun w h => hts w (List.mem_cons_of_mem _ h)
  have hown : s.vm.findClass R_Fmt = some m.cls := findClass_of_methodNamed B.named
  have hlocks := B.notSynchronized
  subst hsz
  have hD := hD0.self (sz := s.heap.size)
  generalize hAe : va_A [] s.heap.size = A at hD hX ⊢
  have hA : ∀ q : Nat, s.heap.size ≤ q → A q := fun q h => by rw [← hAe]; exact Or.inr h
  have hS : va_S A s.heap s.heap [] := va_S.rf
  have hl := lv_entry [.ref (adF x0), .long x1] (n := 3) (Nat.le_of_ble_eq_true rfl)
  rw [lg_entry_eq]
  generalize (lg_sl [.ref (adF x0), .long x1] ++ List.replicate (3 - (lg_sl [.ref (adF x0), .long x1]).length) Slot.unset).toArray = ls at hl ⊢
  have hl : lv_has ls 3 [(0, .ref (adF x0)), (1, .long x1)] := hl
  refine zz_endi hx hb hr hlocks (fun Qq hend => ?_)
  unfold f_Fmt_powerOf at hf
  refine lv_aload_n hx hb d_Fmt_powerOf_0 rfl (lv_at hl 0 rfl) ?_
  refine va_getE (q := zx_q2) hx hb hX.1 he_x0 hS hown zx_m2 (hw _ wd_917) (fun _ h9 => h9) d_Fmt_powerOf_1 ?_
  refine lv_aload_n hx hb d_Fmt_powerOf_4 rfl (lv_at hl 0 rfl) ?_
  refine lv_lload_n hx hb d_Fmt_powerOf_5 rfl (lv_at hl 1 rfl) ?_
  obtain ⟨u_1, hu_1, hf⟩ := zz_bd hf
  refine zz_ci (ws' := []) (wc := []) (w' := []) hP hD hS hA [] [] [] rfl rfl (by decide) (by decide) rfl (by decide) (va_runV (As := [.long x1]) (rest := [.int (zx_leastPower x0)]) ⟨hx, hb, hml, hown, hw⟩ (c_Fmt_exponentOf l dC dI cI cC cB cJ adF tp adK adV _ x0 x1 he_x0 u_1 hu_1) (cwV 1 hw (zg_V wd_303 wd_305 we_0_2 wd_15 wd_306) rfl rfl rfl hd_Fmt_exponentOf ⟨Nat.le_of_ble_eq_true rfl, Nat.le_of_ble_eq_true rfl⟩) (zz_preV (zx_ok adF tp adK adV) (va_recvE hX.1 he_x0 hS) hP hD hK hS hA hX [] rfl (by decide)) rfl rfl hl.1 rfl (lv_room (Nat.le_of_ble_eq_true rfl)) d_Fmt_powerOf_6 ⟨Nat.zero_le _, Nat.zero_le _⟩) (fun H locs hP hD hS => ?_)
  refine lv_iconst (v := 1) hx hb d_Fmt_powerOf_9 (by decide) ?_
  refine lv_isub hx hb d_Fmt_powerOf_10 ?_
  refine lv_iconst (v := 0) hx hb d_Fmt_powerOf_11 (by decide) ?_
  obtain ⟨u_2, hu_2, hf⟩ := zz_bd hf
  refine zz_ci (ws' := []) (wc := []) (w' := []) hP hD hS hA [] [] [] rfl rfl (by decide) (by decide) rfl (by decide) (va_runS (As := [.int (u_1 - 1), .int 0]) (rest := [.int (zx_leastPower x0)]) ⟨hx, hb, hml, hown, hw⟩ (c_Mat_max l dC dI cI cC cB cJ _ (u_1 - 1) 0 u_2 hu_2) (va_cwS 2 hw (zg_S wd_315 wd_316 wd_16 wd_317) rfl rfl rfl hd_Mat_max ⟨Nat.le_of_ble_eq_true rfl, Nat.le_of_ble_eq_true rfl⟩) (zz_preS zz_TE hP hD hK hS hA trivial [] rfl (by decide)) rfl rfl hl.1 rfl (lv_room (Nat.le_of_ble_eq_true rfl)) d_Fmt_powerOf_12 ⟨Nat.zero_le _, Nat.zero_le _⟩) (fun H locs hP hD hS => ?_)
  refine lv_iadd hx hb d_Fmt_powerOf_15 ?_
  cases hf
  exact hend 16 ls _ _ d_Fmt_powerOf_16 hP hD hS
abbrev ws_Fmt_isNarrowBelow : List Cond := .code y_Fmt_isNarrowBelow prog_4_method_12_code 3 (some .boolean) :: zw
abbrev rm_Fmt_isNarrowBelow : Room := { frames := 2, cells := 0, slots := 0, locals := 40 }
theorem hd_Fmt_isNarrowBelow : y_Fmt_isNarrowBelow.cls = "RealText$Format" ∧ y_Fmt_isNarrowBelow.cls ≠ "java/lang/invoke/MethodHandle" ∧ y_Fmt_isNarrowBelow.cls ≠ "java/lang/invoke/VarHandle" ∧ (parseMethodDescriptor y_Fmt_isNarrowBelow.desc).map (fun d => d.parameters.length) = some 1 := by decide +kernel
theorem d_Fmt_isNarrowBelow_0 : decode prog_4_method_12_code 0 = .ok (.aload_n 0, 1) := by decide +kernel
theorem d_Fmt_isNarrowBelow_1 : decode prog_4_method_12_code 1 = .ok (.lload_n 1, 1) := by decide +kernel
theorem d_Fmt_isNarrowBelow_2 : decode prog_4_method_12_code 2 = .ok (.invokevirtual 54, 3) := by decide +kernel
theorem d_Fmt_isNarrowBelow_5 : decode prog_4_method_12_code 5 = .ok (.iconst 1, 1) := by decide +kernel
theorem d_Fmt_isNarrowBelow_6 : decode prog_4_method_12_code 6 = .ok (.if_icmp .le 18, 3) := by decide +kernel
theorem d_Fmt_isNarrowBelow_9 : decode prog_4_method_12_code 9 = .ok (.lload_n 1, 1) := by decide +kernel
theorem d_Fmt_isNarrowBelow_10 : decode prog_4_method_12_code 10 = .ok (.aload_n 0, 1) := by decide +kernel
theorem d_Fmt_isNarrowBelow_11 : decode prog_4_method_12_code 11 = .ok (.invokevirtual 45, 3) := by decide +kernel
theorem d_Fmt_isNarrowBelow_14 : decode prog_4_method_12_code 14 = .ok (.land, 1) := by decide +kernel
theorem d_Fmt_isNarrowBelow_15 : decode prog_4_method_12_code 15 = .ok (.lconst 0, 1) := by decide +kernel
theorem d_Fmt_isNarrowBelow_16 : decode prog_4_method_12_code 16 = .ok (.lcmp, 1) := by decide +kernel
theorem d_Fmt_isNarrowBelow_17 : decode prog_4_method_12_code 17 = .ok (.ifCond .ne 7, 3) := by decide +kernel
theorem d_Fmt_isNarrowBelow_20 : decode prog_4_method_12_code 20 = .ok (.iconst 1, 1) := by decide +kernel
theorem d_Fmt_isNarrowBelow_21 : decode prog_4_method_12_code 21 = .ok (.goto 4, 3) := by decide +kernel
theorem d_Fmt_isNarrowBelow_24 : decode prog_4_method_12_code 24 = .ok (.iconst 0, 1) := by decide +kernel
theorem d_Fmt_isNarrowBelow_25 : decode prog_4_method_12_code 25 = .ok (.ireturn, 1) := by decide +kernel
def f_Fmt_isNarrowBelow (x0 : Nat) (x1 : Int64) : Option (Int32) :=
  (f_Fmt_exponentOf x0 x1).bind fun u_1 =>
  (if u_1 ≤ 1 then
  some (0)
  else
  (f_Fmt_fractionMask x0).bind fun u_2 =>
  (if (lg_cmp (x1 &&& u_2) 0) = 0 then
  some (1)
  else
  some (0)))
set_option maxHeartbeats 4000000 in
set_option maxRecDepth 100000 in
theorem c_Fmt_isNarrowBelow (l : Launch) (dC : Nat → ClassId) (dI : Nat → Nat → Nat) (cI cC cB cJ : ClassId) (adF : Nat → Nat) (tp : Nat) (adK adV : Nat → Nat) (sz : Nat) (x0 : Nat) (x1 : Int64) (he_x0 : x0 < 2) (u : Int32) (hf : f_Fmt_isNarrowBelow x0 x1 = some u) : Met l y_Fmt_isNarrowBelow ws_Fmt_isNarrowBelow rm_Fmt_isNarrowBelow (zz_P (zx_E adF tp adK adV) (dC, dI) vwCl (zz_tys cI cC cB cJ) [.ref (adF x0), .long x1] [] sz) (zz_Qi (dC, dI) vwCl u [] (va_A [] sz)) 0 0 (va_A [] sz) := by
  refine Met.ofW (cc := prog_4_method_12_code) (maxL := 3) (ret := (some .boolean)) (by decide +kernel) rfl ?_
  intro p e s m args below meth c s₁ B hml hv
  obtain ⟨rfl, hsz, hP, hK, hD0, hX⟩ := hv
  have hx := B.exec
  have hb := B.bytes
  have hr := B.returns
  have hts := atoms_spec (ws := ws_Fmt_isNarrowBelow) B.pre
  have hw : ∀ w ∈ zw, w.before [.ref (adF x0), .long x1].toArray s = true := fun w h => hts w (List.mem_cons_of_mem _ h)
  have hown : s.vm.findClass R_Fmt = some m.cls := findClass_of_methodNamed B.named
  have hlocks := B.notSynchronized
  subst hsz
  have hD := hD0.self (sz := s.heap.size)
  generalize hAe : va_A [] s.heap.size = A at hD hX ⊢
  have hA : ∀ q : Nat, s.heap.size ≤ q → A q := fun q h => by rw [← hAe]; exact Or.inr h
  have hS : va_S A s.heap s.heap [] := va_S.rf
  have hl := lv_entry [.ref (adF x0), .long x1] (n := 3) (Nat.le_of_ble_eq_true rfl)
  rw [lg_entry_eq]
  generalize (lg_sl [.ref (adF x0), .long x1] ++ List.replicate (3 - (lg_sl [.ref (adF x0), .long x1]).length) Slot.unset).toArray = ls at hl ⊢
  have hl : lv_has ls 3 [(0, .ref (adF x0)), (1, .long x1)] := hl
  refine zz_endz hx hb hr hlocks (fun Qq hend => ?_)
  unfold f_Fmt_isNarrowBelow at hf
  refine lv_aload_n hx hb d_Fmt_isNarrowBelow_0 rfl (lv_at hl 0 rfl) ?_
  refine lv_lload_n hx hb d_Fmt_isNarrowBelow_1 rfl (lv_at hl 1 rfl) ?_
  obtain ⟨u_1, hu_1, hf⟩ := zz_bd hf
  refine zz_ci (ws' := []) (wc := []) (w' := []) hP hD hS hA [] [] [] rfl rfl (by decide) (by decide) rfl (by decide) (va_runV (As := [.long x1]) (rest := []) ⟨hx, hb, hml, hown, hw⟩ (c_Fmt_exponentOf l dC dI cI cC cB cJ adF tp adK adV _ x0 x1 he_x0 u_1 hu_1) (cwV 1 hw (zg_V wd_303 wd_305 we_0_2 wd_15 wd_306) rfl rfl rfl hd_Fmt_exponentOf ⟨Nat.le_of_ble_eq_true rfl, Nat.le_of_ble_eq_true rfl⟩) (zz_preV (zx_ok adF tp adK adV) (va_recvE hX.1 he_x0 hS) hP hD hK hS hA hX [] rfl (by decide)) rfl rfl hl.1 rfl (lv_room (Nat.le_of_ble_eq_true rfl)) d_Fmt_isNarrowBelow_2 ⟨Nat.zero_le _, Nat.zero_le _⟩) (fun H locs hP hD hS => ?_)
  refine lv_iconst (v := 1) hx hb d_Fmt_isNarrowBelow_5 (by decide) ?_
  refine lv_icmp_le (tgt := 24) hx hb d_Fmt_isNarrowBelow_6 (by decide) (fun hc => ?_) (fun hc => ?_)
  · have hf := zz_ifp hc hf
    refine lv_iconst (v := 0) hx hb d_Fmt_isNarrowBelow_24 (by decide) ?_
    cases hf
    exact hend 25 ls _ _ rfl d_Fmt_isNarrowBelow_25 hP hD hS
  · have hf := zz_ifn hc hf
    refine lv_lload_n hx hb d_Fmt_isNarrowBelow_9 rfl (lv_at hl 1 rfl) ?_
    refine lv_aload_n hx hb d_Fmt_isNarrowBelow_10 rfl (lv_at hl 0 rfl) ?_
    obtain ⟨u_2, hu_2, hf⟩ := zz_bd hf
    refine zz_cl (ws' := []) (wc := []) (w' := []) hP hD hS hA [] [] [] rfl rfl (by decide) (by decide) rfl (by decide) (va_runV (As := []) (rest := [.long x1]) ⟨hx, hb, hml, hown, hw⟩ (c_Fmt_fractionMask l dC dI cI cC cB cJ adF tp adK adV _ x0 he_x0 u_2 hu_2) (cwV 0 hw (zg_V wd_212 wd_214 we_0_0 wd_15 wd_216) rfl rfl rfl hd_Fmt_fractionMask ⟨Nat.le_of_ble_eq_true rfl, Nat.le_of_ble_eq_true rfl⟩) (zz_preV (zx_ok adF tp adK adV) (va_recvE hX.1 he_x0 hS) hP hD hK hS hA hX [] rfl (by decide)) rfl rfl hl.1 rfl (lv_room (Nat.le_of_ble_eq_true rfl)) d_Fmt_isNarrowBelow_11 ⟨Nat.zero_le _, Nat.zero_le _⟩) (fun H locs hP hD hS => ?_)
    refine lv_land hx hb d_Fmt_isNarrowBelow_14 ?_
    refine lv_lconst (v := 0) hx hb d_Fmt_isNarrowBelow_15 (by decide) ?_
    refine W.lcmp hx hb d_Fmt_isNarrowBelow_16 ?_
    refine lv_if_ne (tgt := 24) hx hb d_Fmt_isNarrowBelow_17 (by decide) (fun hc => ?_) (fun hc => ?_)
    · have hf := zz_ifn hc hf
      refine lv_iconst (v := 0) hx hb d_Fmt_isNarrowBelow_24 (by decide) ?_
      cases hf
      exact hend 25 ls _ _ rfl d_Fmt_isNarrowBelow_25 hP hD hS
    · have hf := zz_ifp hc hf
      refine lv_iconst (v := 1) hx hb d_Fmt_isNarrowBelow_20 (by decide) ?_
      refine lv_goto (tgt := 25) hx hb d_Fmt_isNarrowBelow_21 (by decide) ?_
      cases hf
      exact hend 25 ls _ _ rfl d_Fmt_isNarrowBelow_25 hP hD hS
abbrev ws_Fmt_rounded : List Cond := .code y_Fmt_rounded prog_4_method_14_code 12 (some .long) :: zw
abbrev rm_Fmt_rounded : Room := { frames := 0, cells := 0, slots := 0, locals := 0 }
theorem hd_Fmt_rounded : y_Fmt_rounded.cls ≠ "java/lang/invoke/MethodHandle" ∧ y_Fmt_rounded.cls ≠ "java/lang/invoke/VarHandle" ∧ (parseMethodDescriptor y_Fmt_rounded.desc).map (fun d => d.parameters.length) = some 3 := by decide +kernel
theorem d_Fmt_rounded_0 : decode prog_4_method_14_code 0 = .ok (.lload_n 0, 1) := by decide +kernel
theorem d_Fmt_rounded_1 : decode prog_4_method_14_code 1 = .ok (.iload_n 2, 1) := by decide +kernel
theorem d_Fmt_rounded_2 : decode prog_4_method_14_code 2 = .ok (.lushr, 1) := by decide +kernel
theorem d_Fmt_rounded_3 : decode prog_4_method_14_code 3 = .ok (.lstore 4, 2) := by decide +kernel
theorem d_Fmt_rounded_5 : decode prog_4_method_14_code 5 = .ok (.lload_n 0, 1) := by decide +kernel
theorem d_Fmt_rounded_6 : decode prog_4_method_14_code 6 = .ok (.lload 4, 2) := by decide +kernel
theorem d_Fmt_rounded_8 : decode prog_4_method_14_code 8 = .ok (.iload_n 2, 1) := by decide +kernel
theorem d_Fmt_rounded_9 : decode prog_4_method_14_code 9 = .ok (.lshl, 1) := by decide +kernel
theorem d_Fmt_rounded_10 : decode prog_4_method_14_code 10 = .ok (.lsub, 1) := by decide +kernel
theorem d_Fmt_rounded_11 : decode prog_4_method_14_code 11 = .ok (.lstore 6, 2) := by decide +kernel
theorem d_Fmt_rounded_13 : decode prog_4_method_14_code 13 = .ok (.lconst 1, 1) := by decide +kernel
theorem d_Fmt_rounded_14 : decode prog_4_method_14_code 14 = .ok (.iload_n 2, 1) := by decide +kernel
theorem d_Fmt_rounded_15 : decode prog_4_method_14_code 15 = .ok (.iconst 1, 1) := by decide +kernel
theorem d_Fmt_rounded_16 : decode prog_4_method_14_code 16 = .ok (.isub, 1) := by decide +kernel
theorem d_Fmt_rounded_17 : decode prog_4_method_14_code 17 = .ok (.lshl, 1) := by decide +kernel
theorem d_Fmt_rounded_18 : decode prog_4_method_14_code 18 = .ok (.lstore 8, 2) := by decide +kernel
theorem d_Fmt_rounded_20 : decode prog_4_method_14_code 20 = .ok (.lload 4, 2) := by decide +kernel
theorem d_Fmt_rounded_22 : decode prog_4_method_14_code 22 = .ok (.lconst 1, 1) := by decide +kernel
theorem d_Fmt_rounded_23 : decode prog_4_method_14_code 23 = .ok (.land, 1) := by decide +kernel
theorem d_Fmt_rounded_24 : decode prog_4_method_14_code 24 = .ok (.lconst 0, 1) := by decide +kernel
theorem d_Fmt_rounded_25 : decode prog_4_method_14_code 25 = .ok (.lcmp, 1) := by decide +kernel
theorem d_Fmt_rounded_26 : decode prog_4_method_14_code 26 = .ok (.ifCond .eq 7, 3) := by decide +kernel
theorem d_Fmt_rounded_29 : decode prog_4_method_14_code 29 = .ok (.iconst 1, 1) := by decide +kernel
theorem d_Fmt_rounded_30 : decode prog_4_method_14_code 30 = .ok (.goto 4, 3) := by decide +kernel
theorem d_Fmt_rounded_33 : decode prog_4_method_14_code 33 = .ok (.iconst 0, 1) := by decide +kernel
theorem d_Fmt_rounded_34 : decode prog_4_method_14_code 34 = .ok (.istore 10, 2) := by decide +kernel
theorem d_Fmt_rounded_36 : decode prog_4_method_14_code 36 = .ok (.lload 6, 2) := by decide +kernel
theorem d_Fmt_rounded_38 : decode prog_4_method_14_code 38 = .ok (.lload 8, 2) := by decide +kernel
theorem d_Fmt_rounded_40 : decode prog_4_method_14_code 40 = .ok (.lcmp, 1) := by decide +kernel
theorem d_Fmt_rounded_41 : decode prog_4_method_14_code 41 = .ok (.ifCond .gt 20, 3) := by decide +kernel
theorem d_Fmt_rounded_44 : decode prog_4_method_14_code 44 = .ok (.lload 6, 2) := by decide +kernel
theorem d_Fmt_rounded_46 : decode prog_4_method_14_code 46 = .ok (.lload 8, 2) := by decide +kernel
theorem d_Fmt_rounded_48 : decode prog_4_method_14_code 48 = .ok (.lcmp, 1) := by decide +kernel
theorem d_Fmt_rounded_49 : decode prog_4_method_14_code 49 = .ok (.ifCond .ne 16, 3) := by decide +kernel
theorem d_Fmt_rounded_52 : decode prog_4_method_14_code 52 = .ok (.iload_n 3, 1) := by decide +kernel
theorem d_Fmt_rounded_53 : decode prog_4_method_14_code 53 = .ok (.ifCond .ne 8, 3) := by decide +kernel
theorem d_Fmt_rounded_56 : decode prog_4_method_14_code 56 = .ok (.iload 10, 2) := by decide +kernel
theorem d_Fmt_rounded_58 : decode prog_4_method_14_code 58 = .ok (.ifCond .eq 7, 3) := by decide +kernel
theorem d_Fmt_rounded_61 : decode prog_4_method_14_code 61 = .ok (.iconst 1, 1) := by decide +kernel
theorem d_Fmt_rounded_62 : decode prog_4_method_14_code 62 = .ok (.goto 4, 3) := by decide +kernel
theorem d_Fmt_rounded_65 : decode prog_4_method_14_code 65 = .ok (.iconst 0, 1) := by decide +kernel
theorem d_Fmt_rounded_66 : decode prog_4_method_14_code 66 = .ok (.istore 11, 2) := by decide +kernel
theorem d_Fmt_rounded_68 : decode prog_4_method_14_code 68 = .ok (.iload 11, 2) := by decide +kernel
theorem d_Fmt_rounded_70 : decode prog_4_method_14_code 70 = .ok (.ifCond .eq 10, 3) := by decide +kernel
theorem d_Fmt_rounded_73 : decode prog_4_method_14_code 73 = .ok (.lload 4, 2) := by decide +kernel
theorem d_Fmt_rounded_75 : decode prog_4_method_14_code 75 = .ok (.lconst 1, 1) := by decide +kernel
theorem d_Fmt_rounded_76 : decode prog_4_method_14_code 76 = .ok (.ladd, 1) := by decide +kernel
theorem d_Fmt_rounded_77 : decode prog_4_method_14_code 77 = .ok (.goto 5, 3) := by decide +kernel
theorem d_Fmt_rounded_80 : decode prog_4_method_14_code 80 = .ok (.lload 4, 2) := by decide +kernel
theorem d_Fmt_rounded_82 : decode prog_4_method_14_code 82 = .ok (.lreturn, 1) := by decide +kernel
def f_Fmt_rounded_66 (x0 : Int64) (x2 : Int32) (x3 : Int32)  (y4 : Int64) (k0 : Int32) : Option (Int64) :=
  (if k0 = 0 then
  some (y4)
  else
  some (y4 + 1))
def f_Fmt_rounded_61 (x0 : Int64) (x2 : Int32) (x3 : Int32)  (y4 : Int64) : Option (Int64) :=
  f_Fmt_rounded_66 x0 x2 x3 y4 1
def f_Fmt_rounded_65 (x0 : Int64) (x2 : Int32) (x3 : Int32)  (y4 : Int64) : Option (Int64) :=
  f_Fmt_rounded_66 x0 x2 x3 y4 0
def f_Fmt_rounded_34 (x0 : Int64) (x2 : Int32) (x3 : Int32)  (y4 : Int64) (y6 : Int64) (y8 : Int64) (k0 : Int32) : Option (Int64) :=
  (if 0 < (lg_cmp y6 y8) then
  f_Fmt_rounded_61 x0 x2 x3 y4
  else
  (if (lg_cmp y6 y8) = 0 then
  (if x3 = 0 then
  (if k0 = 0 then
  f_Fmt_rounded_65 x0 x2 x3 y4
  else
  f_Fmt_rounded_61 x0 x2 x3 y4)
  else
  f_Fmt_rounded_61 x0 x2 x3 y4)
  else
  f_Fmt_rounded_65 x0 x2 x3 y4))
def f_Fmt_rounded (x0 : Int64) (x2 : Int32) (x3 : Int32) : Option (Int64) :=
  zz_lt ((x0.toUInt64 >>> (x2.toInt64.toUInt64 &&& Int64.toUInt64 63)).toInt64) fun x4_1 =>
  zz_lt (x0 - (x4_1 <<< (x2.toInt64 &&& 63))) fun x6_2 =>
  zz_lt (1 <<< ((x2 - 1).toInt64 &&& 63)) fun x8_3 =>
  (if (lg_cmp (x4_1 &&& 1) 0) = 0 then
  f_Fmt_rounded_34 x0 x2 x3 x4_1 x6_2 x8_3 0
  else
  f_Fmt_rounded_34 x0 x2 x3 x4_1 x6_2 x8_3 1)
set_option maxHeartbeats 4000000 in
set_option maxRecDepth 100000 in
theorem c_Fmt_rounded (l : Launch) (dC : Nat → ClassId) (dI : Nat → Nat → Nat) (cI cC cB cJ : ClassId) (sz : Nat) (x0 : Int64) (x2 : Int32) (x3 : Int32) (u : Int64) (hf : f_Fmt_rounded x0 x2 x3 = some u) : Met l y_Fmt_rounded ws_Fmt_rounded rm_Fmt_rounded (zz_P zz_T (dC, dI) vwCl (zz_tys cI cC cB cJ) [.long x0, .int x2, .int x3] [] sz) (zz_Ql (dC, dI) vwCl u [] (va_A [] sz)) 0 0 (va_A [] sz) := by
  refine Met.ofW (cc := prog_4_method_14_code) (maxL := 12) (ret := (some .long)) (by decide +kernel) rfl ?_
  intro p e s m args below meth c s₁ B hml hv
  obtain ⟨rfl, hsz, hP, hK, hD0, hX⟩ := hv
  have hx := B.exec
  have hb := B.bytes
  have hr := B.returns
  have hts := atoms_spec (ws := ws_Fmt_rounded) B.pre
  have hw : ∀ w ∈ zw, w.before [.long x0, .int x2, .int x3].toArray s = true := fun w h => hts w (List.mem_cons_of_mem _ h)
  have hown : s.vm.findClass R_Fmt = some m.cls := findClass_of_methodNamed B.named
  have hlocks := B.notSynchronized
  subst hsz
  have hD := hD0.self (sz := s.heap.size)
  generalize hAe : va_A [] s.heap.size = A at hD hX ⊢
  have hA : ∀ q : Nat, s.heap.size ≤ q → A q := fun q h => by rw [← hAe]; exact Or.inr h
  have hS : va_S A s.heap s.heap [] := va_S.rf
  have hl := lv_entry [.long x0, .int x2, .int x3] (n := 12) (Nat.le_of_ble_eq_true rfl)
  rw [lg_entry_eq]
  generalize (lg_sl [.long x0, .int x2, .int x3] ++ List.replicate (12 - (lg_sl [.long x0, .int x2, .int x3]).length) Slot.unset).toArray = ls at hl ⊢
  have hl : lv_has ls 12 [(0, .long x0), (2, .int x2), (3, .int x3)] := hl
  refine zz_endl hx hb hr hlocks (fun Qq hend => ?_)
  have hL_66 : ∀ (y4 : Int64) (k0 : Int32) (ls : Array Slot) (H : Heap) (locs : List Loc), lv_has ls 12 [(4, .long y4)] → va_P (dC, dI) vwCl [] H → va_D A [] → va_S A s.heap H locs → f_Fmt_rounded_66 x0 x2 x3 y4 k0 = some u → W p l e (headSpec ws_Fmt_rounded rm_Fmt_rounded).room s m [.long x0, .int x2, .int x3].toArray below meth c H locs 0 0 Qq (F0 m 66 ls [.int k0]) := by
    intro y4 k0 ls H locs hl hP hD hS hf
    unfold f_Fmt_rounded_66 at hf
    refine lv_istore hx hb d_Fmt_rounded_66 hl (by decide) rfl (fun ls hl => ?_)
    have hl : lv_has ls 12 [(11, .int k0), (4, .long y4)] := hl
    refine lv_iload hx hb d_Fmt_rounded_68 (lv_at hl 0 rfl) ?_
    refine lv_if_eq (tgt := 80) hx hb d_Fmt_rounded_70 (by decide) (fun hc => ?_) (fun hc => ?_)
    · have hf := zz_ifp hc hf
      refine lv_lload hx hb d_Fmt_rounded_80 (lv_at hl 1 rfl) ?_
      cases hf
      exact hend 82 ls _ _ d_Fmt_rounded_82 hP hD hS
    · have hf := zz_ifn hc hf
      refine lv_lload hx hb d_Fmt_rounded_73 (lv_at hl 1 rfl) ?_
      refine lv_lconst (v := 1) hx hb d_Fmt_rounded_75 (by decide) ?_
      refine lv_ladd hx hb d_Fmt_rounded_76 ?_
      refine lv_goto (tgt := 82) hx hb d_Fmt_rounded_77 (by decide) ?_
      cases hf
      exact hend 82 ls _ _ d_Fmt_rounded_82 hP hD hS
  have hL_61 : ∀ (y4 : Int64) (ls : Array Slot) (H : Heap) (locs : List Loc), lv_has ls 12 [(4, .long y4)] → va_P (dC, dI) vwCl [] H → va_D A [] → va_S A s.heap H locs → f_Fmt_rounded_61 x0 x2 x3 y4 = some u → W p l e (headSpec ws_Fmt_rounded rm_Fmt_rounded).room s m [.long x0, .int x2, .int x3].toArray below meth c H locs 0 0 Qq (F0 m 61 ls []) := by
    intro y4 ls H locs hl hP hD hS hf
    unfold f_Fmt_rounded_61 at hf
    refine lv_iconst (v := 1) hx hb d_Fmt_rounded_61 (by decide) ?_
    refine lv_goto (tgt := 66) hx hb d_Fmt_rounded_62 (by decide) ?_
    exact hL_66 y4 1 ls _ _ (lv_sub hl [0] rfl) hP hD hS hf
  have hL_65 : ∀ (y4 : Int64) (ls : Array Slot) (H : Heap) (locs : List Loc), lv_has ls 12 [(4, .long y4)] → va_P (dC, dI) vwCl [] H → va_D A [] → va_S A s.heap H locs → f_Fmt_rounded_65 x0 x2 x3 y4 = some u → W p l e (headSpec ws_Fmt_rounded rm_Fmt_rounded).room s m [.long x0, .int x2, .int x3].toArray below meth c H locs 0 0 Qq (F0 m 65 ls []) := by
    intro y4 ls H locs hl hP hD hS hf
    unfold f_Fmt_rounded_65 at hf
    refine lv_iconst (v := 0) hx hb d_Fmt_rounded_65 (by decide) ?_
    exact hL_66 y4 0 ls _ _ (lv_sub hl [0] rfl) hP hD hS hf
  have hL_34 : ∀ (y4 : Int64) (y6 : Int64) (y8 : Int64) (k0 : Int32) (ls : Array Slot) (H : Heap) (locs : List Loc), lv_has ls 12 [(3, .int x3), (4, .long y4), (6, .long y6), (8, .long y8)] → va_P (dC, dI) vwCl [] H → va_D A [] → va_S A s.heap H locs → f_Fmt_rounded_34 x0 x2 x3 y4 y6 y8 k0 = some u → W p l e (headSpec ws_Fmt_rounded rm_Fmt_rounded).room s m [.long x0, .int x2, .int x3].toArray below meth c H locs 0 0 Qq (F0 m 34 ls [.int k0]) := by
    intro y4 y6 y8 k0 ls H locs hl hP hD hS hf
    unfold f_Fmt_rounded_34 at hf
    refine lv_istore hx hb d_Fmt_rounded_34 hl (by decide) rfl (fun ls hl => ?_)
    have hl : lv_has ls 12 [(10, .int k0), (3, .int x3), (4, .long y4), (6, .long y6), (8, .long y8)] := hl
    refine lv_lload hx hb d_Fmt_rounded_36 (lv_at hl 3 rfl) ?_
    refine lv_lload hx hb d_Fmt_rounded_38 (lv_at hl 4 rfl) ?_
    refine W.lcmp hx hb d_Fmt_rounded_40 ?_
    refine lv_if_gt (tgt := 61) hx hb d_Fmt_rounded_41 (by decide) (fun hc => ?_) (fun hc => ?_)
    · have hf := zz_ifp hc hf
      exact hL_61 y4 ls _ _ (lv_sub hl [2] rfl) hP hD hS hf
    · have hf := zz_ifn hc hf
      refine lv_lload hx hb d_Fmt_rounded_44 (lv_at hl 3 rfl) ?_
      refine lv_lload hx hb d_Fmt_rounded_46 (lv_at hl 4 rfl) ?_
      refine W.lcmp hx hb d_Fmt_rounded_48 ?_
      refine lv_if_ne (tgt := 65) hx hb d_Fmt_rounded_49 (by decide) (fun hc => ?_) (fun hc => ?_)
      · have hf := zz_ifn hc hf
        exact hL_65 y4 ls _ _ (lv_sub hl [2] rfl) hP hD hS hf
      · have hf := zz_ifp hc hf
        refine lv_iload_n hx hb d_Fmt_rounded_52 rfl (lv_at hl 1 rfl) ?_
        refine lv_if_ne (tgt := 61) hx hb d_Fmt_rounded_53 (by decide) (fun hc => ?_) (fun hc => ?_)
        · have hf := zz_ifn hc hf
          exact hL_61 y4 ls _ _ (lv_sub hl [2] rfl) hP hD hS hf
        · have hf := zz_ifp hc hf
          refine lv_iload hx hb d_Fmt_rounded_56 (lv_at hl 0 rfl) ?_
          refine lv_if_eq (tgt := 65) hx hb d_Fmt_rounded_58 (by decide) (fun hc => ?_) (fun hc => ?_)
          · have hf := zz_ifp hc hf
            exact hL_65 y4 ls _ _ (lv_sub hl [2] rfl) hP hD hS hf
          · have hf := zz_ifn hc hf
            exact hL_61 y4 ls _ _ (lv_sub hl [2] rfl) hP hD hS hf
  unfold f_Fmt_rounded at hf
  refine lv_lload_n hx hb d_Fmt_rounded_0 rfl (lv_at hl 0 rfl) ?_
  refine lv_iload_n hx hb d_Fmt_rounded_1 rfl (lv_at hl 1 rfl) ?_
  refine lv_lushr hx hb d_Fmt_rounded_2 rfl ?_
  refine lv_topl (fun x4_1 e_x4_1 => ?_)
  have hf := zz_ltp hf x4_1 e_x4_1
  refine lv_lstore hx hb d_Fmt_rounded_3 hl (by decide) rfl (fun ls hl => ?_)
  have hl : lv_has ls 12 [(4, .long x4_1), (0, .long x0), (2, .int x2), (3, .int x3)] := hl
  refine lv_lload_n hx hb d_Fmt_rounded_5 rfl (lv_at hl 1 rfl) ?_
  refine lv_lload hx hb d_Fmt_rounded_6 (lv_at hl 0 rfl) ?_
  refine lv_iload_n hx hb d_Fmt_rounded_8 rfl (lv_at hl 2 rfl) ?_
  refine lv_lshl hx hb d_Fmt_rounded_9 rfl ?_
  refine lv_lsub hx hb d_Fmt_rounded_10 ?_
  refine lv_topl (fun x6_2 e_x6_2 => ?_)
  have hf := zz_ltp hf x6_2 e_x6_2
  refine lv_lstore hx hb d_Fmt_rounded_11 hl (by decide) rfl (fun ls hl => ?_)
  have hl : lv_has ls 12 [(6, .long x6_2), (4, .long x4_1), (0, .long x0), (2, .int x2), (3, .int x3)] := hl
  refine lv_lconst (v := 1) hx hb d_Fmt_rounded_13 (by decide) ?_
  refine lv_iload_n hx hb d_Fmt_rounded_14 rfl (lv_at hl 3 rfl) ?_
  refine lv_iconst (v := 1) hx hb d_Fmt_rounded_15 (by decide) ?_
  refine lv_isub hx hb d_Fmt_rounded_16 ?_
  refine lv_lshl hx hb d_Fmt_rounded_17 rfl ?_
  refine lv_topl (fun x8_3 e_x8_3 => ?_)
  have hf := zz_ltp hf x8_3 e_x8_3
  refine lv_lstore hx hb d_Fmt_rounded_18 hl (by decide) rfl (fun ls hl => ?_)
  have hl : lv_has ls 12 [(8, .long x8_3), (6, .long x6_2), (4, .long x4_1), (0, .long x0), (2, .int x2), (3, .int x3)] := hl
  refine lv_lload hx hb d_Fmt_rounded_20 (lv_at hl 2 rfl) ?_
  refine lv_lconst (v := 1) hx hb d_Fmt_rounded_22 (by decide) ?_
  refine lv_land hx hb d_Fmt_rounded_23 ?_
  refine lv_lconst (v := 0) hx hb d_Fmt_rounded_24 (by decide) ?_
  refine W.lcmp hx hb d_Fmt_rounded_25 ?_
  refine lv_if_eq (tgt := 33) hx hb d_Fmt_rounded_26 (by decide) (fun hc => ?_) (fun hc => ?_)
  · have hf := zz_ifp hc hf
    refine lv_iconst (v := 0) hx hb d_Fmt_rounded_33 (by decide) ?_
    exact hL_34 x4_1 x6_2 x8_3 0 ls _ _ (lv_sub hl [5, 2, 1, 0] rfl) hP hD hS hf
  · have hf := zz_ifn hc hf
    refine lv_iconst (v := 1) hx hb d_Fmt_rounded_29 (by decide) ?_
    refine lv_goto (tgt := 34) hx hb d_Fmt_rounded_30 (by decide) ?_
    exact hL_34 x4_1 x6_2 x8_3 1 ls _ _ (lv_sub hl [5, 2, 1, 0] rfl) hP hD hS hf
abbrev ws_Fmt_join : List Cond := .code y_Fmt_join prog_4_method_15_code 7 (some .long) :: zw
abbrev rm_Fmt_join : Room := { frames := 1, cells := 0, slots := 0, locals := 20 }
theorem hd_Fmt_join : y_Fmt_join.cls = "RealText$Format" ∧ y_Fmt_join.cls ≠ "java/lang/invoke/MethodHandle" ∧ y_Fmt_join.cls ≠ "java/lang/invoke/VarHandle" ∧ (parseMethodDescriptor y_Fmt_join.desc).map (fun d => d.parameters.length) = some 2 := by decide +kernel
theorem d_Fmt_join_0 : decode prog_4_method_15_code 0 = .ok (.iload_n 3, 1) := by decide +kernel
theorem d_Fmt_join_1 : decode prog_4_method_15_code 1 = .ok (.aload_n 0, 1) := by decide +kernel
theorem d_Fmt_join_2 : decode prog_4_method_15_code 2 = .ok (.getfield 38, 3) := by decide +kernel
theorem d_Fmt_join_5 : decode prog_4_method_15_code 5 = .ok (.isub, 1) := by decide +kernel
theorem d_Fmt_join_6 : decode prog_4_method_15_code 6 = .ok (.istore 4, 2) := by decide +kernel
theorem d_Fmt_join_8 : decode prog_4_method_15_code 8 = .ok (.lload_n 1, 1) := by decide +kernel
theorem d_Fmt_join_9 : decode prog_4_method_15_code 9 = .ok (.lconst 0, 1) := by decide +kernel
theorem d_Fmt_join_10 : decode prog_4_method_15_code 10 = .ok (.lcmp, 1) := by decide +kernel
theorem d_Fmt_join_11 : decode prog_4_method_15_code 11 = .ok (.ifCond .eq 14, 3) := by decide +kernel
theorem d_Fmt_join_14 : decode prog_4_method_15_code 14 = .ok (.iload 4, 2) := by decide +kernel
theorem d_Fmt_join_16 : decode prog_4_method_15_code 16 = .ok (.aload_n 0, 1) := by decide +kernel
theorem d_Fmt_join_17 : decode prog_4_method_15_code 17 = .ok (.getfield 35, 3) := by decide +kernel
theorem d_Fmt_join_20 : decode prog_4_method_15_code 20 = .ok (.iconst 1, 1) := by decide +kernel
theorem d_Fmt_join_21 : decode prog_4_method_15_code 21 = .ok (.isub, 1) := by decide +kernel
theorem d_Fmt_join_22 : decode prog_4_method_15_code 22 = .ok (.if_icmp .lt 7, 3) := by decide +kernel
theorem d_Fmt_join_25 : decode prog_4_method_15_code 25 = .ok (.ldc2_w 66, 3) := by decide +kernel
theorem d_Fmt_join_28 : decode prog_4_method_15_code 28 = .ok (.lreturn, 1) := by decide +kernel
theorem d_Fmt_join_29 : decode prog_4_method_15_code 29 = .ok (.iload 4, 2) := by decide +kernel
theorem d_Fmt_join_31 : decode prog_4_method_15_code 31 = .ok (.i2l, 1) := by decide +kernel
theorem d_Fmt_join_32 : decode prog_4_method_15_code 32 = .ok (.aload_n 0, 1) := by decide +kernel
theorem d_Fmt_join_33 : decode prog_4_method_15_code 33 = .ok (.getfield 31, 3) := by decide +kernel
theorem d_Fmt_join_36 : decode prog_4_method_15_code 36 = .ok (.lshl, 1) := by decide +kernel
theorem d_Fmt_join_37 : decode prog_4_method_15_code 37 = .ok (.lload_n 1, 1) := by decide +kernel
theorem d_Fmt_join_38 : decode prog_4_method_15_code 38 = .ok (.ladd, 1) := by decide +kernel
theorem d_Fmt_join_39 : decode prog_4_method_15_code 39 = .ok (.lstore 5, 2) := by decide +kernel
theorem d_Fmt_join_41 : decode prog_4_method_15_code 41 = .ok (.lload 5, 2) := by decide +kernel
theorem d_Fmt_join_43 : decode prog_4_method_15_code 43 = .ok (.aload_n 0, 1) := by decide +kernel
theorem d_Fmt_join_44 : decode prog_4_method_15_code 44 = .ok (.invokevirtual 41, 3) := by decide +kernel
theorem d_Fmt_join_47 : decode prog_4_method_15_code 47 = .ok (.lcmp, 1) := by decide +kernel
theorem d_Fmt_join_48 : decode prog_4_method_15_code 48 = .ok (.ifCond .ge 8, 3) := by decide +kernel
theorem d_Fmt_join_51 : decode prog_4_method_15_code 51 = .ok (.lload 5, 2) := by decide +kernel
theorem d_Fmt_join_53 : decode prog_4_method_15_code 53 = .ok (.goto 6, 3) := by decide +kernel
theorem d_Fmt_join_56 : decode prog_4_method_15_code 56 = .ok (.ldc2_w 66, 3) := by decide +kernel
theorem d_Fmt_join_59 : decode prog_4_method_15_code 59 = .ok (.lreturn, 1) := by decide +kernel
def f_Fmt_join (x0 : Nat) (x1 : Int64) (x3 : Int32) : Option (Int64) :=
  zz_lt (x3 - (zx_leastPower x0)) fun x4_1 =>
  (if (lg_cmp x1 0) = 0 then
  some ((-2))
  else
  (if x4_1 < ((zx_exponentMask x0) - 1) then
  zz_lt ((x4_1.toInt64 <<< ((zx_fractionBits x0).toInt64 &&& 63)) + x1) fun x5_2 =>
  (f_Fmt_infinity x0).bind fun u_3 =>
  (if 0 ≤ (lg_cmp x5_2 u_3) then
  some ((-2))
  else
  some (x5_2))
  else
  some ((-2))))
set_option maxHeartbeats 4000000 in
set_option maxRecDepth 100000 in
theorem c_Fmt_join (l : Launch) (dC : Nat → ClassId) (dI : Nat → Nat → Nat) (cI cC cB cJ : ClassId) (adF : Nat → Nat) (tp : Nat) (adK adV : Nat → Nat) (sz : Nat) (x0 : Nat) (x1 : Int64) (x3 : Int32) (he_x0 : x0 < 2) (u : Int64) (hf : f_Fmt_join x0 x1 x3 = some u) : Met l y_Fmt_join ws_Fmt_join rm_Fmt_join (zz_P (zx_E adF tp adK adV) (dC, dI) vwCl (zz_tys cI cC cB cJ) [.ref (adF x0), .long x1, .int x3] [] sz) (zz_Ql (dC, dI) vwCl u [] (va_A [] sz)) 0 0 (va_A [] sz) := by
  refine Met.ofW (cc := prog_4_method_15_code) (maxL := 7) (ret := (some .long)) (by decide +kernel) rfl ?_
  intro p e s m args below meth c s₁ B hml hv
  obtain ⟨rfl, hsz, hP, hK, hD0, hX⟩ := hv
  have hx := B.exec
  have hb := B.bytes
  have hr := B.returns
  have hts := atoms_spec (ws := ws_Fmt_join) B.pre
  have hw : ∀ w ∈ zw, w.before [.ref (adF x0), .long x1, .int x3].toArray s = true := fun w h => hts w (List.mem_cons_of_mem _ h)
  have hown : s.vm.findClass R_Fmt = some m.cls := findClass_of_methodNamed B.named
  have hlocks := B.notSynchronized
  subst hsz
  have hD := hD0.self (sz := s.heap.size)
  generalize hAe : va_A [] s.heap.size = A at hD hX ⊢
  have hA : ∀ q : Nat, s.heap.size ≤ q → A q := fun q h => by rw [← hAe]; exact Or.inr h
  have hS : va_S A s.heap s.heap [] := va_S.rf
  have hl := lv_entry [.ref (adF x0), .long x1, .int x3] (n := 7) (Nat.le_of_ble_eq_true rfl)
  rw [lg_entry_eq]
  generalize (lg_sl [.ref (adF x0), .long x1, .int x3] ++ List.replicate (7 - (lg_sl [.ref (adF x0), .long x1, .int x3]).length) Slot.unset).toArray = ls at hl ⊢
  have hl : lv_has ls 7 [(0, .ref (adF x0)), (1, .long x1), (3, .int x3)] := hl
  refine zz_endl hx hb hr hlocks (fun Qq hend => ?_)
  unfold f_Fmt_join at hf
  refine lv_iload_n hx hb d_Fmt_join_0 rfl (lv_at hl 2 rfl) ?_
  refine lv_aload_n hx hb d_Fmt_join_1 rfl (lv_at hl 0 rfl) ?_
  refine va_getE (q := zx_q2) hx hb hX.1 he_x0 hS hown zx_m2 (hw _ wd_917) (fun _ h9 => h9) d_Fmt_join_2 ?_
  refine lv_isub hx hb d_Fmt_join_5 ?_
  refine lv_topi (fun x4_1 e_x4_1 => ?_)
  have hf := zz_ltp hf x4_1 e_x4_1
  refine lv_istore hx hb d_Fmt_join_6 hl (by decide) rfl (fun ls hl => ?_)
  have hl : lv_has ls 7 [(4, .int x4_1), (0, .ref (adF x0)), (1, .long x1), (3, .int x3)] := hl
  refine lv_lload_n hx hb d_Fmt_join_8 rfl (lv_at hl 2 rfl) ?_
  refine lv_lconst (v := 0) hx hb d_Fmt_join_9 (by decide) ?_
  refine W.lcmp hx hb d_Fmt_join_10 ?_
  refine lv_if_eq (tgt := 25) hx hb d_Fmt_join_11 (by decide) (fun hc => ?_) (fun hc => ?_)
  · have hf := zz_ifp hc hf
    refine lv_ldc2 (v := (-2)) hx hb hown (hw _ wd_610) d_Fmt_join_25 ?_
    cases hf
    exact hend 28 ls _ _ d_Fmt_join_28 hP hD hS
  · have hf := zz_ifn hc hf
    refine lv_iload hx hb d_Fmt_join_14 (lv_at hl 0 rfl) ?_
    refine lv_aload_n hx hb d_Fmt_join_16 rfl (lv_at hl 1 rfl) ?_
    refine va_getE (q := zx_q1) hx hb hX.1 he_x0 hS hown zx_m1 (hw _ wd_918) (fun _ h9 => h9) d_Fmt_join_17 ?_
    refine lv_iconst (v := 1) hx hb d_Fmt_join_20 (by decide) ?_
    refine lv_isub hx hb d_Fmt_join_21 ?_
    refine lv_icmp_lt (tgt := 29) hx hb d_Fmt_join_22 (by decide) (fun hc => ?_) (fun hc => ?_)
    · have hf := zz_ifp hc hf
      refine lv_iload hx hb d_Fmt_join_29 (lv_at hl 0 rfl) ?_
      refine lv_i2l hx hb d_Fmt_join_31 rfl ?_
      refine lv_aload_n hx hb d_Fmt_join_32 rfl (lv_at hl 1 rfl) ?_
      refine va_getE (q := zx_q0) hx hb hX.1 he_x0 hS hown zx_m0 (hw _ wd_916) (fun _ h9 => h9) d_Fmt_join_33 ?_
      refine lv_lshl hx hb d_Fmt_join_36 rfl ?_
      refine lv_lload_n hx hb d_Fmt_join_37 rfl (lv_at hl 2 rfl) ?_
      refine lv_ladd hx hb d_Fmt_join_38 ?_
      refine lv_topl (fun x5_2 e_x5_2 => ?_)
      have hf := zz_ltp hf x5_2 e_x5_2
      refine lv_lstore hx hb d_Fmt_join_39 hl (by decide) rfl (fun ls hl => ?_)
      have hl : lv_has ls 7 [(5, .long x5_2), (4, .int x4_1), (0, .ref (adF x0)), (1, .long x1), (3, .int x3)] := hl
      refine lv_lload hx hb d_Fmt_join_41 (lv_at hl 0 rfl) ?_
      refine lv_aload_n hx hb d_Fmt_join_43 rfl (lv_at hl 2 rfl) ?_
      obtain ⟨u_3, hu_3, hf⟩ := zz_bd hf
      refine zz_cl (ws' := []) (wc := []) (w' := []) hP hD hS hA [] [] [] rfl rfl (by decide) (by decide) rfl (by decide) (va_runV (As := []) (rest := [.long x5_2]) ⟨hx, hb, hml, hown, hw⟩ (c_Fmt_infinity l dC dI cI cC cB cJ adF tp adK adV _ x0 he_x0 u_3 hu_3) (cwV 0 hw (zg_V wd_208 wd_209 wd_210 wd_15 wd_211) rfl rfl rfl hd_Fmt_infinity ⟨Nat.le_of_ble_eq_true rfl, Nat.le_of_ble_eq_true rfl⟩) (zz_preV (zx_ok adF tp adK adV) (va_recvE hX.1 he_x0 hS) hP hD hK hS hA hX [] rfl (by decide)) rfl rfl hl.1 rfl (lv_room (Nat.le_of_ble_eq_true rfl)) d_Fmt_join_44 ⟨Nat.zero_le _, Nat.zero_le _⟩) (fun H locs hP hD hS => ?_)
      refine W.lcmp hx hb d_Fmt_join_47 ?_
      refine lv_if_ge (tgt := 56) hx hb d_Fmt_join_48 (by decide) (fun hc => ?_) (fun hc => ?_)
      · have hf := zz_ifp hc hf
        refine lv_ldc2 (v := (-2)) hx hb hown (hw _ wd_610) d_Fmt_join_56 ?_
        cases hf
        exact hend 59 ls _ _ d_Fmt_join_59 hP hD hS
      · have hf := zz_ifn hc hf
        refine lv_lload hx hb d_Fmt_join_51 (lv_at hl 0 rfl) ?_
        refine lv_goto (tgt := 59) hx hb d_Fmt_join_53 (by decide) ?_
        cases hf
        exact hend 59 ls _ _ d_Fmt_join_59 hP hD hS
    · have hf := zz_ifn hc hf
      refine lv_ldc2 (v := (-2)) hx hb hown (hw _ wd_610) d_Fmt_join_25 ?_
      cases hf
      exact hend 28 ls _ _ d_Fmt_join_28 hP hD hS
abbrev ws_Fmt_nearest : List Cond := .code y_Fmt_nearest prog_4_method_13_code 9 (some .long) :: zw
abbrev rm_Fmt_nearest : Room := { frames := 2, cells := 0, slots := 0, locals := 46 }
theorem hd_Fmt_nearest : y_Fmt_nearest.cls = "RealText$Format" ∧ y_Fmt_nearest.cls ≠ "java/lang/invoke/MethodHandle" ∧ y_Fmt_nearest.cls ≠ "java/lang/invoke/VarHandle" ∧ (parseMethodDescriptor y_Fmt_nearest.desc).map (fun d => d.parameters.length) = some 3 := by decide +kernel
theorem d_Fmt_nearest_0 : decode prog_4_method_13_code 0 = .ok (.lload_n 1, 1) := by decide +kernel
theorem d_Fmt_nearest_1 : decode prog_4_method_13_code 1 = .ok (.lstore 5, 2) := by decide +kernel
theorem d_Fmt_nearest_3 : decode prog_4_method_13_code 3 = .ok (.iload_n 3, 1) := by decide +kernel
theorem d_Fmt_nearest_4 : decode prog_4_method_13_code 4 = .ok (.istore 7, 2) := by decide +kernel
theorem d_Fmt_nearest_6 : decode prog_4_method_13_code 6 = .ok (.iconst 0, 1) := by decide +kernel
theorem d_Fmt_nearest_7 : decode prog_4_method_13_code 7 = .ok (.istore 8, 2) := by decide +kernel
theorem d_Fmt_nearest_9 : decode prog_4_method_13_code 9 = .ok (.iload 8, 2) := by decide +kernel
theorem d_Fmt_nearest_11 : decode prog_4_method_13_code 11 = .ok (.bipush 63, 2) := by decide +kernel
theorem d_Fmt_nearest_13 : decode prog_4_method_13_code 13 = .ok (.if_icmp .ge 29, 3) := by decide +kernel
theorem d_Fmt_nearest_16 : decode prog_4_method_13_code 16 = .ok (.lload 5, 2) := by decide +kernel
theorem d_Fmt_nearest_18 : decode prog_4_method_13_code 18 = .ok (.ldc2_w 64, 3) := by decide +kernel
theorem d_Fmt_nearest_21 : decode prog_4_method_13_code 21 = .ok (.land, 1) := by decide +kernel
theorem d_Fmt_nearest_22 : decode prog_4_method_13_code 22 = .ok (.lconst 0, 1) := by decide +kernel
theorem d_Fmt_nearest_23 : decode prog_4_method_13_code 23 = .ok (.lcmp, 1) := by decide +kernel
theorem d_Fmt_nearest_24 : decode prog_4_method_13_code 24 = .ok (.ifCond .ne 18, 3) := by decide +kernel
theorem d_Fmt_nearest_27 : decode prog_4_method_13_code 27 = .ok (.lload 5, 2) := by decide +kernel
theorem d_Fmt_nearest_29 : decode prog_4_method_13_code 29 = .ok (.iconst 1, 1) := by decide +kernel
theorem d_Fmt_nearest_30 : decode prog_4_method_13_code 30 = .ok (.lshl, 1) := by decide +kernel
theorem d_Fmt_nearest_31 : decode prog_4_method_13_code 31 = .ok (.lstore 5, 2) := by decide +kernel
theorem d_Fmt_nearest_33 : decode prog_4_method_13_code 33 = .ok (.iinc 7 (-1), 3) := by decide +kernel
theorem d_Fmt_nearest_36 : decode prog_4_method_13_code 36 = .ok (.iinc 8 1, 3) := by decide +kernel
theorem d_Fmt_nearest_39 : decode prog_4_method_13_code 39 = .ok (.goto (-30), 3) := by decide +kernel
theorem d_Fmt_nearest_42 : decode prog_4_method_13_code 42 = .ok (.bipush 62, 2) := by decide +kernel
theorem d_Fmt_nearest_44 : decode prog_4_method_13_code 44 = .ok (.aload_n 0, 1) := by decide +kernel
theorem d_Fmt_nearest_45 : decode prog_4_method_13_code 45 = .ok (.getfield 31, 3) := by decide +kernel
theorem d_Fmt_nearest_48 : decode prog_4_method_13_code 48 = .ok (.isub, 1) := by decide +kernel
theorem d_Fmt_nearest_49 : decode prog_4_method_13_code 49 = .ok (.aload_n 0, 1) := by decide +kernel
theorem d_Fmt_nearest_50 : decode prog_4_method_13_code 50 = .ok (.getfield 38, 3) := by decide +kernel
theorem d_Fmt_nearest_53 : decode prog_4_method_13_code 53 = .ok (.iload 7, 2) := by decide +kernel
theorem d_Fmt_nearest_55 : decode prog_4_method_13_code 55 = .ok (.isub, 1) := by decide +kernel
theorem d_Fmt_nearest_56 : decode prog_4_method_13_code 56 = .ok (.invokestatic 58, 3) := by decide +kernel
theorem d_Fmt_nearest_59 : decode prog_4_method_13_code 59 = .ok (.istore 8, 2) := by decide +kernel
theorem d_Fmt_nearest_61 : decode prog_4_method_13_code 61 = .ok (.iload 8, 2) := by decide +kernel
theorem d_Fmt_nearest_63 : decode prog_4_method_13_code 63 = .ok (.bipush 63, 2) := by decide +kernel
theorem d_Fmt_nearest_65 : decode prog_4_method_13_code 65 = .ok (.if_icmp .le 7, 3) := by decide +kernel
theorem d_Fmt_nearest_68 : decode prog_4_method_13_code 68 = .ok (.ldc2_w 66, 3) := by decide +kernel
theorem d_Fmt_nearest_71 : decode prog_4_method_13_code 71 = .ok (.lreturn, 1) := by decide +kernel
theorem d_Fmt_nearest_72 : decode prog_4_method_13_code 72 = .ok (.aload_n 0, 1) := by decide +kernel
theorem d_Fmt_nearest_73 : decode prog_4_method_13_code 73 = .ok (.lload 5, 2) := by decide +kernel
theorem d_Fmt_nearest_75 : decode prog_4_method_13_code 75 = .ok (.iload 8, 2) := by decide +kernel
theorem d_Fmt_nearest_77 : decode prog_4_method_13_code 77 = .ok (.iload 4, 2) := by decide +kernel
theorem d_Fmt_nearest_79 : decode prog_4_method_13_code 79 = .ok (.invokestatic 68, 3) := by decide +kernel
theorem d_Fmt_nearest_82 : decode prog_4_method_13_code 82 = .ok (.iload 7, 2) := by decide +kernel
theorem d_Fmt_nearest_84 : decode prog_4_method_13_code 84 = .ok (.iload 8, 2) := by decide +kernel
theorem d_Fmt_nearest_86 : decode prog_4_method_13_code 86 = .ok (.iadd, 1) := by decide +kernel
theorem d_Fmt_nearest_87 : decode prog_4_method_13_code 87 = .ok (.invokevirtual 72, 3) := by decide +kernel
theorem d_Fmt_nearest_90 : decode prog_4_method_13_code 90 = .ok (.lreturn, 1) := by decide +kernel
def f_Fmt_nearest_42 (fu : Nat) (x0 : Nat) (x1 : Int64) (x3 : Int32) (x4 : Int32)  (y5 : Int64) (y7 : Int32) : Option (Int64) :=
  (f_Mat_max (62 - (zx_fractionBits x0)) ((zx_leastPower x0) - y7)).bind fun u_1 =>
  (if u_1 ≤ 63 then
  (f_Fmt_rounded y5 u_1 x4).bind fun u_2 =>
  (f_Fmt_join x0 u_2 (y7 + u_1)).bind fun u_3 =>
  some (u_3)
  else
  some ((-2)))
def f_Fmt_nearest_9 (fu : Nat) (x0 : Nat) (x1 : Int64) (x3 : Int32) (x4 : Int32)  : Nat → Int64 → Int32 → Int32 → Option (Int64)
  | 0, _, _, _ => none
  | n + 1, y5, y7, y8 =>
  (if 63 ≤ y8 then
  f_Fmt_nearest_42 fu x0 x1 x3 x4 y5 y7
  else
  (if (lg_cmp (y5 &&& 4611686018427387904) 0) = 0 then
  zz_lt (y5 <<< ((1 : Int32).toInt64 &&& 63)) fun x5_4 =>
  f_Fmt_nearest_9 fu x0 x1 x3 x4 n x5_4 (y7 + (-1)) (y8 + 1)
  else
  f_Fmt_nearest_42 fu x0 x1 x3 x4 y5 y7))
theorem f_Fmt_nearest_9_s (fu : Nat) (x0 : Nat) (x1 : Int64) (x3 : Int32) (x4 : Int32)  (n : Nat) (y5 : Int64) (y7 : Int32) (y8 : Int32) : f_Fmt_nearest_9 fu x0 x1 x3 x4 (n + 1) y5 y7 y8 =
  (if 63 ≤ y8 then
  f_Fmt_nearest_42 fu x0 x1 x3 x4 y5 y7
  else
  (if (lg_cmp (y5 &&& 4611686018427387904) 0) = 0 then
  zz_lt (y5 <<< ((1 : Int32).toInt64 &&& 63)) fun x5_4 =>
  f_Fmt_nearest_9 fu x0 x1 x3 x4 n x5_4 (y7 + (-1)) (y8 + 1)
  else
  f_Fmt_nearest_42 fu x0 x1 x3 x4 y5 y7)) := rfl
def f_Fmt_nearest (fu : Nat) (x0 : Nat) (x1 : Int64) (x3 : Int32) (x4 : Int32) : Option (Int64) :=
  f_Fmt_nearest_9 fu x0 x1 x3 x4 fu x1 x3 0
set_option maxHeartbeats 4000000 in
set_option maxRecDepth 100000 in
theorem c_Fmt_nearest (l : Launch) (dC : Nat → ClassId) (dI : Nat → Nat → Nat) (cI cC cB cJ : ClassId) (adF : Nat → Nat) (tp : Nat) (adK adV : Nat → Nat) (fu : Nat) (sz : Nat) (x0 : Nat) (x1 : Int64) (x3 : Int32) (x4 : Int32) (he_x0 : x0 < 2) (u : Int64) (hf : f_Fmt_nearest fu x0 x1 x3 x4 = some u) : Met l y_Fmt_nearest ws_Fmt_nearest rm_Fmt_nearest (zz_P (zx_E adF tp adK adV) (dC, dI) vwCl (zz_tys cI cC cB cJ) [.ref (adF x0), .long x1, .int x3, .int x4] [] sz) (zz_Ql (dC, dI) vwCl u [] (va_A [] sz)) 0 0 (va_A [] sz) := by
  refine Met.ofW (cc := prog_4_method_13_code) (maxL := 9) (ret := (some .long)) (by decide +kernel) rfl ?_
  intro p e s m args below meth c s₁ B hml hv
  obtain ⟨rfl, hsz, hP, hK, hD0, hX⟩ := hv
  have hx := B.exec
  have hb := B.bytes
  have hr := B.returns
  have hts := atoms_spec (ws := ws_Fmt_nearest) B.pre
  have hw : ∀ w ∈ zw, w.before [.ref (adF x0), .long x1, .int x3, .int x4].toArray s = true := fun w h => hts w (List.mem_cons_of_mem _ h)
  have hown : s.vm.findClass R_Fmt = some m.cls := findClass_of_methodNamed B.named
  have hlocks := B.notSynchronized
  subst hsz
  have hD := hD0.self (sz := s.heap.size)
  generalize hAe : va_A [] s.heap.size = A at hD hX ⊢
  have hA : ∀ q : Nat, s.heap.size ≤ q → A q := fun q h => by rw [← hAe]; exact Or.inr h
  have hS : va_S A s.heap s.heap [] := va_S.rf
  have hl := lv_entry [.ref (adF x0), .long x1, .int x3, .int x4] (n := 9) (Nat.le_of_ble_eq_true rfl)
  rw [lg_entry_eq]
  generalize (lg_sl [.ref (adF x0), .long x1, .int x3, .int x4] ++ List.replicate (9 - (lg_sl [.ref (adF x0), .long x1, .int x3, .int x4]).length) Slot.unset).toArray = ls at hl ⊢
  have hl : lv_has ls 9 [(0, .ref (adF x0)), (1, .long x1), (3, .int x3), (4, .int x4)] := hl
  refine zz_endl hx hb hr hlocks (fun Qq hend => ?_)
  have hL_42 : ∀ (y5 : Int64) (y7 : Int32) (ls : Array Slot) (H : Heap) (locs : List Loc), lv_has ls 9 [(0, .ref (adF x0)), (4, .int x4), (5, .long y5), (7, .int y7)] → va_P (dC, dI) vwCl [] H → va_D A [] → va_S A s.heap H locs → f_Fmt_nearest_42 fu x0 x1 x3 x4 y5 y7 = some u → W p l e (headSpec ws_Fmt_nearest rm_Fmt_nearest).room s m [.ref (adF x0), .long x1, .int x3, .int x4].toArray below meth c H locs 0 0 Qq (F0 m 42 ls []) := by
    intro y5 y7 ls H locs hl hP hD hS hf
    unfold f_Fmt_nearest_42 at hf
    refine lv_bipush (v := 62) hx hb d_Fmt_nearest_42 (by decide) ?_
    refine lv_aload_n hx hb d_Fmt_nearest_44 rfl (lv_at hl 0 rfl) ?_
    refine va_getE (q := zx_q0) hx hb hX.1 he_x0 hS hown zx_m0 (hw _ wd_916) (fun _ h9 => h9) d_Fmt_nearest_45 ?_
    refine lv_isub hx hb d_Fmt_nearest_48 ?_
    refine lv_aload_n hx hb d_Fmt_nearest_49 rfl (lv_at hl 0 rfl) ?_
    refine va_getE (q := zx_q2) hx hb hX.1 he_x0 hS hown zx_m2 (hw _ wd_917) (fun _ h9 => h9) d_Fmt_nearest_50 ?_
    refine lv_iload hx hb d_Fmt_nearest_53 (lv_at hl 3 rfl) ?_
    refine lv_isub hx hb d_Fmt_nearest_55 ?_
    obtain ⟨u_1, hu_1, hf⟩ := zz_bd hf
    refine zz_ci (ws' := []) (wc := []) (w' := []) hP hD hS hA [] [] [] rfl rfl (by decide) (by decide) rfl (by decide) (va_runS (As := [.int (62 - (zx_fractionBits x0)), .int ((zx_leastPower x0) - y7)]) (rest := []) ⟨hx, hb, hml, hown, hw⟩ (c_Mat_max l dC dI cI cC cB cJ _ (62 - (zx_fractionBits x0)) ((zx_leastPower x0) - y7) u_1 hu_1) (va_cwS 2 hw (zg_S wd_315 wd_316 wd_16 wd_317) rfl rfl rfl hd_Mat_max ⟨Nat.le_of_ble_eq_true rfl, Nat.le_of_ble_eq_true rfl⟩) (zz_preS zz_TE hP hD hK hS hA trivial [] rfl (by decide)) rfl rfl hl.1 rfl (lv_room (Nat.le_of_ble_eq_true rfl)) d_Fmt_nearest_56 ⟨Nat.zero_le _, Nat.zero_le _⟩) (fun H locs hP hD hS => ?_)
    refine lv_istore hx hb d_Fmt_nearest_59 hl (by decide) rfl (fun ls hl => ?_)
    have hl : lv_has ls 9 [(8, .int u_1), (0, .ref (adF x0)), (4, .int x4), (5, .long y5), (7, .int y7)] := hl
    refine lv_iload hx hb d_Fmt_nearest_61 (lv_at hl 0 rfl) ?_
    refine lv_bipush (v := 63) hx hb d_Fmt_nearest_63 (by decide) ?_
    refine lv_icmp_le (tgt := 72) hx hb d_Fmt_nearest_65 (by decide) (fun hc => ?_) (fun hc => ?_)
    · have hf := zz_ifp hc hf
      refine lv_aload_n hx hb d_Fmt_nearest_72 rfl (lv_at hl 1 rfl) ?_
      refine lv_lload hx hb d_Fmt_nearest_73 (lv_at hl 3 rfl) ?_
      refine lv_iload hx hb d_Fmt_nearest_75 (lv_at hl 0 rfl) ?_
      refine lv_iload hx hb d_Fmt_nearest_77 (lv_at hl 2 rfl) ?_
      obtain ⟨u_2, hu_2, hf⟩ := zz_bd hf
      refine zz_cl (ws' := []) (wc := []) (w' := []) hP hD hS hA [] [] [] rfl rfl (by decide) (by decide) rfl (by decide) (va_runS (As := [.long y5, .int u_1, .int x4]) (rest := [.ref (adF x0)]) ⟨hx, hb, hml, hown, hw⟩ (c_Fmt_rounded l dC dI cI cC cB cJ _ y5 u_1 x4 u_2 hu_2) (va_cwS 3 hw (zg_S wd_611 wd_612 wd_15 wd_613) rfl rfl rfl hd_Fmt_rounded ⟨Nat.le_of_ble_eq_true rfl, Nat.le_of_ble_eq_true rfl⟩) (zz_preS zz_TE hP hD hK hS hA trivial [] rfl (by decide)) rfl rfl hl.1 rfl (lv_room (Nat.le_of_ble_eq_true rfl)) d_Fmt_nearest_79 ⟨Nat.zero_le _, Nat.zero_le _⟩) (fun H locs hP hD hS => ?_)
      refine lv_iload hx hb d_Fmt_nearest_82 (lv_at hl 4 rfl) ?_
      refine lv_iload hx hb d_Fmt_nearest_84 (lv_at hl 0 rfl) ?_
      refine lv_iadd hx hb d_Fmt_nearest_86 ?_
      obtain ⟨u_3, hu_3, hf⟩ := zz_bd hf
      refine zz_cl (ws' := []) (wc := []) (w' := []) hP hD hS hA [] [] [] rfl rfl (by decide) (by decide) rfl (by decide) (va_runV (As := [.long u_2, .int (y7 + u_1)]) (rest := []) ⟨hx, hb, hml, hown, hw⟩ (c_Fmt_join l dC dI cI cC cB cJ adF tp adK adV _ x0 u_2 (y7 + u_1) he_x0 u_3 hu_3) (cwV 2 hw (zg_V wd_614 wd_616 we_1_5 wd_15 wd_617) rfl rfl rfl hd_Fmt_join ⟨Nat.le_of_ble_eq_true rfl, Nat.le_of_ble_eq_true rfl⟩) (zz_preV (zx_ok adF tp adK adV) (va_recvE hX.1 he_x0 hS) hP hD hK hS hA hX [] rfl (by decide)) rfl rfl hl.1 rfl (lv_room (Nat.le_of_ble_eq_true rfl)) d_Fmt_nearest_87 ⟨Nat.zero_le _, Nat.zero_le _⟩) (fun H locs hP hD hS => ?_)
      cases hf
      exact hend 90 ls _ _ d_Fmt_nearest_90 hP hD hS
    · have hf := zz_ifn hc hf
      refine lv_ldc2 (v := (-2)) hx hb hown (hw _ wd_610) d_Fmt_nearest_68 ?_
      cases hf
      exact hend 71 ls _ _ d_Fmt_nearest_71 hP hD hS
  have hL_9 : ∀ (n : Nat), ∀ (y5 : Int64) (y7 : Int32) (y8 : Int32) (ls : Array Slot) (H : Heap) (locs : List Loc), lv_has ls 9 [(0, .ref (adF x0)), (4, .int x4), (5, .long y5), (7, .int y7), (8, .int y8)] → va_P (dC, dI) vwCl [] H → va_D A [] → va_S A s.heap H locs → f_Fmt_nearest_9 fu x0 x1 x3 x4 n y5 y7 y8 = some u → W p l e (headSpec ws_Fmt_nearest rm_Fmt_nearest).room s m [.ref (adF x0), .long x1, .int x3, .int x4].toArray below meth c H locs 0 0 Qq (F0 m 9 ls []) := by
    intro n
    induction n with
    | zero =>
      intro y5 y7 y8 ls H locs hl hP hD hS hf
      exact zz_no hf
    | succ n ih =>
      intro y5 y7 y8 ls H locs hl hP hD hS hf
      rw [f_Fmt_nearest_9_s] at hf
      refine lv_iload hx hb d_Fmt_nearest_9 (lv_at hl 4 rfl) ?_
      refine lv_bipush (v := 63) hx hb d_Fmt_nearest_11 (by decide) ?_
      refine lv_icmp_ge (tgt := 42) hx hb d_Fmt_nearest_13 (by decide) (fun hc => ?_) (fun hc => ?_)
      · have hf := zz_ifp hc hf
        exact hL_42 y5 y7 ls _ _ (lv_sub hl [0, 1, 2, 3] rfl) hP hD hS hf
      · have hf := zz_ifn hc hf
        refine lv_lload hx hb d_Fmt_nearest_16 (lv_at hl 2 rfl) ?_
        refine lv_ldc2 (v := 4611686018427387904) hx hb hown (hw _ wd_609) d_Fmt_nearest_18 ?_
        refine lv_land hx hb d_Fmt_nearest_21 ?_
        refine lv_lconst (v := 0) hx hb d_Fmt_nearest_22 (by decide) ?_
        refine W.lcmp hx hb d_Fmt_nearest_23 ?_
        refine lv_if_ne (tgt := 42) hx hb d_Fmt_nearest_24 (by decide) (fun hc => ?_) (fun hc => ?_)
        · have hf := zz_ifn hc hf
          exact hL_42 y5 y7 ls _ _ (lv_sub hl [0, 1, 2, 3] rfl) hP hD hS hf
        · have hf := zz_ifp hc hf
          refine lv_lload hx hb d_Fmt_nearest_27 (lv_at hl 2 rfl) ?_
          refine lv_iconst (v := 1) hx hb d_Fmt_nearest_29 (by decide) ?_
          refine lv_lshl hx hb d_Fmt_nearest_30 rfl ?_
          refine lv_topl (fun x5_4 e_x5_4 => ?_)
          have hf := zz_ltp hf x5_4 e_x5_4
          refine lv_lstore hx hb d_Fmt_nearest_31 hl (by decide) rfl (fun ls hl => ?_)
          have hl : lv_has ls 9 [(5, .long x5_4), (0, .ref (adF x0)), (4, .int x4), (7, .int y7), (8, .int y8)] := hl
          refine lv_iinc (k := 3) (v := y7 + (-1)) hx hb d_Fmt_nearest_33 hl rfl rfl (by decide) rfl (fun ls hl => ?_)
          have hl : lv_has ls 9 [(7, .int (y7 + (-1))), (5, .long x5_4), (0, .ref (adF x0)), (4, .int x4), (8, .int y8)] := hl
          refine lv_iinc (k := 4) (v := y8 + 1) hx hb d_Fmt_nearest_36 hl rfl rfl (by decide) rfl (fun ls hl => ?_)
          have hl : lv_has ls 9 [(8, .int (y8 + 1)), (7, .int (y7 + (-1))), (5, .long x5_4), (0, .ref (adF x0)), (4, .int x4)] := hl
          refine lv_goto (tgt := 9) hx hb d_Fmt_nearest_39 (by decide) ?_
          exact ih x5_4 (y7 + (-1)) (y8 + 1) ls _ _ (lv_sub hl [3, 4, 2, 1, 0] rfl) hP hD hS hf
  unfold f_Fmt_nearest at hf
  refine lv_lload_n hx hb d_Fmt_nearest_0 rfl (lv_at hl 1 rfl) ?_
  refine lv_lstore hx hb d_Fmt_nearest_1 hl (by decide) rfl (fun ls hl => ?_)
  have hl : lv_has ls 9 [(5, .long x1), (0, .ref (adF x0)), (1, .long x1), (3, .int x3), (4, .int x4)] := hl
  refine lv_iload_n hx hb d_Fmt_nearest_3 rfl (lv_at hl 3 rfl) ?_
  refine lv_istore hx hb d_Fmt_nearest_4 hl (by decide) rfl (fun ls hl => ?_)
  have hl : lv_has ls 9 [(7, .int x3), (5, .long x1), (0, .ref (adF x0)), (1, .long x1), (3, .int x3), (4, .int x4)] := hl
  refine lv_iconst (v := 0) hx hb d_Fmt_nearest_6 (by decide) ?_
  refine lv_istore hx hb d_Fmt_nearest_7 hl (by decide) rfl (fun ls hl => ?_)
  have hl : lv_has ls 9 [(8, .int 0), (7, .int x3), (5, .long x1), (0, .ref (adF x0)), (1, .long x1), (3, .int x3), (4, .int x4)] := hl
  exact hL_9 fu x1 x3 0 ls _ _ (lv_sub hl [3, 6, 2, 1, 0] rfl) hP hD hS hf
end
section
abbrev ws_Big_multiplyByFives : List Cond := .code y_Big_multiplyByFives prog_2_method_10_code 3 none :: zw
abbrev rm_Big_multiplyByFives : Room := { frames := 2, cells := 0, slots := 0, locals := 47 }
theorem hd_Big_multiplyByFives : y_Big_multiplyByFives.cls = "RealText$Big" ∧ y_Big_multiplyByFives.cls ≠ "java/lang/invoke/MethodHandle" ∧ y_Big_multiplyByFives.cls ≠ "java/lang/invoke/VarHandle" ∧ (parseMethodDescriptor y_Big_multiplyByFives.desc).map (fun d => d.parameters.length) = some 1 := by decide +kernel
theorem d_Big_multiplyByFives_0 : decode prog_2_method_10_code 0 = .ok (.iload_n 1, 1) := by decide +kernel
theorem d_Big_multiplyByFives_1 : decode prog_2_method_10_code 1 = .ok (.istore_n 2, 1) := by decide +kernel
theorem d_Big_multiplyByFives_2 : decode prog_2_method_10_code 2 = .ok (.iload_n 2, 1) := by decide +kernel
theorem d_Big_multiplyByFives_3 : decode prog_2_method_10_code 3 = .ok (.ifCond .le 24, 3) := by decide +kernel
theorem d_Big_multiplyByFives_6 : decode prog_2_method_10_code 6 = .ok (.aload_n 0, 1) := by decide +kernel
theorem d_Big_multiplyByFives_7 : decode prog_2_method_10_code 7 = .ok (.getstatic 49, 3) := by decide +kernel
theorem d_Big_multiplyByFives_10 : decode prog_2_method_10_code 10 = .ok (.iload_n 2, 1) := by decide +kernel
theorem d_Big_multiplyByFives_11 : decode prog_2_method_10_code 11 = .ok (.bipush 13, 2) := by decide +kernel
theorem d_Big_multiplyByFives_13 : decode prog_2_method_10_code 13 = .ok (.invokestatic 26, 3) := by decide +kernel
theorem d_Big_multiplyByFives_16 : decode prog_2_method_10_code 16 = .ok (.iaload, 1) := by decide +kernel
theorem d_Big_multiplyByFives_17 : decode prog_2_method_10_code 17 = .ok (.iconst 0, 1) := by decide +kernel
theorem d_Big_multiplyByFives_18 : decode prog_2_method_10_code 18 = .ok (.invokevirtual 52, 3) := by decide +kernel
theorem d_Big_multiplyByFives_21 : decode prog_2_method_10_code 21 = .ok (.iinc 2 (-13), 3) := by decide +kernel
theorem d_Big_multiplyByFives_24 : decode prog_2_method_10_code 24 = .ok (.goto (-22), 3) := by decide +kernel
theorem d_Big_multiplyByFives_27 : decode prog_2_method_10_code 27 = .ok (.return_, 1) := by decide +kernel
def f_Big_multiplyByFives_2 (fu : Nat) (n_v_limbs : Nat) (x1 : Int32)  : Nat → Int32 → Int32 → (Nat → Int32) → Option (Int32 × (Nat → Int32))
  | 0, _, _, _ => none
  | n + 1, y2, v_size, v_limbs_a =>
  (if y2 ≤ 0 then
  some (v_size, v_limbs_a)
  else
  (f_Mat_min y2 13).bind fun u_1 =>
  if zz_in u_1 14 = true then
  (f_Big_multiplyAndAdd fu n_v_limbs (zx_pw (u_1).toNatClampNeg) 0 v_size v_limbs_a).bind fun u_3 =>
  f_Big_multiplyByFives_2 fu n_v_limbs x1 n (y2 + (-13)) u_3.1 u_3.2
  else none)
theorem f_Big_multiplyByFives_2_s (fu : Nat) (n_v_limbs : Nat) (x1 : Int32)  (n : Nat) (y2 : Int32) (v_size : Int32) (v_limbs_a : Nat → Int32) : f_Big_multiplyByFives_2 fu n_v_limbs x1 (n + 1) y2 v_size v_limbs_a =
  (if y2 ≤ 0 then
  some (v_size, v_limbs_a)
  else
  (f_Mat_min y2 13).bind fun u_1 =>
  if zz_in u_1 14 = true then
  (f_Big_multiplyAndAdd fu n_v_limbs (zx_pw (u_1).toNatClampNeg) 0 v_size v_limbs_a).bind fun u_3 =>
  f_Big_multiplyByFives_2 fu n_v_limbs x1 n (y2 + (-13)) u_3.1 u_3.2
  else none) := rfl
def f_Big_multiplyByFives (fu : Nat) (n_v_limbs : Nat) (x1 : Int32) (v_size : Int32) (v_limbs_a : Nat → Int32) : Option (Int32 × (Nat → Int32)) :=
  f_Big_multiplyByFives_2 fu n_v_limbs x1 fu x1 v_size v_limbs_a
set_option maxHeartbeats 4000000 in
set_option maxRecDepth 100000 in
theorem c_Big_multiplyByFives (l : Launch) (dC : Nat → ClassId) (dI : Nat → Nat → Nat) (cI cC cB cJ : ClassId) (adF : Nat → Nat) (tp : Nat) (adK adV : Nat → Nat) (fu : Nat) (sz : Nat) (h_v : Nat) (h_v_limbs : Nat) (n_v_limbs : Nat) (x1 : Int32) (v_size : Int32) (v_limbs_a : Nat → Int32) (u : Int32 × (Nat → Int32)) (hf : f_Big_multiplyByFives fu n_v_limbs x1 v_size v_limbs_a = some u) : Met l y_Big_multiplyByFives ws_Big_multiplyByFives rm_Big_multiplyByFives (zz_P (zx_E adF tp adK adV) (dC, dI) vwCl (zz_tys cI cC cB cJ) [.ref h_v, .int x1] [(h_v, .inr (0, [.ref h_v_limbs, .int v_size])), (h_v_limbs, .inl (cI, n_v_limbs, .inl v_limbs_a))] sz) (zz_Qv (dC, dI) vwCl [(h_v, .inr (0, [.ref h_v_limbs, .int u.1])), (h_v_limbs, .inl (cI, n_v_limbs, .inl u.2))] (va_A [(h_v, .inr (0, [.ref h_v_limbs, .int v_size])), (h_v_limbs, .inl (cI, n_v_limbs, .inl v_limbs_a))] sz)) 0 0 (va_A [(h_v, .inr (0, [.ref h_v_limbs, .int v_size])), (h_v_limbs, .inl (cI, n_v_limbs, .inl v_limbs_a))] sz) := by
  refine Met.ofW (cc := prog_2_method_10_code) (maxL := 3) (ret := none) (by decide +kernel) rfl ?_
  intro p e s m args below meth c s₁ B hml hv
  obtain ⟨rfl, hsz, hP, hK, hD0, hX⟩ := hv
  have hx := B.exec
  have hb := B.bytes
  have hr := B.returns
  have hts := atoms_spec (ws := ws_Big_multiplyByFives) B.pre
  have hw : ∀ w ∈ zw, w.before [.ref h_v, .int x1].toArray s = true := fun w h => hts w (List.mem_cons_of_mem _ h)
  have hown : s.vm.findClass R_Big = some m.cls := findClass_of_methodNamed B.named
  have hlocks := B.notSynchronized
  subst hsz
  have hD := hD0.self (sz := s.heap.size)
  generalize hAe : va_A [(h_v, .inr (0, [.ref h_v_limbs, .int v_size])), (h_v_limbs, .inl (cI, n_v_limbs, .inl v_limbs_a))] s.heap.size = A at hD hX ⊢
  have hA : ∀ q : Nat, s.heap.size ≤ q → A q := fun q h => by rw [← hAe]; exact Or.inr h
  have hS : va_S A s.heap s.heap [] := va_S.rf
  have hl := lv_entry [.ref h_v, .int x1] (n := 3) (Nat.le_of_ble_eq_true rfl)
  rw [lg_entry_eq]
  generalize (lg_sl [.ref h_v, .int x1] ++ List.replicate (3 - (lg_sl [.ref h_v, .int x1]).length) Slot.unset).toArray = ls at hl ⊢
  have hl : lv_has ls 3 [(0, .ref h_v), (1, .int x1)] := hl
  refine zz_endv hx hb hr hlocks (fun Qq hend => ?_)
  have hL_2 : ∀ (n : Nat), ∀ (y2 : Int32) (v_size : Int32) (v_limbs_a : Nat → Int32) (ls : Array Slot) (H : Heap) (locs : List Loc), lv_has ls 3 [(0, .ref h_v), (2, .int y2)] → va_P (dC, dI) vwCl [(h_v, .inr (0, [.ref h_v_limbs, .int v_size])), (h_v_limbs, .inl (cI, n_v_limbs, .inl v_limbs_a))] H → va_D A [(h_v, .inr (0, [.ref h_v_limbs, .int v_size])), (h_v_limbs, .inl (cI, n_v_limbs, .inl v_limbs_a))] → va_S A s.heap H locs → f_Big_multiplyByFives_2 fu n_v_limbs x1 n y2 v_size v_limbs_a = some u → W p l e (headSpec ws_Big_multiplyByFives rm_Big_multiplyByFives).room s m [.ref h_v, .int x1].toArray below meth c H locs 0 0 Qq (F0 m 2 ls []) := by
    intro n
    induction n with
    | zero =>
      intro y2 v_size v_limbs_a ls H locs hl hP hD hS hf
      exact zz_no hf
    | succ n ih =>
      intro y2 v_size v_limbs_a ls H locs hl hP hD hS hf
      rw [f_Big_multiplyByFives_2_s] at hf
      refine lv_iload_n hx hb d_Big_multiplyByFives_2 rfl (lv_at hl 1 rfl) ?_
      refine lv_if_le (tgt := 27) hx hb d_Big_multiplyByFives_3 (by decide) (fun hc => ?_) (fun hc => ?_)
      · have hf := zz_ifp hc hf
        cases hf
        exact hend 27 ls _ _ d_Big_multiplyByFives_27 hP hD hS
      · have hf := zz_ifn hc hf
        refine lv_aload_n hx hb d_Big_multiplyByFives_6 rfl (lv_at hl 0 rfl) ?_
        refine va_gets hx hb hX.2.1 hS hown (hw _ wd_361) (fun _ h9 => h9) d_Big_multiplyByFives_7 ?_
        refine lv_iload_n hx hb d_Big_multiplyByFives_10 rfl (lv_at hl 1 rfl) ?_
        refine lv_bipush (v := 13) hx hb d_Big_multiplyByFives_11 (by decide) ?_
        obtain ⟨u_1, hu_1, hf⟩ := zz_bd hf
        refine zz_ci (ws' := [(h_v, .inr (0, [.ref h_v_limbs, .int v_size])), (h_v_limbs, .inl (cI, n_v_limbs, .inl v_limbs_a))]) (wc := []) (w' := []) hP hD hS hA [] [0, 1] [0, 1] rfl rfl (by decide) (by decide) rfl (by decide) (va_runS (As := [.int y2, .int 13]) (rest := [.ref tp, .ref h_v]) ⟨hx, hb, hml, hown, hw⟩ (c_Mat_min l dC dI cI cC cB cJ _ y2 13 u_1 hu_1) (va_cwS 2 hw (zg_S wd_363 wd_364 wd_16 wd_365) rfl rfl rfl hd_Mat_min ⟨Nat.le_of_ble_eq_true rfl, Nat.le_of_ble_eq_true rfl⟩) (zz_preS zz_TE hP hD hK hS hA trivial [] rfl (by decide)) rfl rfl hl.1 rfl (lv_room (Nat.le_of_ble_eq_true rfl)) d_Big_multiplyByFives_13 ⟨Nat.zero_le _, Nat.zero_le _⟩) (fun H locs hP hD hS => ?_)
        obtain ⟨hb_2, hf⟩ := zz_gd hf
        refine va_ti hx hb hX.2.2.1 hS (zz_vp hb_2) rfl d_Big_multiplyByFives_16 ?_
        refine lv_iconst (v := 0) hx hb d_Big_multiplyByFives_17 (by decide) ?_
        obtain ⟨u_3, hu_3, hf⟩ := zz_bd hf
        refine zz_cv (ws' := [(h_v, .inr (0, [.ref h_v_limbs, .int u_3.1])), (h_v_limbs, .inl (cI, n_v_limbs, .inl u_3.2))]) (wc := [(h_v, .inr (0, [.ref h_v_limbs, .int v_size])), (h_v_limbs, .inl (cI, n_v_limbs, .inl v_limbs_a))]) (w' := [(h_v, .inr (0, [.ref h_v_limbs, .int u_3.1])), (h_v_limbs, .inl (cI, n_v_limbs, .inl u_3.2))]) hP hD hS hA [0, 1] [] [0, 1] rfl rfl (by decide) (by decide) rfl (by decide) (va_runV (As := [.int (zx_pw (u_1).toNatClampNeg), .int 0]) (rest := []) ⟨hx, hb, hml, hown, hw⟩ (c_Big_multiplyAndAdd l dC dI cI cC cB cJ fu _ h_v h_v_limbs n_v_limbs (zx_pw (u_1).toNatClampNeg) 0 v_size v_limbs_a u_3 hu_3) (cwV 2 hw (zg_V wd_366 wd_367 wd_368 wd_5 wd_369) rfl rfl rfl hd_Big_multiplyAndAdd ⟨Nat.le_of_ble_eq_true rfl, Nat.le_of_ble_eq_true rfl⟩) (zz_preV zz_TE (va_recv (q0 := 0) (ci := 0) hK hP rfl rfl) hP hD hK hS hA trivial [0, 1] rfl (by decide)) rfl rfl hl.1 rfl (lv_room (Nat.le_of_ble_eq_true rfl)) d_Big_multiplyByFives_18 ⟨Nat.zero_le _, Nat.zero_le _⟩) (fun H locs hP hD hS => ?_)
        refine lv_iinc (k := 1) (v := y2 + (-13)) hx hb d_Big_multiplyByFives_21 hl rfl rfl (by decide) rfl (fun ls hl => ?_)
        have hl : lv_has ls 3 [(2, .int (y2 + (-13))), (0, .ref h_v)] := hl
        refine lv_goto (tgt := 2) hx hb d_Big_multiplyByFives_24 (by decide) ?_
        exact ih (y2 + (-13)) u_3.1 u_3.2 ls _ _ (lv_sub hl [1, 0] rfl) hP hD hS hf
  unfold f_Big_multiplyByFives at hf
  refine lv_iload_n hx hb d_Big_multiplyByFives_0 rfl (lv_at hl 1 rfl) ?_
  refine lv_istore_n hx hb d_Big_multiplyByFives_1 rfl hl (by decide) rfl (fun ls hl => ?_)
  have hl : lv_has ls 3 [(2, .int x1), (0, .ref h_v), (1, .int x1)] := hl
  exact hL_2 fu x1 v_size v_limbs_a ls _ _ (lv_sub hl [1, 0] rfl) hP hD hS hf
abbrev ws_Big_multiplyByTens : List Cond := .code y_Big_multiplyByTens prog_2_method_11_code 2 none :: zw
abbrev rm_Big_multiplyByTens : Room := { frames := 3, cells := 0, slots := 0, locals := 69 }
theorem hd_Big_multiplyByTens : y_Big_multiplyByTens.cls = "RealText$Big" ∧ y_Big_multiplyByTens.cls ≠ "java/lang/invoke/MethodHandle" ∧ y_Big_multiplyByTens.cls ≠ "java/lang/invoke/VarHandle" ∧ (parseMethodDescriptor y_Big_multiplyByTens.desc).map (fun d => d.parameters.length) = some 1 := by decide +kernel
theorem d_Big_multiplyByTens_0 : decode prog_2_method_11_code 0 = .ok (.aload_n 0, 1) := by decide +kernel
theorem d_Big_multiplyByTens_1 : decode prog_2_method_11_code 1 = .ok (.iload_n 1, 1) := by decide +kernel
theorem d_Big_multiplyByTens_2 : decode prog_2_method_11_code 2 = .ok (.invokevirtual 56, 3) := by decide +kernel
theorem d_Big_multiplyByTens_5 : decode prog_2_method_11_code 5 = .ok (.aload_n 0, 1) := by decide +kernel
theorem d_Big_multiplyByTens_6 : decode prog_2_method_11_code 6 = .ok (.iload_n 1, 1) := by decide +kernel
theorem d_Big_multiplyByTens_7 : decode prog_2_method_11_code 7 = .ok (.invokevirtual 60, 3) := by decide +kernel
theorem d_Big_multiplyByTens_10 : decode prog_2_method_11_code 10 = .ok (.return_, 1) := by decide +kernel
def f_Big_multiplyByTens (fu : Nat) (n_v_limbs : Nat) (x1 : Int32) (v_size : Int32) (v_limbs_a : Nat → Int32) : Option (Int32 × (Nat → Int32)) :=
  (f_Big_multiplyByFives fu n_v_limbs x1 v_size v_limbs_a).bind fun u_1 =>
  (f_Big_shiftLeft fu n_v_limbs x1 u_1.1 u_1.2).bind fun u_2 =>
  some (u_2.1, u_2.2)
set_option maxHeartbeats 4000000 in
set_option maxRecDepth 100000 in
theorem c_Big_multiplyByTens (l : Launch) (dC : Nat → ClassId) (dI : Nat → Nat → Nat) (cI cC cB cJ : ClassId) (adF : Nat → Nat) (tp : Nat) (adK adV : Nat → Nat) (fu : Nat) (sz : Nat) (h_v : Nat) (h_v_limbs : Nat) (n_v_limbs : Nat) (x1 : Int32) (v_size : Int32) (v_limbs_a : Nat → Int32) (u : Int32 × (Nat → Int32)) (hf : f_Big_multiplyByTens fu n_v_limbs x1 v_size v_limbs_a = some u) : Met l y_Big_multiplyByTens ws_Big_multiplyByTens rm_Big_multiplyByTens (zz_P (zx_E adF tp adK adV) (dC, dI) vwCl (zz_tys cI cC cB cJ) [.ref h_v, .int x1] [(h_v, .inr (0, [.ref h_v_limbs, .int v_size])), (h_v_limbs, .inl (cI, n_v_limbs, .inl v_limbs_a))] sz) (zz_Qv (dC, dI) vwCl [(h_v, .inr (0, [.ref h_v_limbs, .int u.1])), (h_v_limbs, .inl (cI, n_v_limbs, .inl u.2))] (va_A [(h_v, .inr (0, [.ref h_v_limbs, .int v_size])), (h_v_limbs, .inl (cI, n_v_limbs, .inl v_limbs_a))] sz)) 0 0 (va_A [(h_v, .inr (0, [.ref h_v_limbs, .int v_size])), (h_v_limbs, .inl (cI, n_v_limbs, .inl v_limbs_a))] sz) := by
  refine Met.ofW (cc := prog_2_method_11_code) (maxL := 2) (ret := none) (by decide +kernel) rfl ?_
  intro p e s m args below meth c s₁ B hml hv
  obtain ⟨rfl, hsz, hP, hK, hD0, hX⟩ := hv
  have hx := B.exec
  have hb := B.bytes
  have hr := B.returns
  have hts := atoms_spec (ws := ws_Big_multiplyByTens) B.pre
  have hw : ∀ w ∈ zw, w.before [.ref h_v, .int x1].toArray s = true := fun w h => hts w (List.mem_cons_of_mem _ h)
  have hown : s.vm.findClass R_Big = some m.cls := findClass_of_methodNamed B.named
  have hlocks := B.notSynchronized
  subst hsz
  have hD := hD0.self (sz := s.heap.size)
  generalize hAe : va_A [(h_v, .inr (0, [.ref h_v_limbs, .int v_size])), (h_v_limbs, .inl (cI, n_v_limbs, .inl v_limbs_a))] s.heap.size = A at hD hX ⊢
  have hA : ∀ q : Nat, s.heap.size ≤ q → A q := fun q h => by rw [← hAe]; exact Or.inr h
  have hS : va_S A s.heap s.heap [] := va_S.rf
  have hl := lv_entry [.ref h_v, .int x1] (n := 2) (Nat.le_of_ble_eq_true rfl)
  rw [lg_entry_eq]
  generalize (lg_sl [.ref h_v, .int x1] ++ List.replicate (2 - (lg_sl [.ref h_v, .int x1]).length) Slot.unset).toArray = ls at hl ⊢
  have hl : lv_has ls 2 [(0, .ref h_v), (1, .int x1)] := hl
  refine zz_endv hx hb hr hlocks (fun Qq hend => ?_)
  unfold f_Big_multiplyByTens at hf
  refine lv_aload_n hx hb d_Big_multiplyByTens_0 rfl (lv_at hl 0 rfl) ?_
  refine lv_iload_n hx hb d_Big_multiplyByTens_1 rfl (lv_at hl 1 rfl) ?_
  obtain ⟨u_1, hu_1, hf⟩ := zz_bd hf
  refine zz_cv (ws' := [(h_v, .inr (0, [.ref h_v_limbs, .int u_1.1])), (h_v_limbs, .inl (cI, n_v_limbs, .inl u_1.2))]) (wc := [(h_v, .inr (0, [.ref h_v_limbs, .int v_size])), (h_v_limbs, .inl (cI, n_v_limbs, .inl v_limbs_a))]) (w' := [(h_v, .inr (0, [.ref h_v_limbs, .int u_1.1])), (h_v_limbs, .inl (cI, n_v_limbs, .inl u_1.2))]) hP hD hS hA [0, 1] [] [0, 1] rfl rfl (by decide) (by decide) rfl (by decide) (va_runV (As := [.int x1]) (rest := []) ⟨hx, hb, hml, hown, hw⟩ (c_Big_multiplyByFives l dC dI cI cC cB cJ adF tp adK adV fu _ h_v h_v_limbs n_v_limbs x1 v_size v_limbs_a u_1 hu_1) (cwV 1 hw (zg_V wd_357 wd_358 wd_359 wd_5 wd_360) rfl rfl rfl hd_Big_multiplyByFives ⟨Nat.le_of_ble_eq_true rfl, Nat.le_of_ble_eq_true rfl⟩) (zz_preV (zx_ok adF tp adK adV) (va_recv (q0 := 0) (ci := 0) hK hP rfl rfl) hP hD hK hS hA hX [0, 1] rfl (by decide)) rfl rfl hl.1 rfl (lv_room (Nat.le_of_ble_eq_true rfl)) d_Big_multiplyByTens_2 ⟨Nat.zero_le _, Nat.zero_le _⟩) (fun H locs hP hD hS => ?_)
  refine lv_aload_n hx hb d_Big_multiplyByTens_5 rfl (lv_at hl 0 rfl) ?_
  refine lv_iload_n hx hb d_Big_multiplyByTens_6 rfl (lv_at hl 1 rfl) ?_
  obtain ⟨u_2, hu_2, hf⟩ := zz_bd hf
  refine zz_cv (ws' := [(h_v, .inr (0, [.ref h_v_limbs, .int u_2.1])), (h_v_limbs, .inl (cI, n_v_limbs, .inl u_2.2))]) (wc := [(h_v, .inr (0, [.ref h_v_limbs, .int u_1.1])), (h_v_limbs, .inl (cI, n_v_limbs, .inl u_1.2))]) (w' := [(h_v, .inr (0, [.ref h_v_limbs, .int u_2.1])), (h_v_limbs, .inl (cI, n_v_limbs, .inl u_2.2))]) hP hD hS hA [0, 1] [] [0, 1] rfl rfl (by decide) (by decide) rfl (by decide) (va_runV (As := [.int x1]) (rest := []) ⟨hx, hb, hml, hown, hw⟩ (c_Big_shiftLeft l dC dI cI cC cB cJ fu _ h_v h_v_limbs n_v_limbs x1 u_1.1 u_1.2 u_2 hu_2) (cwV 1 hw (zg_V wd_370 wd_336 wd_337 wd_5 wd_338) rfl rfl rfl hd_Big_shiftLeft ⟨Nat.le_of_ble_eq_true rfl, Nat.le_of_ble_eq_true rfl⟩) (zz_preV zz_TE (va_recv (q0 := 0) (ci := 0) hK hP rfl rfl) hP hD hK hS hA trivial [0, 1] rfl (by decide)) rfl rfl hl.1 rfl (lv_room (Nat.le_of_ble_eq_true rfl)) d_Big_multiplyByTens_7 ⟨Nat.zero_le _, Nat.zero_le _⟩) (fun H locs hP hD hS => ?_)
  cases hf
  exact hend 10 ls _ _ d_Big_multiplyByTens_10 hP hD hS
end
