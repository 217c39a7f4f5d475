section
-- ===== PART A: goes FIRST, ahead of the names: the tables' words, and 'selects' of the private methods out of them =====
/-- a private method of a class that the tables say can be made, by its rows of tables_1 -/
def lw_okq (q : MethodName × Nat) : Prop := (q.1.cls ≠ "java/lang/invoke/MethodHandle" ∧ q.1.cls ≠ "java/lang/invoke/VarHandle") ∧ Cond.instantiable q.1.cls q.2 ∈ tables_1 ∧ Cond.privateMethod q.1 ∈ tables_1 ∧ Cond.instanceMethod q.1 ∈ tables_1
theorem lw_p0 : lw_okq (⟨"TypeForms2$Types", "setPlain", "(IIII)V"⟩, 13) := ⟨⟨by decide +kernel, by decide +kernel⟩, List.mem_of_getElem? (i := 66) (by decide +kernel), List.mem_of_getElem? (i := 72) (by decide +kernel), List.mem_of_getElem? (i := 73) (by decide +kernel)⟩
theorem lw_p1 : lw_okq (⟨"TypeForms2$Declarations", "hasPlace", "(II)Z"⟩, 12) := ⟨⟨by decide +kernel, by decide +kernel⟩, List.mem_of_getElem? (i := 21) (by decide +kernel), List.mem_of_getElem? (i := 280) (by decide +kernel), List.mem_of_getElem? (i := 281) (by decide +kernel)⟩
theorem lw_p2 : lw_okq (⟨"TypeForms2$Rules", "isAsTold", "(II)Z"⟩, 4) := ⟨⟨by decide +kernel, by decide +kernel⟩, List.mem_of_getElem? (i := 146) (by decide +kernel), List.mem_of_getElem? (i := 304) (by decide +kernel), List.mem_of_getElem? (i := 305) (by decide +kernel)⟩
theorem lw_p3 : lw_okq (⟨"TypeForms2$Rules", "comesTo", "(II)Z"⟩, 4) := ⟨⟨by decide +kernel, by decide +kernel⟩, List.mem_of_getElem? (i := 146) (by decide +kernel), List.mem_of_getElem? (i := 340) (by decide +kernel), List.mem_of_getElem? (i := 341) (by decide +kernel)⟩
theorem lw_p4 : lw_okq (⟨"TypeForms2$Declarations", "findAncestors", "()V"⟩, 12) := ⟨⟨by decide +kernel, by decide +kernel⟩, List.mem_of_getElem? (i := 21) (by decide +kernel), List.mem_of_getElem? (i := 374) (by decide +kernel), List.mem_of_getElem? (i := 375) (by decide +kernel)⟩
theorem lw_p5 : lw_okq (⟨"TypeForms2$Rules", "ofMadeShape", "(IIIII)I"⟩, 4) := ⟨⟨by decide +kernel, by decide +kernel⟩, List.mem_of_getElem? (i := 146) (by decide +kernel), List.mem_of_getElem? (i := 402) (by decide +kernel), List.mem_of_getElem? (i := 403) (by decide +kernel)⟩
theorem lw_p6 : lw_okq (⟨"TypeForms2$Forms", "putIn", "(III)I"⟩, 2) := ⟨⟨by decide +kernel, by decide +kernel⟩, List.mem_of_getElem? (i := 117) (by decide +kernel), List.mem_of_getElem? (i := 430) (by decide +kernel), List.mem_of_getElem? (i := 431) (by decide +kernel)⟩
theorem lw_p7 : lw_okq (⟨"TypeForms2$Forms", "tellerOf", "(II)I"⟩, 2) := ⟨⟨by decide +kernel, by decide +kernel⟩, List.mem_of_getElem? (i := 117) (by decide +kernel), List.mem_of_getElem? (i := 453) (by decide +kernel), List.mem_of_getElem? (i := 454) (by decide +kernel)⟩
theorem lw_p8 : lw_okq (⟨"TypeForms2$Forms", "putInArgument", "(III)I"⟩, 2) := ⟨⟨by decide +kernel, by decide +kernel⟩, List.mem_of_getElem? (i := 117) (by decide +kernel), List.mem_of_getElem? (i := 462) (by decide +kernel), List.mem_of_getElem? (i := 463) (by decide +kernel)⟩
theorem lw_p9 : lw_okq (⟨"TypeForms2$Order", "ask", "(III)I"⟩, 3) := ⟨⟨by decide +kernel, by decide +kernel⟩, List.mem_of_getElem? (i := 130) (by decide +kernel), List.mem_of_getElem? (i := 470) (by decide +kernel), List.mem_of_getElem? (i := 471) (by decide +kernel)⟩
theorem lw_p10 : lw_okq (⟨"TypeForms2$Order", "askBounds", "(III)I"⟩, 3) := ⟨⟨by decide +kernel, by decide +kernel⟩, List.mem_of_getElem? (i := 130) (by decide +kernel), List.mem_of_getElem? (i := 478) (by decide +kernel), List.mem_of_getElem? (i := 479) (by decide +kernel)⟩
theorem lw_p11 : lw_okq (⟨"TypeForms2$Order", "askElements", "(III)I"⟩, 3) := ⟨⟨by decide +kernel, by decide +kernel⟩, List.mem_of_getElem? (i := 130) (by decide +kernel), List.mem_of_getElem? (i := 488) (by decide +kernel), List.mem_of_getElem? (i := 489) (by decide +kernel)⟩
theorem lw_p12 : lw_okq (⟨"TypeForms2$Order", "askClasses", "(III)I"⟩, 3) := ⟨⟨by decide +kernel, by decide +kernel⟩, List.mem_of_getElem? (i := 130) (by decide +kernel), List.mem_of_getElem? (i := 492) (by decide +kernel), List.mem_of_getElem? (i := 493) (by decide +kernel)⟩
theorem lw_p13 : lw_okq (⟨"TypeForms2$Order", "askSame", "(III)I"⟩, 3) := ⟨⟨by decide +kernel, by decide +kernel⟩, List.mem_of_getElem? (i := 130) (by decide +kernel), List.mem_of_getElem? (i := 505) (by decide +kernel), List.mem_of_getElem? (i := 506) (by decide +kernel)⟩
theorem lw_p14 : lw_okq (⟨"TypeForms2$Order", "askIn", "(III)I"⟩, 3) := ⟨⟨by decide +kernel, by decide +kernel⟩, List.mem_of_getElem? (i := 130) (by decide +kernel), List.mem_of_getElem? (i := 513) (by decide +kernel), List.mem_of_getElem? (i := 514) (by decide +kernel)⟩
theorem lw_p15 : lw_okq (⟨"TypeForms2$Types", "keep", "(II)I"⟩, 13) := ⟨⟨by decide +kernel, by decide +kernel⟩, List.mem_of_getElem? (i := 66) (by decide +kernel), List.mem_of_getElem? (i := 532) (by decide +kernel), List.mem_of_getElem? (i := 533) (by decide +kernel)⟩
def lw_privs_1 : List (MethodName × Nat) := [(⟨"TypeForms2$Types", "setPlain", "(IIII)V"⟩, 13), (⟨"TypeForms2$Declarations", "hasPlace", "(II)Z"⟩, 12), (⟨"TypeForms2$Rules", "isAsTold", "(II)Z"⟩, 4), (⟨"TypeForms2$Rules", "comesTo", "(II)Z"⟩, 4), (⟨"TypeForms2$Declarations", "findAncestors", "()V"⟩, 12), (⟨"TypeForms2$Rules", "ofMadeShape", "(IIIII)I"⟩, 4), (⟨"TypeForms2$Forms", "putIn", "(III)I"⟩, 2), (⟨"TypeForms2$Forms", "tellerOf", "(II)I"⟩, 2), (⟨"TypeForms2$Forms", "putInArgument", "(III)I"⟩, 2), (⟨"TypeForms2$Order", "ask", "(III)I"⟩, 3), (⟨"TypeForms2$Order", "askBounds", "(III)I"⟩, 3), (⟨"TypeForms2$Order", "askElements", "(III)I"⟩, 3), (⟨"TypeForms2$Order", "askClasses", "(III)I"⟩, 3), (⟨"TypeForms2$Order", "askSame", "(III)I"⟩, 3), (⟨"TypeForms2$Order", "askIn", "(III)I"⟩, 3), (⟨"TypeForms2$Types", "keep", "(II)I"⟩, 13)]
theorem lw_r1 : ∀ q ∈ lw_privs_1, lw_okq q := List.forall_mem_cons.mpr ⟨lw_p0, List.forall_mem_cons.mpr ⟨lw_p1, List.forall_mem_cons.mpr ⟨lw_p2, List.forall_mem_cons.mpr ⟨lw_p3, List.forall_mem_cons.mpr ⟨lw_p4, List.forall_mem_cons.mpr ⟨lw_p5, List.forall_mem_cons.mpr ⟨lw_p6, List.forall_mem_cons.mpr ⟨lw_p7, List.forall_mem_cons.mpr ⟨lw_p8, List.forall_mem_cons.mpr ⟨lw_p9, List.forall_mem_cons.mpr ⟨lw_p10, List.forall_mem_cons.mpr ⟨lw_p11, List.forall_mem_cons.mpr ⟨lw_p12, List.forall_mem_cons.mpr ⟨lw_p13, List.forall_mem_cons.mpr ⟨lw_p14, List.forall_mem_cons.mpr ⟨lw_p15, fun _ h => absurd h List.not_mem_nil⟩⟩⟩⟩⟩⟩⟩⟩⟩⟩⟩⟩⟩⟩⟩⟩
theorem lw_p16 : lw_okq (⟨"TypeForms2$Types", "keepArgument", "(II)I"⟩, 13) := ⟨⟨by decide +kernel, by decide +kernel⟩, List.mem_of_getElem? (i := 66) (by decide +kernel), List.mem_of_getElem? (i := 536) (by decide +kernel), List.mem_of_getElem? (i := 537) (by decide +kernel)⟩
theorem lw_p17 : lw_okq (⟨"TypeForms2$Reader", "typeText", "(I)I"⟩, 7) := ⟨⟨by decide +kernel, by decide +kernel⟩, List.mem_of_getElem? (i := 165) (by decide +kernel), List.mem_of_getElem? (i := 611) (by decide +kernel), List.mem_of_getElem? (i := 612) (by decide +kernel)⟩
theorem lw_p18 : lw_okq (⟨"TypeForms2$Reader", "baseText", "(I)I"⟩, 7) := ⟨⟨by decide +kernel, by decide +kernel⟩, List.mem_of_getElem? (i := 165) (by decide +kernel), List.mem_of_getElem? (i := 615) (by decide +kernel), List.mem_of_getElem? (i := 616) (by decide +kernel)⟩
theorem lw_p19 : lw_okq (⟨"TypeForms2$Reader", "next", "()I"⟩, 7) := ⟨⟨by decide +kernel, by decide +kernel⟩, List.mem_of_getElem? (i := 165) (by decide +kernel), List.mem_of_getElem? (i := 619) (by decide +kernel), List.mem_of_getElem? (i := 620) (by decide +kernel)⟩
theorem lw_p20 : lw_okq (⟨"TypeForms2$Reader", "variableText", "(I)I"⟩, 7) := ⟨⟨by decide +kernel, by decide +kernel⟩, List.mem_of_getElem? (i := 165) (by decide +kernel), List.mem_of_getElem? (i := 623) (by decide +kernel), List.mem_of_getElem? (i := 624) (by decide +kernel)⟩
theorem lw_p21 : lw_okq (⟨"TypeForms2$Reader", "faultAt", "(I)I"⟩, 7) := ⟨⟨by decide +kernel, by decide +kernel⟩, List.mem_of_getElem? (i := 165) (by decide +kernel), List.mem_of_getElem? (i := 628) (by decide +kernel), List.mem_of_getElem? (i := 629) (by decide +kernel)⟩
theorem lw_p22 : lw_okq (⟨"TypeForms2$Reader", "partText", "(II)I"⟩, 7) := ⟨⟨by decide +kernel, by decide +kernel⟩, List.mem_of_getElem? (i := 165) (by decide +kernel), List.mem_of_getElem? (i := 633) (by decide +kernel), List.mem_of_getElem? (i := 634) (by decide +kernel)⟩
theorem lw_p23 : lw_okq (⟨"TypeForms2$Reader", "argumentText", "(I)I"⟩, 7) := ⟨⟨by decide +kernel, by decide +kernel⟩, List.mem_of_getElem? (i := 165) (by decide +kernel), List.mem_of_getElem? (i := 637) (by decide +kernel), List.mem_of_getElem? (i := 638) (by decide +kernel)⟩
theorem lw_p24 : lw_okq (⟨"TypeForms2$Printer", "writeType", "(II)V"⟩, 5) := ⟨⟨by decide +kernel, by decide +kernel⟩, List.mem_of_getElem? (i := 193) (by decide +kernel), List.mem_of_getElem? (i := 659) (by decide +kernel), List.mem_of_getElem? (i := 660) (by decide +kernel)⟩
theorem lw_p25 : lw_okq (⟨"TypeForms2$Printer", "write", "(I)V"⟩, 5) := ⟨⟨by decide +kernel, by decide +kernel⟩, List.mem_of_getElem? (i := 193) (by decide +kernel), List.mem_of_getElem? (i := 664) (by decide +kernel), List.mem_of_getElem? (i := 665) (by decide +kernel)⟩
theorem lw_p26 : lw_okq (⟨"TypeForms2$Printer", "writeArguments", "(II)V"⟩, 5) := ⟨⟨by decide +kernel, by decide +kernel⟩, List.mem_of_getElem? (i := 193) (by decide +kernel), List.mem_of_getElem? (i := 672) (by decide +kernel), List.mem_of_getElem? (i := 673) (by decide +kernel)⟩
theorem lw_p27 : lw_okq (⟨"TypeForms2Model", "isDecl", "(I)Z"⟩, 56) := ⟨⟨by decide +kernel, by decide +kernel⟩, List.mem_of_getElem? (i := 712) (by decide +kernel), List.mem_of_getElem? (i := 891) (by decide +kernel), List.mem_of_getElem? (i := 892) (by decide +kernel)⟩
theorem lw_p28 : lw_okq (⟨"TypeForms2Model", "write", "(IIIIII)V"⟩, 56) := ⟨⟨by decide +kernel, by decide +kernel⟩, List.mem_of_getElem? (i := 712) (by decide +kernel), List.mem_of_getElem? (i := 898) (by decide +kernel), List.mem_of_getElem? (i := 899) (by decide +kernel)⟩
theorem lw_p29 : lw_okq (⟨"TypeForms2Model", "type", "(IIIII)I"⟩, 56) := ⟨⟨by decide +kernel, by decide +kernel⟩, List.mem_of_getElem? (i := 712) (by decide +kernel), List.mem_of_getElem? (i := 906) (by decide +kernel), List.mem_of_getElem? (i := 907) (by decide +kernel)⟩
theorem lw_p30 : lw_okq (⟨"TypeForms2Model", "isSame", "(IIIIII)Z"⟩, 56) := ⟨⟨by decide +kernel, by decide +kernel⟩, List.mem_of_getElem? (i := 712) (by decide +kernel), List.mem_of_getElem? (i := 910) (by decide +kernel), List.mem_of_getElem? (i := 911) (by decide +kernel)⟩
theorem lw_p31 : lw_okq (⟨"TypeForms2Model", "isNode", "(I)Z"⟩, 56) := ⟨⟨by decide +kernel, by decide +kernel⟩, List.mem_of_getElem? (i := 712) (by decide +kernel), List.mem_of_getElem? (i := 918) (by decide +kernel), List.mem_of_getElem? (i := 919) (by decide +kernel)⟩
def lw_privs_2 : List (MethodName × Nat) := [(⟨"TypeForms2$Types", "keepArgument", "(II)I"⟩, 13), (⟨"TypeForms2$Reader", "typeText", "(I)I"⟩, 7), (⟨"TypeForms2$Reader", "baseText", "(I)I"⟩, 7), (⟨"TypeForms2$Reader", "next", "()I"⟩, 7), (⟨"TypeForms2$Reader", "variableText", "(I)I"⟩, 7), (⟨"TypeForms2$Reader", "faultAt", "(I)I"⟩, 7), (⟨"TypeForms2$Reader", "partText", "(II)I"⟩, 7), (⟨"TypeForms2$Reader", "argumentText", "(I)I"⟩, 7), (⟨"TypeForms2$Printer", "writeType", "(II)V"⟩, 5), (⟨"TypeForms2$Printer", "write", "(I)V"⟩, 5), (⟨"TypeForms2$Printer", "writeArguments", "(II)V"⟩, 5), (⟨"TypeForms2Model", "isDecl", "(I)Z"⟩, 56), (⟨"TypeForms2Model", "write", "(IIIIII)V"⟩, 56), (⟨"TypeForms2Model", "type", "(IIIII)I"⟩, 56), (⟨"TypeForms2Model", "isSame", "(IIIIII)Z"⟩, 56), (⟨"TypeForms2Model", "isNode", "(I)Z"⟩, 56)]
theorem lw_r2 : ∀ q ∈ lw_privs_2, lw_okq q := List.forall_mem_cons.mpr ⟨lw_p16, List.forall_mem_cons.mpr ⟨lw_p17, List.forall_mem_cons.mpr ⟨lw_p18, List.forall_mem_cons.mpr ⟨lw_p19, List.forall_mem_cons.mpr ⟨lw_p20, List.forall_mem_cons.mpr ⟨lw_p21, List.forall_mem_cons.mpr ⟨lw_p22, List.forall_mem_cons.mpr ⟨lw_p23, List.forall_mem_cons.mpr ⟨lw_p24, List.forall_mem_cons.mpr ⟨lw_p25, List.forall_mem_cons.mpr ⟨lw_p26, List.forall_mem_cons.mpr ⟨lw_p27, List.forall_mem_cons.mpr ⟨lw_p28, List.forall_mem_cons.mpr ⟨lw_p29, List.forall_mem_cons.mpr ⟨lw_p30, List.forall_mem_cons.mpr ⟨lw_p31, fun _ h => absurd h List.not_mem_nil⟩⟩⟩⟩⟩⟩⟩⟩⟩⟩⟩⟩⟩⟩⟩⟩
theorem lw_p32 : lw_okq (⟨"TypeForms2Model", "isTellable", "(II)Z"⟩, 56) := ⟨⟨by decide +kernel, by decide +kernel⟩, List.mem_of_getElem? (i := 712) (by decide +kernel), List.mem_of_getElem? (i := 922) (by decide +kernel), List.mem_of_getElem? (i := 923) (by decide +kernel)⟩
theorem lw_p33 : lw_okq (⟨"TypeForms2Model", "hasVariable", "(I)Z"⟩, 56) := ⟨⟨by decide +kernel, by decide +kernel⟩, List.mem_of_getElem? (i := 712) (by decide +kernel), List.mem_of_getElem? (i := 926) (by decide +kernel), List.mem_of_getElem? (i := 927) (by decide +kernel)⟩
theorem lw_p34 : lw_okq (⟨"TypeForms2Model", "reach", "(I)V"⟩, 56) := ⟨⟨by decide +kernel, by decide +kernel⟩, List.mem_of_getElem? (i := 712) (by decide +kernel), List.mem_of_getElem? (i := 930) (by decide +kernel), List.mem_of_getElem? (i := 931) (by decide +kernel)⟩
theorem lw_p35 : lw_okq (⟨"TypeForms2Model", "lower", "(I)I"⟩, 56) := ⟨⟨by decide +kernel, by decide +kernel⟩, List.mem_of_getElem? (i := 712) (by decide +kernel), List.mem_of_getElem? (i := 934) (by decide +kernel), List.mem_of_getElem? (i := 935) (by decide +kernel)⟩
theorem lw_p36 : lw_okq (⟨"TypeForms2Model", "leadsTo", "(II)Z"⟩, 56) := ⟨⟨by decide +kernel, by decide +kernel⟩, List.mem_of_getElem? (i := 712) (by decide +kernel), List.mem_of_getElem? (i := 938) (by decide +kernel), List.mem_of_getElem? (i := 939) (by decide +kernel)⟩
theorem lw_p37 : lw_okq (⟨"TypeForms2Model", "isPlain", "(I)Z"⟩, 56) := ⟨⟨by decide +kernel, by decide +kernel⟩, List.mem_of_getElem? (i := 712) (by decide +kernel), List.mem_of_getElem? (i := 950) (by decide +kernel), List.mem_of_getElem? (i := 951) (by decide +kernel)⟩
theorem lw_p38 : lw_okq (⟨"TypeForms2Model", "wrong", "(III[I[II)I"⟩, 56) := ⟨⟨by decide +kernel, by decide +kernel⟩, List.mem_of_getElem? (i := 712) (by decide +kernel), List.mem_of_getElem? (i := 958) (by decide +kernel), List.mem_of_getElem? (i := 959) (by decide +kernel)⟩
theorem lw_p39 : lw_okq (⟨"TypeForms2Model", "isRaw", "(I)Z"⟩, 56) := ⟨⟨by decide +kernel, by decide +kernel⟩, List.mem_of_getElem? (i := 712) (by decide +kernel), List.mem_of_getElem? (i := 962) (by decide +kernel), List.mem_of_getElem? (i := 963) (by decide +kernel)⟩
theorem lw_p40 : lw_okq (⟨"TypeForms2Model", "putIn", "(II)I"⟩, 56) := ⟨⟨by decide +kernel, by decide +kernel⟩, List.mem_of_getElem? (i := 712) (by decide +kernel), List.mem_of_getElem? (i := 966) (by decide +kernel), List.mem_of_getElem? (i := 967) (by decide +kernel)⟩
theorem lw_p41 : lw_okq (⟨"TypeForms2Model", "erasedOf", "(I)I"⟩, 56) := ⟨⟨by decide +kernel, by decide +kernel⟩, List.mem_of_getElem? (i := 712) (by decide +kernel), List.mem_of_getElem? (i := 970) (by decide +kernel), List.mem_of_getElem? (i := 971) (by decide +kernel)⟩
theorem lw_p42 : lw_okq (⟨"TypeForms2Model", "bare", "(II)I"⟩, 56) := ⟨⟨by decide +kernel, by decide +kernel⟩, List.mem_of_getElem? (i := 712) (by decide +kernel), List.mem_of_getElem? (i := 974) (by decide +kernel), List.mem_of_getElem? (i := 975) (by decide +kernel)⟩
theorem lw_p43 : lw_okq (⟨"TypeForms2Model", "arrayOf", "(I)I"⟩, 56) := ⟨⟨by decide +kernel, by decide +kernel⟩, List.mem_of_getElem? (i := 712) (by decide +kernel), List.mem_of_getElem? (i := 978) (by decide +kernel), List.mem_of_getElem? (i := 979) (by decide +kernel)⟩
theorem lw_p44 : lw_okq (⟨"TypeForms2Model", "higher", "(I)I"⟩, 56) := ⟨⟨by decide +kernel, by decide +kernel⟩, List.mem_of_getElem? (i := 712) (by decide +kernel), List.mem_of_getElem? (i := 982) (by decide +kernel), List.mem_of_getElem? (i := 983) (by decide +kernel)⟩
theorem lw_p45 : lw_okq (⟨"TypeForms2Model", "putPart", "(II)V"⟩, 56) := ⟨⟨by decide +kernel, by decide +kernel⟩, List.mem_of_getElem? (i := 712) (by decide +kernel), List.mem_of_getElem? (i := 986) (by decide +kernel), List.mem_of_getElem? (i := 987) (by decide +kernel)⟩
theorem lw_p46 : lw_okq (⟨"TypeForms2Model", "putVariable", "(II)I"⟩, 56) := ⟨⟨by decide +kernel, by decide +kernel⟩, List.mem_of_getElem? (i := 712) (by decide +kernel), List.mem_of_getElem? (i := 990) (by decide +kernel), List.mem_of_getElem? (i := 991) (by decide +kernel)⟩
theorem lw_p47 : lw_okq (⟨"TypeForms2Model", "isTold", "(II)Z"⟩, 56) := ⟨⟨by decide +kernel, by decide +kernel⟩, List.mem_of_getElem? (i := 712) (by decide +kernel), List.mem_of_getElem? (i := 994) (by decide +kernel), List.mem_of_getElem? (i := 995) (by decide +kernel)⟩
def lw_privs_3 : List (MethodName × Nat) := [(⟨"TypeForms2Model", "isTellable", "(II)Z"⟩, 56), (⟨"TypeForms2Model", "hasVariable", "(I)Z"⟩, 56), (⟨"TypeForms2Model", "reach", "(I)V"⟩, 56), (⟨"TypeForms2Model", "lower", "(I)I"⟩, 56), (⟨"TypeForms2Model", "leadsTo", "(II)Z"⟩, 56), (⟨"TypeForms2Model", "isPlain", "(I)Z"⟩, 56), (⟨"TypeForms2Model", "wrong", "(III[I[II)I"⟩, 56), (⟨"TypeForms2Model", "isRaw", "(I)Z"⟩, 56), (⟨"TypeForms2Model", "putIn", "(II)I"⟩, 56), (⟨"TypeForms2Model", "erasedOf", "(I)I"⟩, 56), (⟨"TypeForms2Model", "bare", "(II)I"⟩, 56), (⟨"TypeForms2Model", "arrayOf", "(I)I"⟩, 56), (⟨"TypeForms2Model", "higher", "(I)I"⟩, 56), (⟨"TypeForms2Model", "putPart", "(II)V"⟩, 56), (⟨"TypeForms2Model", "putVariable", "(II)I"⟩, 56), (⟨"TypeForms2Model", "isTold", "(II)Z"⟩, 56)]
theorem lw_r3 : ∀ q ∈ lw_privs_3, lw_okq q := List.forall_mem_cons.mpr ⟨lw_p32, List.forall_mem_cons.mpr ⟨lw_p33, List.forall_mem_cons.mpr ⟨lw_p34, List.forall_mem_cons.mpr ⟨lw_p35, List.forall_mem_cons.mpr ⟨lw_p36, List.forall_mem_cons.mpr ⟨lw_p37, List.forall_mem_cons.mpr ⟨lw_p38, List.forall_mem_cons.mpr ⟨lw_p39, List.forall_mem_cons.mpr ⟨lw_p40, List.forall_mem_cons.mpr ⟨lw_p41, List.forall_mem_cons.mpr ⟨lw_p42, List.forall_mem_cons.mpr ⟨lw_p43, List.forall_mem_cons.mpr ⟨lw_p44, List.forall_mem_cons.mpr ⟨lw_p45, List.forall_mem_cons.mpr ⟨lw_p46, List.forall_mem_cons.mpr ⟨lw_p47, fun _ h => absurd h List.not_mem_nil⟩⟩⟩⟩⟩⟩⟩⟩⟩⟩⟩⟩⟩⟩⟩⟩
theorem lw_p48 : lw_okq (⟨"TypeForms2Model", "putArgument", "(IIII)V"⟩, 56) := ⟨⟨by decide +kernel, by decide +kernel⟩, List.mem_of_getElem? (i := 712) (by decide +kernel), List.mem_of_getElem? (i := 998) (by decide +kernel), List.mem_of_getElem? (i := 999) (by decide +kernel)⟩
theorem lw_p49 : lw_okq (⟨"TypeForms2Model", "belowOf", "(II)I"⟩, 56) := ⟨⟨by decide +kernel, by decide +kernel⟩, List.mem_of_getElem? (i := 712) (by decide +kernel), List.mem_of_getElem? (i := 1002) (by decide +kernel), List.mem_of_getElem? (i := 1003) (by decide +kernel)⟩
theorem lw_p50 : lw_okq (⟨"TypeForms2Model", "atOnce", "(II)I"⟩, 56) := ⟨⟨by decide +kernel, by decide +kernel⟩, List.mem_of_getElem? (i := 712) (by decide +kernel), List.mem_of_getElem? (i := 1006) (by decide +kernel), List.mem_of_getElem? (i := 1007) (by decide +kernel)⟩
theorem lw_p51 : lw_okq (⟨"TypeForms2Model", "isObject", "(I)Z"⟩, 56) := ⟨⟨by decide +kernel, by decide +kernel⟩, List.mem_of_getElem? (i := 712) (by decide +kernel), List.mem_of_getElem? (i := 1013) (by decide +kernel), List.mem_of_getElem? (i := 1014) (by decide +kernel)⟩
theorem lw_p52 : lw_okq (⟨"TypeForms2Model", "superOf", "(II)I"⟩, 56) := ⟨⟨by decide +kernel, by decide +kernel⟩, List.mem_of_getElem? (i := 712) (by decide +kernel), List.mem_of_getElem? (i := 1017) (by decide +kernel), List.mem_of_getElem? (i := 1018) (by decide +kernel)⟩
theorem lw_p53 : lw_okq (⟨"TypeForms2Model", "comesTo", "(II)Z"⟩, 56) := ⟨⟨by decide +kernel, by decide +kernel⟩, List.mem_of_getElem? (i := 712) (by decide +kernel), List.mem_of_getElem? (i := 1021) (by decide +kernel), List.mem_of_getElem? (i := 1022) (by decide +kernel)⟩
theorem lw_p54 : lw_okq (⟨"TypeForms2Model", "goOn", "(II)I"⟩, 56) := ⟨⟨by decide +kernel, by decide +kernel⟩, List.mem_of_getElem? (i := 712) (by decide +kernel), List.mem_of_getElem? (i := 1025) (by decide +kernel), List.mem_of_getElem? (i := 1026) (by decide +kernel)⟩
theorem lw_p55 : lw_okq (⟨"TypeForms2Model", "ask", "(III)V"⟩, 56) := ⟨⟨by decide +kernel, by decide +kernel⟩, List.mem_of_getElem? (i := 712) (by decide +kernel), List.mem_of_getElem? (i := 1029) (by decide +kernel), List.mem_of_getElem? (i := 1030) (by decide +kernel)⟩
theorem lw_p56 : lw_okq (⟨"TypeForms2Model", "told", "(I)I"⟩, 56) := ⟨⟨by decide +kernel, by decide +kernel⟩, List.mem_of_getElem? (i := 712) (by decide +kernel), List.mem_of_getElem? (i := 1033) (by decide +kernel), List.mem_of_getElem? (i := 1034) (by decide +kernel)⟩
theorem lw_p57 : lw_okq (⟨"TypeForms2Model", "part", "(II)I"⟩, 56) := ⟨⟨by decide +kernel, by decide +kernel⟩, List.mem_of_getElem? (i := 712) (by decide +kernel), List.mem_of_getElem? (i := 1037) (by decide +kernel), List.mem_of_getElem? (i := 1038) (by decide +kernel)⟩
theorem lw_p58 : lw_okq (⟨"TypeForms2Model", "copy", "(I)V"⟩, 56) := ⟨⟨by decide +kernel, by decide +kernel⟩, List.mem_of_getElem? (i := 712) (by decide +kernel), List.mem_of_getElem? (i := 1041) (by decide +kernel), List.mem_of_getElem? (i := 1042) (by decide +kernel)⟩
theorem lw_p59 : lw_okq (⟨"TypeForms2Model", "real", "(I)I"⟩, 56) := ⟨⟨by decide +kernel, by decide +kernel⟩, List.mem_of_getElem? (i := 712) (by decide +kernel), List.mem_of_getElem? (i := 1045) (by decide +kernel), List.mem_of_getElem? (i := 1046) (by decide +kernel)⟩
theorem lw_p60 : lw_okq (⟨"TypeForms2Model", "readType", "()I"⟩, 56) := ⟨⟨by decide +kernel, by decide +kernel⟩, List.mem_of_getElem? (i := 712) (by decide +kernel), List.mem_of_getElem? (i := 1085) (by decide +kernel), List.mem_of_getElem? (i := 1086) (by decide +kernel)⟩
theorem lw_p61 : lw_okq (⟨"TypeForms2Model", "byteAt", "(I)I"⟩, 56) := ⟨⟨by decide +kernel, by decide +kernel⟩, List.mem_of_getElem? (i := 712) (by decide +kernel), List.mem_of_getElem? (i := 1089) (by decide +kernel), List.mem_of_getElem? (i := 1090) (by decide +kernel)⟩
theorem lw_p62 : lw_okq (⟨"TypeForms2Model", "faultAt", "(I)I"⟩, 56) := ⟨⟨by decide +kernel, by decide +kernel⟩, List.mem_of_getElem? (i := 712) (by decide +kernel), List.mem_of_getElem? (i := 1093) (by decide +kernel), List.mem_of_getElem? (i := 1094) (by decide +kernel)⟩
theorem lw_p63 : lw_okq (⟨"TypeForms2Model", "readLetter", "(I)I"⟩, 56) := ⟨⟨by decide +kernel, by decide +kernel⟩, List.mem_of_getElem? (i := 712) (by decide +kernel), List.mem_of_getElem? (i := 1097) (by decide +kernel), List.mem_of_getElem? (i := 1098) (by decide +kernel)⟩
def lw_privs_4 : List (MethodName × Nat) := [(⟨"TypeForms2Model", "putArgument", "(IIII)V"⟩, 56), (⟨"TypeForms2Model", "belowOf", "(II)I"⟩, 56), (⟨"TypeForms2Model", "atOnce", "(II)I"⟩, 56), (⟨"TypeForms2Model", "isObject", "(I)Z"⟩, 56), (⟨"TypeForms2Model", "superOf", "(II)I"⟩, 56), (⟨"TypeForms2Model", "comesTo", "(II)Z"⟩, 56), (⟨"TypeForms2Model", "goOn", "(II)I"⟩, 56), (⟨"TypeForms2Model", "ask", "(III)V"⟩, 56), (⟨"TypeForms2Model", "told", "(I)I"⟩, 56), (⟨"TypeForms2Model", "part", "(II)I"⟩, 56), (⟨"TypeForms2Model", "copy", "(I)V"⟩, 56), (⟨"TypeForms2Model", "real", "(I)I"⟩, 56), (⟨"TypeForms2Model", "readType", "()I"⟩, 56), (⟨"TypeForms2Model", "byteAt", "(I)I"⟩, 56), (⟨"TypeForms2Model", "faultAt", "(I)I"⟩, 56), (⟨"TypeForms2Model", "readLetter", "(I)I"⟩, 56)]
theorem lw_r4 : ∀ q ∈ lw_privs_4, lw_okq q := List.forall_mem_cons.mpr ⟨lw_p48, List.forall_mem_cons.mpr ⟨lw_p49, List.forall_mem_cons.mpr ⟨lw_p50, List.forall_mem_cons.mpr ⟨lw_p51, List.forall_mem_cons.mpr ⟨lw_p52, List.forall_mem_cons.mpr ⟨lw_p53, List.forall_mem_cons.mpr ⟨lw_p54, List.forall_mem_cons.mpr ⟨lw_p55, List.forall_mem_cons.mpr ⟨lw_p56, List.forall_mem_cons.mpr ⟨lw_p57, List.forall_mem_cons.mpr ⟨lw_p58, List.forall_mem_cons.mpr ⟨lw_p59, List.forall_mem_cons.mpr ⟨lw_p60, List.forall_mem_cons.mpr ⟨lw_p61, List.forall_mem_cons.mpr ⟨lw_p62, List.forall_mem_cons.mpr ⟨lw_p63, fun _ h => absurd h List.not_mem_nil⟩⟩⟩⟩⟩⟩⟩⟩⟩⟩⟩⟩⟩⟩⟩⟩
theorem lw_p64 : lw_okq (⟨"TypeForms2Model", "readPart", "()I"⟩, 56) := ⟨⟨by decide +kernel, by decide +kernel⟩, List.mem_of_getElem? (i := 712) (by decide +kernel), List.mem_of_getElem? (i := 1101) (by decide +kernel), List.mem_of_getElem? (i := 1102) (by decide +kernel)⟩
theorem lw_p65 : lw_okq (⟨"TypeForms2Model", "readArgument", "()I"⟩, 56) := ⟨⟨by decide +kernel, by decide +kernel⟩, List.mem_of_getElem? (i := 712) (by decide +kernel), List.mem_of_getElem? (i := 1105) (by decide +kernel), List.mem_of_getElem? (i := 1106) (by decide +kernel)⟩
theorem lw_p66 : lw_okq (⟨"TypeForms2Model", "keep", "(II)V"⟩, 56) := ⟨⟨by decide +kernel, by decide +kernel⟩, List.mem_of_getElem? (i := 712) (by decide +kernel), List.mem_of_getElem? (i := 1109) (by decide +kernel), List.mem_of_getElem? (i := 1110) (by decide +kernel)⟩
theorem lw_p67 : lw_okq (⟨"TypeForms2Model", "readBehind", "()I"⟩, 56) := ⟨⟨by decide +kernel, by decide +kernel⟩, List.mem_of_getElem? (i := 712) (by decide +kernel), List.mem_of_getElem? (i := 1113) (by decide +kernel), List.mem_of_getElem? (i := 1114) (by decide +kernel)⟩
theorem lw_p68 : lw_okq (⟨"TypeForms2Model", "readClosed", "()I"⟩, 56) := ⟨⟨by decide +kernel, by decide +kernel⟩, List.mem_of_getElem? (i := 712) (by decide +kernel), List.mem_of_getElem? (i := 1117) (by decide +kernel), List.mem_of_getElem? (i := 1118) (by decide +kernel)⟩
theorem lw_p69 : lw_okq (⟨"TypeForms2Model", "readSuffix", "()I"⟩, 56) := ⟨⟨by decide +kernel, by decide +kernel⟩, List.mem_of_getElem? (i := 712) (by decide +kernel), List.mem_of_getElem? (i := 1121) (by decide +kernel), List.mem_of_getElem? (i := 1122) (by decide +kernel)⟩
theorem lw_p70 : lw_okq (⟨"TypeForms2Model", "push", "(I)V"⟩, 56) := ⟨⟨by decide +kernel, by decide +kernel⟩, List.mem_of_getElem? (i := 712) (by decide +kernel), List.mem_of_getElem? (i := 1129) (by decide +kernel), List.mem_of_getElem? (i := 1130) (by decide +kernel)⟩
theorem lw_p71 : lw_okq (⟨"TypeForms2Model", "pushParts", "(I)V"⟩, 56) := ⟨⟨by decide +kernel, by decide +kernel⟩, List.mem_of_getElem? (i := 712) (by decide +kernel), List.mem_of_getElem? (i := 1133) (by decide +kernel), List.mem_of_getElem? (i := 1134) (by decide +kernel)⟩
def lw_privs_5 : List (MethodName × Nat) := [(⟨"TypeForms2Model", "readPart", "()I"⟩, 56), (⟨"TypeForms2Model", "readArgument", "()I"⟩, 56), (⟨"TypeForms2Model", "keep", "(II)V"⟩, 56), (⟨"TypeForms2Model", "readBehind", "()I"⟩, 56), (⟨"TypeForms2Model", "readClosed", "()I"⟩, 56), (⟨"TypeForms2Model", "readSuffix", "()I"⟩, 56), (⟨"TypeForms2Model", "push", "(I)V"⟩, 56), (⟨"TypeForms2Model", "pushParts", "(I)V"⟩, 56)]
theorem lw_r5 : ∀ q ∈ lw_privs_5, lw_okq q := List.forall_mem_cons.mpr ⟨lw_p64, List.forall_mem_cons.mpr ⟨lw_p65, List.forall_mem_cons.mpr ⟨lw_p66, List.forall_mem_cons.mpr ⟨lw_p67, List.forall_mem_cons.mpr ⟨lw_p68, List.forall_mem_cons.mpr ⟨lw_p69, List.forall_mem_cons.mpr ⟨lw_p70, List.forall_mem_cons.mpr ⟨lw_p71, fun _ h => absurd h List.not_mem_nil⟩⟩⟩⟩⟩⟩⟩⟩
def lw_privs : List (MethodName × Nat) := lw_privs_1 ++ (lw_privs_2 ++ (lw_privs_3 ++ (lw_privs_4 ++ (lw_privs_5))))
def lw_tbl : List Cond := k2_sels lw_privs ++ tables_1
theorem lw_privs_ok : ∀ q ∈ lw_privs, lw_okq q := by
  show ∀ q ∈ lw_privs_1 ++ (lw_privs_2 ++ (lw_privs_3 ++ (lw_privs_4 ++ (lw_privs_5)))), lw_okq q
  exact List.forall_mem_append.mpr ⟨lw_r1, List.forall_mem_append.mpr ⟨lw_r2, List.forall_mem_append.mpr ⟨lw_r3, List.forall_mem_append.mpr ⟨lw_r4, lw_r5⟩⟩⟩⟩
-- ===== end of PART A; then your names; then what follows =====
def RX0 : String := "TypeForms2$Declarations"
def TX0 : u_T := fun k => match k with
  | 0 => ("TypeForms2$Declarations", "kind", "[I", true)
  | 1 => ("TypeForms2$Declarations", "parameters", "[I", true)
  | 2 => ("TypeForms2$Declarations", "outer", "[I", true)
  | 3 => ("TypeForms2$Declarations", "within", "[I", true)
  | 4 => ("TypeForms2$Declarations", "firstVariable", "[I", true)
  | 5 => ("TypeForms2$Declarations", "bounds", "[I", true)
  | 6 => ("TypeForms2$Declarations", "boundNumber", "[I", true)
  | 7 => ("TypeForms2$Declarations", "parents", "[I", true)
  | 8 => ("TypeForms2$Declarations", "parentOwner", "[I", true)
  | 9 => ("TypeForms2$Declarations", "parentNumber", "[I", true)
  | 10 => ("TypeForms2$Declarations", "ancestors", "[I", true)
  | _ => ("TypeForms2$Declarations", "number", "I", false)
def tyX0 : Nat → FieldType := fun k => match k with
  | 0 => .array .int
  | 1 => .array .int
  | 2 => .array .int
  | 3 => .array .int
  | 4 => .array .int
  | 5 => .array .int
  | 6 => .array .int
  | 7 => .array .int
  | 8 => .array .int
  | 9 => .array .int
  | 10 => .array .int
  | _ => .int
abbrev wsX00 : List Cond := u_ws RX0 TX0 12
theorem nmX0 : ∀ a, a < 12 → ∀ b, b < 12 → a ≠ b → (TX0 a).2.1 ≠ (TX0 b).2.1 := by decide +kernel
theorem tyX0_ok : ∀ k, k < 12 → parseFieldDescriptor (TX0 k).2.2.1 = some (tyX0 k) := by decide +kernel
abbrev cX0_init : ByteArray := prog_2_method_1_code
def yX0_init : MethodName := ⟨RX0, "<init>", "()V"⟩
abbrev cX0_number : ByteArray := prog_2_method_2_code
def yX0_number : MethodName := ⟨RX0, "number", "()I"⟩
abbrev cX0_has : ByteArray := prog_2_method_3_code
def yX0_has : MethodName := ⟨RX0, "has", "(I)Z"⟩
abbrev cX0_hasRoom : ByteArray := prog_2_method_4_code
def yX0_hasRoom : MethodName := ⟨RX0, "hasRoom", "()Z"⟩
abbrev cX0_add : ByteArray := prog_2_method_5_code
def yX0_add : MethodName := ⟨RX0, "add", "(IIII)I"⟩
abbrev cX0_isInterface : ByteArray := prog_2_method_6_code
def yX0_isInterface : MethodName := ⟨RX0, "isInterface", "(I)Z"⟩
abbrev cX0_parametersOf : ByteArray := prog_2_method_7_code
def yX0_parametersOf : MethodName := ⟨RX0, "parametersOf", "(I)I"⟩
abbrev cX0_outerOf : ByteArray := prog_2_method_8_code
def yX0_outerOf : MethodName := ⟨RX0, "outerOf", "(I)I"⟩
abbrev cX0_isWithin : ByteArray := prog_2_method_9_code
def yX0_isWithin : MethodName := ⟨RX0, "isWithin", "(II)Z"⟩
abbrev cX0_hasPlace : ByteArray := prog_2_method_10_code
def yX0_hasPlace : MethodName := ⟨RX0, "hasPlace", "(II)Z"⟩
abbrev cX0_variableAt : ByteArray := prog_2_method_11_code
def yX0_variableAt : MethodName := ⟨RX0, "variableAt", "(II)I"⟩
abbrev cX0_boundsOf : ByteArray := prog_2_method_12_code
def yX0_boundsOf : MethodName := ⟨RX0, "boundsOf", "(II)I"⟩
abbrev cX0_boundAt : ByteArray := prog_2_method_13_code
def yX0_boundAt : MethodName := ⟨RX0, "boundAt", "(III)I"⟩
abbrev cX0_allBoundsOf : ByteArray := prog_2_method_14_code
def yX0_allBoundsOf : MethodName := ⟨RX0, "allBoundsOf", "(I)I"⟩
abbrev cX0_addBound : ByteArray := prog_2_method_15_code
def yX0_addBound : MethodName := ⟨RX0, "addBound", "(III)I"⟩
abbrev cX0_parentsOf : ByteArray := prog_2_method_16_code
def yX0_parentsOf : MethodName := ⟨RX0, "parentsOf", "(I)I"⟩
abbrev cX0_addParent : ByteArray := prog_2_method_17_code
def yX0_addParent : MethodName := ⟨RX0, "addParent", "(III)I"⟩
abbrev cX0_findAncestors : ByteArray := prog_2_method_18_code
def yX0_findAncestors : MethodName := ⟨RX0, "findAncestors", "()V"⟩
abbrev cX0_parentToward : ByteArray := prog_2_method_19_code
def yX0_parentToward : MethodName := ⟨RX0, "parentToward", "(II)I"⟩
def RX1 : String := "TypeForms2$Forms"
def TX1 : u_T := fun k => match k with
  | 0 => ("TypeForms2$Forms", "declarations", "LTypeForms2$Declarations;", true)
  | _ => ("TypeForms2$Forms", "types", "LTypeForms2$Types;", true)
def tyX1 : Nat → FieldType := fun k => match k with
  | 0 => .object "TypeForms2$Declarations"
  | _ => .object "TypeForms2$Types"
abbrev wsX10 : List Cond := u_ws RX1 TX1 2
theorem nmX1 : ∀ a, a < 2 → ∀ b, b < 2 → a ≠ b → (TX1 a).2.1 ≠ (TX1 b).2.1 := by decide +kernel
theorem tyX1_ok : ∀ k, k < 2 → parseFieldDescriptor (TX1 k).2.2.1 = some (tyX1 k) := by decide +kernel
abbrev cX1_init : ByteArray := prog_3_method_1_code
def yX1_init : MethodName := ⟨RX1, "<init>", "(LTypeForms2$Declarations;LTypeForms2$Types;)V"⟩
abbrev cX1_erase : ByteArray := prog_3_method_2_code
def yX1_erase : MethodName := ⟨RX1, "erase", "(I)I"⟩
abbrev cX1_putIn : ByteArray := prog_3_method_3_code
def yX1_putIn : MethodName := ⟨RX1, "putIn", "(III)I"⟩
abbrev cX1_putInArgument : ByteArray := prog_3_method_4_code
def yX1_putInArgument : MethodName := ⟨RX1, "putInArgument", "(III)I"⟩
abbrev cX1_tellerOf : ByteArray := prog_3_method_5_code
def yX1_tellerOf : MethodName := ⟨RX1, "tellerOf", "(II)I"⟩
abbrev cX1_told : ByteArray := prog_3_method_6_code
def yX1_told : MethodName := ⟨RX1, "told", "(II)I"⟩
abbrev cX1_superOf : ByteArray := prog_3_method_7_code
def yX1_superOf : MethodName := ⟨RX1, "superOf", "(II)I"⟩
abbrev cX1_isWhole : ByteArray := prog_3_method_8_code
def yX1_isWhole : MethodName := ⟨RX1, "isWhole", "(I)Z"⟩
def RX2 : String := "TypeForms2$Order"
def TX2 : u_T := fun k => match k with
  | 0 => ("TypeForms2$Order", "declarations", "LTypeForms2$Declarations;", true)
  | 1 => ("TypeForms2$Order", "types", "LTypeForms2$Types;", true)
  | _ => ("TypeForms2$Order", "forms", "LTypeForms2$Forms;", true)
def tyX2 : Nat → FieldType := fun k => match k with
  | 0 => .object "TypeForms2$Declarations"
  | 1 => .object "TypeForms2$Types"
  | _ => .object "TypeForms2$Forms"
abbrev wsX20 : List Cond := u_ws RX2 TX2 3
theorem nmX2 : ∀ a, a < 3 → ∀ b, b < 3 → a ≠ b → (TX2 a).2.1 ≠ (TX2 b).2.1 := by decide +kernel
theorem tyX2_ok : ∀ k, k < 3 → parseFieldDescriptor (TX2 k).2.2.1 = some (tyX2 k) := by decide +kernel
abbrev cX2_init : ByteArray := prog_4_method_1_code
def yX2_init : MethodName := ⟨RX2, "<init>", "(LTypeForms2$Declarations;LTypeForms2$Types;LTypeForms2$Forms;)V"⟩
abbrev cX2_ask : ByteArray := prog_4_method_2_code
def yX2_ask : MethodName := ⟨RX2, "ask", "(III)I"⟩
abbrev cX2_isNarrower : ByteArray := prog_4_method_3_code
def yX2_isNarrower : MethodName := ⟨RX2, "isNarrower", "(II)Z"⟩
abbrev cX2_askBounds : ByteArray := prog_4_method_4_code
def yX2_askBounds : MethodName := ⟨RX2, "askBounds", "(III)I"⟩
abbrev cX2_askElements : ByteArray := prog_4_method_5_code
def yX2_askElements : MethodName := ⟨RX2, "askElements", "(III)I"⟩
abbrev cX2_askClasses : ByteArray := prog_4_method_6_code
def yX2_askClasses : MethodName := ⟨RX2, "askClasses", "(III)I"⟩
abbrev cX2_askSame : ByteArray := prog_4_method_7_code
def yX2_askSame : MethodName := ⟨RX2, "askSame", "(III)I"⟩
abbrev cX2_askIn : ByteArray := prog_4_method_8_code
def yX2_askIn : MethodName := ⟨RX2, "askIn", "(III)I"⟩
def RX3 : String := "TypeForms2$Printer"
def TX3 : u_T := fun k => match k with
  | 0 => ("TypeForms2$Printer", "types", "LTypeForms2$Types;", true)
  | 1 => ("TypeForms2$Printer", "text", "[I", true)
  | 2 => ("TypeForms2$Printer", "line", "[I", true)
  | 3 => ("TypeForms2$Printer", "length", "I", false)
  | _ => ("TypeForms2$Printer", "written", "I", false)
def tyX3 : Nat → FieldType := fun k => match k with
  | 0 => .object "TypeForms2$Types"
  | 1 => .array .int
  | 2 => .array .int
  | 3 => .int
  | _ => .int
abbrev wsX30 : List Cond := u_ws RX3 TX3 5
theorem nmX3 : ∀ a, a < 5 → ∀ b, b < 5 → a ≠ b → (TX3 a).2.1 ≠ (TX3 b).2.1 := by decide +kernel
theorem tyX3_ok : ∀ k, k < 5 → parseFieldDescriptor (TX3 k).2.2.1 = some (tyX3 k) := by decide +kernel
abbrev cX3_init : ByteArray := prog_5_method_1_code
def yX3_init : MethodName := ⟨RX3, "<init>", "(LTypeForms2$Types;)V"⟩
abbrev cX3_length : ByteArray := prog_5_method_2_code
def yX3_length : MethodName := ⟨RX3, "length", "()I"⟩
abbrev cX3_byteAt : ByteArray := prog_5_method_3_code
def yX3_byteAt : MethodName := ⟨RX3, "byteAt", "(I)I"⟩
abbrev cX3_put : ByteArray := prog_5_method_4_code
def yX3_put : MethodName := ⟨RX3, "put", "(I)I"⟩
abbrev cX3_write : ByteArray := prog_5_method_5_code
def yX3_write : MethodName := ⟨RX3, "write", "(I)V"⟩
abbrev cX3_writeType : ByteArray := prog_5_method_6_code
def yX3_writeType : MethodName := ⟨RX3, "writeType", "(II)V"⟩
abbrev cX3_writeArguments : ByteArray := prog_5_method_7_code
def yX3_writeArguments : MethodName := ⟨RX3, "writeArguments", "(II)V"⟩
def RX4 : String := "TypeForms2$Reader"
def TX4 : u_T := fun k => match k with
  | 0 => ("TypeForms2$Reader", "declarations", "LTypeForms2$Declarations;", true)
  | 1 => ("TypeForms2$Reader", "types", "LTypeForms2$Types;", true)
  | 2 => ("TypeForms2$Reader", "rules", "LTypeForms2$Rules;", true)
  | 3 => ("TypeForms2$Reader", "tape", "[I", true)
  | 4 => ("TypeForms2$Reader", "length", "I", false)
  | 5 => ("TypeForms2$Reader", "at", "I", false)
  | _ => ("TypeForms2$Reader", "fault", "I", false)
def tyX4 : Nat → FieldType := fun k => match k with
  | 0 => .object "TypeForms2$Declarations"
  | 1 => .object "TypeForms2$Types"
  | 2 => .object "TypeForms2$Rules"
  | 3 => .array .int
  | 4 => .int
  | 5 => .int
  | _ => .int
abbrev wsX40 : List Cond := u_ws RX4 TX4 7
theorem nmX4 : ∀ a, a < 7 → ∀ b, b < 7 → a ≠ b → (TX4 a).2.1 ≠ (TX4 b).2.1 := by decide +kernel
theorem tyX4_ok : ∀ k, k < 7 → parseFieldDescriptor (TX4 k).2.2.1 = some (tyX4 k) := by decide +kernel
abbrev cX4_init : ByteArray := prog_6_method_1_code
def yX4_init : MethodName := ⟨RX4, "<init>", "(LTypeForms2$Declarations;LTypeForms2$Types;LTypeForms2$Rules;)V"⟩
abbrev cX4_length : ByteArray := prog_6_method_2_code
def yX4_length : MethodName := ⟨RX4, "length", "()I"⟩
abbrev cX4_take : ByteArray := prog_6_method_3_code
def yX4_take : MethodName := ⟨RX4, "take", "(IJ)I"⟩
abbrev cX4_start : ByteArray := prog_6_method_4_code
def yX4_start : MethodName := ⟨RX4, "start", "()V"⟩
abbrev cX4_finish : ByteArray := prog_6_method_5_code
def yX4_finish : MethodName := ⟨RX4, "finish", "()I"⟩
abbrev cX4_next : ByteArray := prog_6_method_6_code
def yX4_next : MethodName := ⟨RX4, "next", "()I"⟩
abbrev cX4_faultAt : ByteArray := prog_6_method_7_code
def yX4_faultAt : MethodName := ⟨RX4, "faultAt", "(I)I"⟩
abbrev cX4_typeText : ByteArray := prog_6_method_8_code
def yX4_typeText : MethodName := ⟨RX4, "typeText", "(I)I"⟩
abbrev cX4_baseText : ByteArray := prog_6_method_9_code
def yX4_baseText : MethodName := ⟨RX4, "baseText", "(I)I"⟩
abbrev cX4_variableText : ByteArray := prog_6_method_10_code
def yX4_variableText : MethodName := ⟨RX4, "variableText", "(I)I"⟩
abbrev cX4_partText : ByteArray := prog_6_method_11_code
def yX4_partText : MethodName := ⟨RX4, "partText", "(II)I"⟩
abbrev cX4_argumentText : ByteArray := prog_6_method_12_code
def yX4_argumentText : MethodName := ⟨RX4, "argumentText", "(I)I"⟩
def RX5 : String := "TypeForms2$Rules"
def TX5 : u_T := fun k => match k with
  | 0 => ("TypeForms2$Rules", "declarations", "LTypeForms2$Declarations;", true)
  | 1 => ("TypeForms2$Rules", "types", "LTypeForms2$Types;", true)
  | 2 => ("TypeForms2$Rules", "forms", "LTypeForms2$Forms;", true)
  | _ => ("TypeForms2$Rules", "order", "LTypeForms2$Order;", true)
def tyX5 : Nat → FieldType := fun k => match k with
  | 0 => .object "TypeForms2$Declarations"
  | 1 => .object "TypeForms2$Types"
  | 2 => .object "TypeForms2$Forms"
  | _ => .object "TypeForms2$Order"
abbrev wsX50 : List Cond := u_ws RX5 TX5 4
theorem nmX5 : ∀ a, a < 4 → ∀ b, b < 4 → a ≠ b → (TX5 a).2.1 ≠ (TX5 b).2.1 := by decide +kernel
theorem tyX5_ok : ∀ k, k < 4 → parseFieldDescriptor (TX5 k).2.2.1 = some (tyX5 k) := by decide +kernel
abbrev cX5_init : ByteArray := prog_7_method_1_code
def yX5_init : MethodName := ⟨RX5, "<init>", "(LTypeForms2$Declarations;LTypeForms2$Types;LTypeForms2$Forms;LTypeForms2$Order;)V"⟩
abbrev cX5_ofBound : ByteArray := prog_7_method_2_code
def yX5_ofBound : MethodName := ⟨RX5, "ofBound", "(III)I"⟩
abbrev cX5_ofParent : ByteArray := prog_7_method_3_code
def yX5_ofParent : MethodName := ⟨RX5, "ofParent", "(II)I"⟩
abbrev cX5_isAsTold : ByteArray := prog_7_method_4_code
def yX5_isAsTold : MethodName := ⟨RX5, "isAsTold", "(II)Z"⟩
abbrev cX5_comesTo : ByteArray := prog_7_method_5_code
def yX5_comesTo : MethodName := ⟨RX5, "comesTo", "(II)Z"⟩
abbrev cX5_ofMade : ByteArray := prog_7_method_6_code
def yX5_ofMade : MethodName := ⟨RX5, "ofMade", "(IIIII)I"⟩
abbrev cX5_ofMadeShape : ByteArray := prog_7_method_7_code
def yX5_ofMadeShape : MethodName := ⟨RX5, "ofMadeShape", "(IIIII)I"⟩
def RX6 : String := "TypeForms2$Types"
def TX6 : u_T := fun k => match k with
  | 0 => ("TypeForms2$Types", "declarations", "LTypeForms2$Declarations;", true)
  | 1 => ("TypeForms2$Types", "form", "[I", true)
  | 2 => ("TypeForms2$Types", "owner", "[I", true)
  | 3 => ("TypeForms2$Types", "place", "[I", true)
  | 4 => ("TypeForms2$Types", "inner", "[I", true)
  | 5 => ("TypeForms2$Types", "arguments", "[I", true)
  | 6 => ("TypeForms2$Types", "size", "[I", true)
  | 7 => ("TypeForms2$Types", "raw", "[Z", true)
  | 8 => ("TypeForms2$Types", "open", "[Z", true)
  | 9 => ("TypeForms2$Types", "nodes", "I", false)
  | 10 => ("TypeForms2$Types", "top", "I", false)
  | 11 => ("TypeForms2$Types", "keeping", "Z", false)
  | _ => ("TypeForms2$Types", "full", "Z", false)
def tyX6 : Nat → FieldType := fun k => match k with
  | 0 => .object "TypeForms2$Declarations"
  | 1 => .array .int
  | 2 => .array .int
  | 3 => .array .int
  | 4 => .array .int
  | 5 => .array .int
  | 6 => .array .int
  | 7 => .array .boolean
  | 8 => .array .boolean
  | 9 => .int
  | 10 => .int
  | 11 => .boolean
  | _ => .boolean
abbrev wsX60 : List Cond := u_ws RX6 TX6 13
theorem nmX6 : ∀ a, a < 13 → ∀ b, b < 13 → a ≠ b → (TX6 a).2.1 ≠ (TX6 b).2.1 := by decide +kernel
theorem tyX6_ok : ∀ k, k < 13 → parseFieldDescriptor (TX6 k).2.2.1 = some (tyX6 k) := by decide +kernel
abbrev cX6_init : ByteArray := prog_8_method_1_code
def yX6_init : MethodName := ⟨RX6, "<init>", "(LTypeForms2$Declarations;)V"⟩
abbrev cX6_setPlain : ByteArray := prog_8_method_2_code
def yX6_setPlain : MethodName := ⟨RX6, "setPlain", "(IIII)V"⟩
abbrev cX6_number : ByteArray := prog_8_method_3_code
def yX6_number : MethodName := ⟨RX6, "number", "()I"⟩
abbrev cX6_isNode : ByteArray := prog_8_method_4_code
def yX6_isNode : MethodName := ⟨RX6, "isNode", "(I)Z"⟩
abbrev cX6_hasRoomFor : ByteArray := prog_8_method_5_code
def yX6_hasRoomFor : MethodName := ⟨RX6, "hasRoomFor", "(I)Z"⟩
abbrev cX6_addVariables : ByteArray := prog_8_method_6_code
def yX6_addVariables : MethodName := ⟨RX6, "addVariables", "(II)I"⟩
abbrev cX6_formOf : ByteArray := prog_8_method_7_code
def yX6_formOf : MethodName := ⟨RX6, "formOf", "(I)I"⟩
abbrev cX6_ownerOf : ByteArray := prog_8_method_8_code
def yX6_ownerOf : MethodName := ⟨RX6, "ownerOf", "(I)I"⟩
abbrev cX6_placeOf : ByteArray := prog_8_method_9_code
def yX6_placeOf : MethodName := ⟨RX6, "placeOf", "(I)I"⟩
abbrev cX6_elementOf : ByteArray := prog_8_method_10_code
def yX6_elementOf : MethodName := ⟨RX6, "elementOf", "(I)I"⟩
abbrev cX6_outerOf : ByteArray := prog_8_method_11_code
def yX6_outerOf : MethodName := ⟨RX6, "outerOf", "(I)I"⟩
abbrev cX6_argumentAt : ByteArray := prog_8_method_12_code
def yX6_argumentAt : MethodName := ⟨RX6, "argumentAt", "(II)I"⟩
abbrev cX6_argumentsOf : ByteArray := prog_8_method_13_code
def yX6_argumentsOf : MethodName := ⟨RX6, "argumentsOf", "(I)I"⟩
abbrev cX6_isRaw : ByteArray := prog_8_method_14_code
def yX6_isRaw : MethodName := ⟨RX6, "isRaw", "(I)Z"⟩
abbrev cX6_isOpen : ByteArray := prog_8_method_15_code
def yX6_isOpen : MethodName := ⟨RX6, "isOpen", "(I)Z"⟩
abbrev cX6_canBeArgument : ByteArray := prog_8_method_16_code
def yX6_canBeArgument : MethodName := ⟨RX6, "canBeArgument", "(I)Z"⟩
abbrev cX6_canBeElement : ByteArray := prog_8_method_17_code
def yX6_canBeElement : MethodName := ⟨RX6, "canBeElement", "(I)Z"⟩
abbrev cX6_mark : ByteArray := prog_8_method_18_code
def yX6_mark : MethodName := ⟨RX6, "mark", "()I"⟩
abbrev cX6_release : ByteArray := prog_8_method_19_code
def yX6_release : MethodName := ⟨RX6, "release", "(I)V"⟩
abbrev cX6_forget : ByteArray := prog_8_method_20_code
def yX6_forget : MethodName := ⟨RX6, "forget", "()V"⟩
abbrev cX6_shaped : ByteArray := prog_8_method_21_code
def yX6_shaped : MethodName := ⟨RX6, "shaped", "(IIIIII)I"⟩
abbrev cX6_answer : ByteArray := prog_8_method_22_code
def yX6_answer : MethodName := ⟨RX6, "answer", "(I)I"⟩
abbrev cX6_keep : ByteArray := prog_8_method_23_code
def yX6_keep : MethodName := ⟨RX6, "keep", "(II)I"⟩
abbrev cX6_keepArgument : ByteArray := prog_8_method_24_code
def yX6_keepArgument : MethodName := ⟨RX6, "keepArgument", "(II)I"⟩
def RX7 : String := "TypeForms2"
def TX7 : u_T := fun k => match k with
  | 0 => ("TypeForms2", "declarations", "LTypeForms2$Declarations;", true)
  | 1 => ("TypeForms2", "types", "LTypeForms2$Types;", true)
  | 2 => ("TypeForms2", "forms", "LTypeForms2$Forms;", true)
  | 3 => ("TypeForms2", "order", "LTypeForms2$Order;", true)
  | 4 => ("TypeForms2", "rules", "LTypeForms2$Rules;", true)
  | 5 => ("TypeForms2", "reader", "LTypeForms2$Reader;", true)
  | 6 => ("TypeForms2", "printer", "LTypeForms2$Printer;", true)
  | 7 => ("TypeForms2", "draft", "[I", true)
  | _ => ("TypeForms2", "drafted", "I", false)
def tyX7 : Nat → FieldType := fun k => match k with
  | 0 => .object "TypeForms2$Declarations"
  | 1 => .object "TypeForms2$Types"
  | 2 => .object "TypeForms2$Forms"
  | 3 => .object "TypeForms2$Order"
  | 4 => .object "TypeForms2$Rules"
  | 5 => .object "TypeForms2$Reader"
  | 6 => .object "TypeForms2$Printer"
  | 7 => .array .int
  | _ => .int
abbrev wsX70 : List Cond := u_ws RX7 TX7 9
theorem nmX7 : ∀ a, a < 9 → ∀ b, b < 9 → a ≠ b → (TX7 a).2.1 ≠ (TX7 b).2.1 := by decide +kernel
theorem tyX7_ok : ∀ k, k < 9 → parseFieldDescriptor (TX7 k).2.2.1 = some (tyX7 k) := by decide +kernel
abbrev cX7_init : ByteArray := prog_1_method_1_code
def yX7_init : MethodName := ⟨RX7, "<init>", "()V"⟩
abbrev cX7_declare : ByteArray := prog_1_method_2_code
def yX7_declare : MethodName := ⟨RX7, "declare", "(III)I"⟩
abbrev cX7_variable : ByteArray := prog_1_method_3_code
def yX7_variable : MethodName := ⟨RX7, "variable", "(II)I"⟩
abbrev cX7_bound : ByteArray := prog_1_method_4_code
def yX7_bound : MethodName := ⟨RX7, "bound", "(III)I"⟩
abbrev cX7_parent : ByteArray := prog_1_method_5_code
def yX7_parent : MethodName := ⟨RX7, "parent", "(II)I"⟩
abbrev cX7_argument : ByteArray := prog_1_method_6_code
def yX7_argument : MethodName := ⟨RX7, "argument", "(II)I"⟩
abbrev cX7_make : ByteArray := prog_1_method_7_code
def yX7_make : MethodName := ⟨RX7, "make", "(II)I"⟩
abbrev cX7_array : ByteArray := prog_1_method_8_code
def yX7_array : MethodName := ⟨RX7, "array", "(I)I"⟩
abbrev cX7_about : ByteArray := prog_1_method_9_code
def yX7_about : MethodName := ⟨RX7, "about", "(II)I"⟩
abbrev cX7_below : ByteArray := prog_1_method_10_code
def yX7_below : MethodName := ⟨RX7, "below", "(II)I"⟩
abbrev cX7_erased : ByteArray := prog_1_method_11_code
def yX7_erased : MethodName := ⟨RX7, "erased", "(I)I"⟩
abbrev cX7_whole : ByteArray := prog_1_method_12_code
def yX7_whole : MethodName := ⟨RX7, "whole", "(I)I"⟩
abbrev cX7_above : ByteArray := prog_1_method_13_code
def yX7_above : MethodName := ⟨RX7, "above", "(II)I"⟩
abbrev cX7_member : ByteArray := prog_1_method_14_code
def yX7_member : MethodName := ⟨RX7, "member", "(II)I"⟩
abbrev cX7_feed : ByteArray := prog_1_method_15_code
def yX7_feed : MethodName := ⟨RX7, "feed", "(IJ)I"⟩
abbrev cX7_read : ByteArray := prog_1_method_16_code
def yX7_read : MethodName := ⟨RX7, "read", "()I"⟩
abbrev cX7_print : ByteArray := prog_1_method_17_code
def yX7_print : MethodName := ⟨RX7, "print", "(I)I"⟩
abbrev cX7_out : ByteArray := prog_1_method_18_code
def yX7_out : MethodName := ⟨RX7, "out", "(I)I"⟩
abbrev cX7_count : ByteArray := prog_1_method_19_code
def yX7_count : MethodName := ⟨RX7, "count", "(I)I"⟩
abbrev cX7_argumentOf : ByteArray := prog_1_method_20_code
def yX7_argumentOf : MethodName := ⟨RX7, "argumentOf", "(II)I"⟩
abbrev cX7_wildOf : ByteArray := prog_1_method_21_code
def yX7_wildOf : MethodName := ⟨RX7, "wildOf", "(I)I"⟩
abbrev cX7_typeOf : ByteArray := prog_1_method_22_code
def yX7_typeOf : MethodName := ⟨RX7, "typeOf", "(I)I"⟩
def RX8 : String := "TypeForms2Model"
def TX8 : u_T := fun k => match k with
  | 0 => ("TypeForms2Model", "many", "I", false)
  | 1 => ("TypeForms2Model", "top", "I", false)
  | 2 => ("TypeForms2Model", "form", "[I", true)
  | 3 => ("TypeForms2Model", "decl", "[I", true)
  | 4 => ("TypeForms2Model", "place", "[I", true)
  | 5 => ("TypeForms2Model", "elem", "[I", true)
  | 6 => ("TypeForms2Model", "outer", "[I", true)
  | 7 => ("TypeForms2Model", "argMany", "[I", true)
  | 8 => ("TypeForms2Model", "size", "[I", true)
  | 9 => ("TypeForms2Model", "wild", "[I", true)
  | 10 => ("TypeForms2Model", "arg", "[I", true)
  | 11 => ("TypeForms2Model", "mark", "[Z", true)
  | 12 => ("TypeForms2Model", "map", "[I", true)
  | 13 => ("TypeForms2Model", "decls", "I", false)
  | 14 => ("TypeForms2Model", "dKind", "[I", true)
  | 15 => ("TypeForms2Model", "dParams", "[I", true)
  | 16 => ("TypeForms2Model", "dOuter", "[I", true)
  | 17 => ("TypeForms2Model", "parentMany", "[I", true)
  | 18 => ("TypeForms2Model", "parents", "[I", true)
  | 19 => ("TypeForms2Model", "boundMany", "[I", true)
  | 20 => ("TypeForms2Model", "bounds", "[I", true)
  | 21 => ("TypeForms2Model", "drafted", "I", false)
  | 22 => ("TypeForms2Model", "draftWild", "[I", true)
  | 23 => ("TypeForms2Model", "draftArg", "[I", true)
  | 24 => ("TypeForms2Model", "newMany", "I", false)
  | 25 => ("TypeForms2Model", "newWild", "[I", true)
  | 26 => ("TypeForms2Model", "newArg", "[I", true)
  | 27 => ("TypeForms2Model", "taped", "I", false)
  | 28 => ("TypeForms2Model", "tape", "[I", true)
  | 29 => ("TypeForms2Model", "outMany", "I", false)
  | 30 => ("TypeForms2Model", "out", "[I", true)
  | 31 => ("TypeForms2Model", "chain", "[I", true)
  | 32 => ("TypeForms2Model", "toldWild", "I", false)
  | 33 => ("TypeForms2Model", "toldArg", "I", false)
  | 34 => ("TypeForms2Model", "askA", "[I", true)
  | 35 => ("TypeForms2Model", "askB", "[I", true)
  | 36 => ("TypeForms2Model", "askStep", "[I", true)
  | 37 => ("TypeForms2Model", "askWorst", "[I", true)
  | 38 => ("TypeForms2Model", "stack", "[I", true)
  | 39 => ("TypeForms2Model", "stage", "[I", true)
  | 40 => ("TypeForms2Model", "madeType", "I", false)
  | 41 => ("TypeForms2Model", "partDecl", "[I", true)
  | 42 => ("TypeForms2Model", "partAt", "[I", true)
  | 43 => ("TypeForms2Model", "partOuter", "[I", true)
  | 44 => ("TypeForms2Model", "partMany", "[I", true)
  | 45 => ("TypeForms2Model", "partWild", "[I", true)
  | 46 => ("TypeForms2Model", "partArg", "[I", true)
  | 47 => ("TypeForms2Model", "argWild", "[I", true)
  | 48 => ("TypeForms2Model", "argAt", "[I", true)
  | 49 => ("TypeForms2Model", "at", "I", false)
  | 50 => ("TypeForms2Model", "deep", "I", false)
  | 51 => ("TypeForms2Model", "node", "I", false)
  | 52 => ("TypeForms2Model", "fault", "I", false)
  | 53 => ("TypeForms2Model", "printed", "[I", true)
  | 54 => ("TypeForms2Model", "printMany", "I", false)
  | _ => ("TypeForms2Model", "stacked", "I", false)
def tyX8 : Nat → FieldType := fun k => match k with
  | 0 => .int
  | 1 => .int
  | 2 => .array .int
  | 3 => .array .int
  | 4 => .array .int
  | 5 => .array .int
  | 6 => .array .int
  | 7 => .array .int
  | 8 => .array .int
  | 9 => .array .int
  | 10 => .array .int
  | 11 => .array .boolean
  | 12 => .array .int
  | 13 => .int
  | 14 => .array .int
  | 15 => .array .int
  | 16 => .array .int
  | 17 => .array .int
  | 18 => .array .int
  | 19 => .array .int
  | 20 => .array .int
  | 21 => .int
  | 22 => .array .int
  | 23 => .array .int
  | 24 => .int
  | 25 => .array .int
  | 26 => .array .int
  | 27 => .int
  | 28 => .array .int
  | 29 => .int
  | 30 => .array .int
  | 31 => .array .int
  | 32 => .int
  | 33 => .int
  | 34 => .array .int
  | 35 => .array .int
  | 36 => .array .int
  | 37 => .array .int
  | 38 => .array .int
  | 39 => .array .int
  | 40 => .int
  | 41 => .array .int
  | 42 => .array .int
  | 43 => .array .int
  | 44 => .array .int
  | 45 => .array .int
  | 46 => .array .int
  | 47 => .array .int
  | 48 => .array .int
  | 49 => .int
  | 50 => .int
  | 51 => .int
  | 52 => .int
  | 53 => .array .int
  | 54 => .int
  | _ => .int
abbrev wsX80 : List Cond := u_ws RX8 TX8 56
theorem nmX8 : ∀ a, a < 56 → ∀ b, b < 56 → a ≠ b → (TX8 a).2.1 ≠ (TX8 b).2.1 := by decide +kernel
theorem tyX8_ok : ∀ k, k < 56 → parseFieldDescriptor (TX8 k).2.2.1 = some (tyX8 k) := by decide +kernel
abbrev cX8_init : ByteArray := prog_10_method_1_code
def yX8_init : MethodName := ⟨RX8, "<init>", "()V"⟩
abbrev cX8_in : ByteArray := prog_10_method_3_code
def yX8_in : MethodName := ⟨RX8, "in", "(III)Z"⟩
abbrev cX8_isNode : ByteArray := prog_10_method_4_code
def yX8_isNode : MethodName := ⟨RX8, "isNode", "(I)Z"⟩
abbrev cX8_isDecl : ByteArray := prog_10_method_5_code
def yX8_isDecl : MethodName := ⟨RX8, "isDecl", "(I)Z"⟩
abbrev cX8_isSame : ByteArray := prog_10_method_6_code
def yX8_isSame : MethodName := ⟨RX8, "isSame", "(IIIIII)Z"⟩
abbrev cX8_write : ByteArray := prog_10_method_7_code
def yX8_write : MethodName := ⟨RX8, "write", "(IIIIII)V"⟩
abbrev cX8_type : ByteArray := prog_10_method_8_code
def yX8_type : MethodName := ⟨RX8, "type", "(IIIII)I"⟩
abbrev cX8_arrayOf : ByteArray := prog_10_method_9_code
def yX8_arrayOf : MethodName := ⟨RX8, "arrayOf", "(I)I"⟩
abbrev cX8_bare : ByteArray := prog_10_method_10_code
def yX8_bare : MethodName := ⟨RX8, "bare", "(II)I"⟩
abbrev cX8_lower : ByteArray := prog_10_method_11_code
def yX8_lower : MethodName := ⟨RX8, "lower", "(I)I"⟩
abbrev cX8_higher : ByteArray := prog_10_method_12_code
def yX8_higher : MethodName := ⟨RX8, "higher", "(I)I"⟩
abbrev cX8_reach : ByteArray := prog_10_method_13_code
def yX8_reach : MethodName := ⟨RX8, "reach", "(I)V"⟩
abbrev cX8_hasVariable : ByteArray := prog_10_method_14_code
def yX8_hasVariable : MethodName := ⟨RX8, "hasVariable", "(I)Z"⟩
abbrev cX8_isRaw : ByteArray := prog_10_method_15_code
def yX8_isRaw : MethodName := ⟨RX8, "isRaw", "(I)Z"⟩
abbrev cX8_erasedOf : ByteArray := prog_10_method_16_code
def yX8_erasedOf : MethodName := ⟨RX8, "erasedOf", "(I)I"⟩
abbrev cX8_isTold : ByteArray := prog_10_method_17_code
def yX8_isTold : MethodName := ⟨RX8, "isTold", "(II)Z"⟩
abbrev cX8_putVariable : ByteArray := prog_10_method_18_code
def yX8_putVariable : MethodName := ⟨RX8, "putVariable", "(II)I"⟩
abbrev cX8_putArgument : ByteArray := prog_10_method_19_code
def yX8_putArgument : MethodName := ⟨RX8, "putArgument", "(IIII)V"⟩
abbrev cX8_putIn : ByteArray := prog_10_method_20_code
def yX8_putIn : MethodName := ⟨RX8, "putIn", "(II)I"⟩
abbrev cX8_putPart : ByteArray := prog_10_method_21_code
def yX8_putPart : MethodName := ⟨RX8, "putPart", "(II)V"⟩
abbrev cX8_comesTo : ByteArray := prog_10_method_22_code
def yX8_comesTo : MethodName := ⟨RX8, "comesTo", "(II)Z"⟩
abbrev cX8_superOf : ByteArray := prog_10_method_23_code
def yX8_superOf : MethodName := ⟨RX8, "superOf", "(II)I"⟩
abbrev cX8_isPlain : ByteArray := prog_10_method_24_code
def yX8_isPlain : MethodName := ⟨RX8, "isPlain", "(I)Z"⟩
abbrev cX8_isWider : ByteArray := prog_10_method_25_code
def yX8_isWider : MethodName := ⟨RX8, "isWider", "(II)Z"⟩
abbrev cX8_atOnce : ByteArray := prog_10_method_26_code
def yX8_atOnce : MethodName := ⟨RX8, "atOnce", "(II)I"⟩
abbrev cX8_isObject : ByteArray := prog_10_method_27_code
def yX8_isObject : MethodName := ⟨RX8, "isObject", "(I)Z"⟩
abbrev cX8_belowOf : ByteArray := prog_10_method_28_code
def yX8_belowOf : MethodName := ⟨RX8, "belowOf", "(II)I"⟩
abbrev cX8_goOn : ByteArray := prog_10_method_29_code
def yX8_goOn : MethodName := ⟨RX8, "goOn", "(II)I"⟩
abbrev cX8_ask : ByteArray := prog_10_method_30_code
def yX8_ask : MethodName := ⟨RX8, "ask", "(III)V"⟩
abbrev cX8_part : ByteArray := prog_10_method_31_code
def yX8_part : MethodName := ⟨RX8, "part", "(II)I"⟩
abbrev cX8_told : ByteArray := prog_10_method_32_code
def yX8_told : MethodName := ⟨RX8, "told", "(I)I"⟩
abbrev cX8_real : ByteArray := prog_10_method_33_code
def yX8_real : MethodName := ⟨RX8, "real", "(I)I"⟩
abbrev cX8_copy : ByteArray := prog_10_method_34_code
def yX8_copy : MethodName := ⟨RX8, "copy", "(I)V"⟩
abbrev cX8_declare : ByteArray := prog_10_method_35_code
def yX8_declare : MethodName := ⟨RX8, "declare", "(III)I"⟩
abbrev cX8_variable : ByteArray := prog_10_method_36_code
def yX8_variable : MethodName := ⟨RX8, "variable", "(II)I"⟩
abbrev cX8_isTellable : ByteArray := prog_10_method_37_code
def yX8_isTellable : MethodName := ⟨RX8, "isTellable", "(II)Z"⟩
abbrev cX8_bound : ByteArray := prog_10_method_38_code
def yX8_bound : MethodName := ⟨RX8, "bound", "(III)I"⟩
abbrev cX8_leadsTo : ByteArray := prog_10_method_39_code
def yX8_leadsTo : MethodName := ⟨RX8, "leadsTo", "(II)Z"⟩
abbrev cX8_parent : ByteArray := prog_10_method_40_code
def yX8_parent : MethodName := ⟨RX8, "parent", "(II)I"⟩
abbrev cX8_argument : ByteArray := prog_10_method_41_code
def yX8_argument : MethodName := ⟨RX8, "argument", "(II)I"⟩
abbrev cX8_wrong : ByteArray := prog_10_method_42_code
def yX8_wrong : MethodName := ⟨RX8, "wrong", "(III[I[II)I"⟩
abbrev cX8_make : ByteArray := prog_10_method_43_code
def yX8_make : MethodName := ⟨RX8, "make", "(II)I"⟩
abbrev cX8_array : ByteArray := prog_10_method_44_code
def yX8_array : MethodName := ⟨RX8, "array", "(I)I"⟩
abbrev cX8_about : ByteArray := prog_10_method_45_code
def yX8_about : MethodName := ⟨RX8, "about", "(II)I"⟩
abbrev cX8_below : ByteArray := prog_10_method_46_code
def yX8_below : MethodName := ⟨RX8, "below", "(II)I"⟩
abbrev cX8_erased : ByteArray := prog_10_method_47_code
def yX8_erased : MethodName := ⟨RX8, "erased", "(I)I"⟩
abbrev cX8_whole : ByteArray := prog_10_method_48_code
def yX8_whole : MethodName := ⟨RX8, "whole", "(I)I"⟩
abbrev cX8_above : ByteArray := prog_10_method_49_code
def yX8_above : MethodName := ⟨RX8, "above", "(II)I"⟩
abbrev cX8_member : ByteArray := prog_10_method_50_code
def yX8_member : MethodName := ⟨RX8, "member", "(II)I"⟩
abbrev cX8_feed : ByteArray := prog_10_method_51_code
def yX8_feed : MethodName := ⟨RX8, "feed", "(IJ)I"⟩
abbrev cX8_byteAt : ByteArray := prog_10_method_52_code
def yX8_byteAt : MethodName := ⟨RX8, "byteAt", "(I)I"⟩
abbrev cX8_faultAt : ByteArray := prog_10_method_53_code
def yX8_faultAt : MethodName := ⟨RX8, "faultAt", "(I)I"⟩
abbrev cX8_readType : ByteArray := prog_10_method_54_code
def yX8_readType : MethodName := ⟨RX8, "readType", "()I"⟩
abbrev cX8_readLetter : ByteArray := prog_10_method_55_code
def yX8_readLetter : MethodName := ⟨RX8, "readLetter", "(I)I"⟩
abbrev cX8_readPart : ByteArray := prog_10_method_56_code
def yX8_readPart : MethodName := ⟨RX8, "readPart", "()I"⟩
abbrev cX8_readArgument : ByteArray := prog_10_method_57_code
def yX8_readArgument : MethodName := ⟨RX8, "readArgument", "()I"⟩
abbrev cX8_keep : ByteArray := prog_10_method_58_code
def yX8_keep : MethodName := ⟨RX8, "keep", "(II)V"⟩
abbrev cX8_readBehind : ByteArray := prog_10_method_59_code
def yX8_readBehind : MethodName := ⟨RX8, "readBehind", "()I"⟩
abbrev cX8_readClosed : ByteArray := prog_10_method_60_code
def yX8_readClosed : MethodName := ⟨RX8, "readClosed", "()I"⟩
abbrev cX8_readSuffix : ByteArray := prog_10_method_61_code
def yX8_readSuffix : MethodName := ⟨RX8, "readSuffix", "()I"⟩
abbrev cX8_read : ByteArray := prog_10_method_62_code
def yX8_read : MethodName := ⟨RX8, "read", "()I"⟩
abbrev cX8_push : ByteArray := prog_10_method_63_code
def yX8_push : MethodName := ⟨RX8, "push", "(I)V"⟩
abbrev cX8_pushParts : ByteArray := prog_10_method_64_code
def yX8_pushParts : MethodName := ⟨RX8, "pushParts", "(I)V"⟩
abbrev cX8_print : ByteArray := prog_10_method_65_code
def yX8_print : MethodName := ⟨RX8, "print", "(I)I"⟩
abbrev cX8_out : ByteArray := prog_10_method_66_code
def yX8_out : MethodName := ⟨RX8, "out", "(I)I"⟩
abbrev cX8_count : ByteArray := prog_10_method_67_code
def yX8_count : MethodName := ⟨RX8, "count", "(I)I"⟩
end
section
/-! THE SMALL MACHINE: a run of the methods' code over pictures of cells: cell k holds h k j at its place j -/
abbrev ai_H : Type := Nat → Nat → Int32
abbrev ai_Sh : Type := List ((Bool × Nat) ⊕ (Nat × List (Option Nat)))
/-- an instruction, its length, three numbers that it uses, a constant -/
abbrev ai_I : Type := Instr × Nat × Nat × Nat × Nat × Int32
abbrev ai_Lc : Type := List (Option Value)
def ai_up (h : ai_H) (k i : Nat) (x : Int32) : ai_H := fun j => if j = k then upd (h k) i x else h j
def ai_cp (h : ai_H) (k0 k1 sp dp n : Nat) : ai_H := fun j => if j = k1 then va_cpy (h k0) (h k1) sp dp n else h j
def ai_set : ai_Lc → Nat → Value → Option ai_Lc
  | [], _, _ => none
  | _ :: L, 0, v => some (some v :: L)
  | some (.long _) :: _, 1, _ => none
  | some (.double _) :: _, 1, _ => none
  | x :: L, k + 1, v => (ai_set L k v).map (x :: ·)
def ai_cmp (c : Jvm.ClassFile.Cond) (x y : Int32) : Prop := match c with
  | .eq => x = y
  | .ne => ¬ x = y
  | .lt => x < y
  | .ge => y ≤ x
  | .gt => y < x
  | .le => x ≤ y
def ai_fl (vs : List Value) : ai_Lc := vs.flatMap fun v => if v.category = 2 then [some v, none] else [some v]
def ai_ent (n : Nat) (vs : List Value) : ai_Lc := ai_fl vs ++ List.replicate (n - (ai_fl vs).length) none
/-- n steps from here end, with Q -/
def ai_P (sh : ai_Sh) (mci : Nat → Nat) (cl : Nat → List Value → ai_H → Option Value → ai_H → Prop) (cd : Nat → Option ai_I) (Q : Option Value → ai_H → Prop) : Nat → Nat → ai_Lc → List Value → ai_H → Prop
  | 0, _, _, _, _ => False
  | n + 1, pc, L, S, h => match cd pc with
    | none => False
    | some (i, _, a, b, _, c) => match i with
      | .iconst _ => ai_P sh mci cl cd Q n (pc + 1) L (.int c :: S) h
      | .bipush _ => ai_P sh mci cl cd Q n (pc + 2) L (.int c :: S) h
      | .sipush _ => ai_P sh mci cl cd Q n (pc + 3) L (.int c :: S) h
      | .ldc2_w _ => ai_P sh mci cl cd Q n (pc + 3) L (.long (Int64.ofNat a) :: S) h
      | .aload_n _ => match L[a]? with
        | some (some (.ref x)) => ai_P sh mci cl cd Q n (pc + 1) L (.ref x :: S) h
        | _ => False
      | .aload _ => match L[a]? with
        | some (some (.ref x)) => ai_P sh mci cl cd Q n (pc + 2) L (.ref x :: S) h
        | _ => False
      | .iload_n _ => match L[a]? with
        | some (some (.int x)) => ai_P sh mci cl cd Q n (pc + 1) L (.int x :: S) h
        | _ => False
      | .iload _ => match L[a]? with
        | some (some (.int x)) => ai_P sh mci cl cd Q n (pc + 2) L (.int x :: S) h
        | _ => False
      | .lload_n _ => match L[a]? with
        | some (some (.long x)) => ai_P sh mci cl cd Q n (pc + 1) L (.long x :: S) h
        | _ => False
      | .istore_n _ => match S with
        | .int x :: S' => ∃ L', ai_set L a (.int x) = some L' ∧ ai_P sh mci cl cd Q n (pc + 1) L' S' h
        | _ => False
      | .istore _ => match S with
        | .int x :: S' => ∃ L', ai_set L a (.int x) = some L' ∧ ai_P sh mci cl cd Q n (pc + 2) L' S' h
        | _ => False
      | .iinc _ _ => match L[a]? with
        | some (some (.int x)) => ∃ L', ai_set L a (.int (x + c)) = some L' ∧ ai_P sh mci cl cd Q n (pc + 3) L' S h
        | _ => False
      | .iadd => match S with
        | .int y :: .int x :: S' => ai_P sh mci cl cd Q n (pc + 1) L (.int (x + y) :: S') h
        | _ => False
      | .isub => match S with
        | .int y :: .int x :: S' => ai_P sh mci cl cd Q n (pc + 1) L (.int (x - y) :: S') h
        | _ => False
      | .imul => match S with
        | .int y :: .int x :: S' => ai_P sh mci cl cd Q n (pc + 1) L (.int (x * y) :: S') h
        | _ => False
      | .iand => match S with
        | .int y :: .int x :: S' => ai_P sh mci cl cd Q n (pc + 1) L (.int (x &&& y) :: S') h
        | _ => False
      | .ior => match S with
        | .int y :: .int x :: S' => ai_P sh mci cl cd Q n (pc + 1) L (.int (x ||| y) :: S') h
        | _ => False
      | .ishl => match S with
        | .int y :: .int x :: S' => ai_P sh mci cl cd Q n (pc + 1) L (.int (x <<< (y &&& 31)) :: S') h
        | _ => False
      | .ishr => match S with
        | .int y :: .int x :: S' => ai_P sh mci cl cd Q n (pc + 1) L (.int (x >>> (y &&& 31)) :: S') h
        | _ => False
      | .land => match S with
        | .long y :: .long x :: S' => ai_P sh mci cl cd Q n (pc + 1) L (.long (x &&& y) :: S') h
        | _ => False
      | .lushr => match S with
        | .int y :: .long x :: S' => ai_P sh mci cl cd Q n (pc + 1) L (.long (x.toUInt64 >>> (y.toInt64.toUInt64 &&& Int64.toUInt64 63)).toInt64 :: S') h
        | _ => False
      | .lshr => match S with
        | .int y :: .long x :: S' => ai_P sh mci cl cd Q n (pc + 1) L (.long (x >>> (y.toInt64 &&& 63)) :: S') h
        | _ => False
      | .l2i => match S with
        | .long x :: S' => ai_P sh mci cl cd Q n (pc + 1) L (.int x.toInt32 :: S') h
        | _ => False
      | .dup => match S with
        | v :: S' => v.category = 1 ∧ ai_P sh mci cl cd Q n (pc + 1) L (v :: v :: S') h
        | _ => False
      | .dup2 => match S with
        | v :: u :: S' => v.category = 1 ∧ u.category = 1 ∧ ai_P sh mci cl cd Q n (pc + 1) L (v :: u :: v :: u :: S') h
        | _ => False
      | .getfield _ => match S with
        | .ref k :: S' => match sh[k]? with
          | some (.inr (ci, fs)) => ci = a ∧ (match fs[b]? with
            | some none => ai_P sh mci cl cd Q n (pc + 3) L (.int (h k b) :: S') h
            | some (some k2) => ai_P sh mci cl cd Q n (pc + 3) L (.ref k2 :: S') h
            | none => False)
          | _ => False
        | _ => False
      | .putfield _ => match S with
        | .int x :: .ref k :: S' => (∃ fs, sh[k]? = some (.inr (a, fs)) ∧ fs[b]? = some none) ∧ (c = 0 ∨ x = 0 ∨ x = 1) ∧ ai_P sh mci cl cd Q n (pc + 3) L S' (ai_up h k b x)
        | _ => False
      | .iaload => match S with
        | .int i :: .ref k :: S' => ∃ N, sh[k]? = some (.inl (false, N)) ∧ vp_in i N ∧ ai_P sh mci cl cd Q n (pc + 1) L (.int (h k i.toNatClampNeg) :: S') h
        | _ => False
      | .baload => match S with
        | .int i :: .ref k :: S' => ∃ N, sh[k]? = some (.inl (true, N)) ∧ vp_in i N ∧ ai_P sh mci cl cd Q n (pc + 1) L (.int (h k i.toNatClampNeg) :: S') h
        | _ => False
      | .iastore => match S with
        | .int x :: .int i :: .ref k :: S' => ∃ N, sh[k]? = some (.inl (false, N)) ∧ vp_in i N ∧ ai_P sh mci cl cd Q n (pc + 1) L S' (ai_up h k i.toNatClampNeg x)
        | _ => False
      | .bastore => match S with
        | .int x :: .int i :: .ref k :: S' => ∃ N, sh[k]? = some (.inl (true, N)) ∧ vp_in i N ∧ (x = 0 ∨ x = 1) ∧ ai_P sh mci cl cd Q n (pc + 1) L S' (ai_up h k i.toNatClampNeg x)
        | _ => False
      | .if_icmp cc _ => match S with
        | .int y :: .int x :: S' => (ai_cmp cc x y ∧ ai_P sh mci cl cd Q n a L S' h) ∨ (¬ ai_cmp cc x y ∧ ai_P sh mci cl cd Q n (pc + 3) L S' h)
        | _ => False
      | .ifCond cc _ => match S with
        | .int x :: S' => (ai_cmp cc x 0 ∧ ai_P sh mci cl cd Q n a L S' h) ∨ (¬ ai_cmp cc x 0 ∧ ai_P sh mci cl cd Q n (pc + 3) L S' h)
        | _ => False
      | .goto _ => ai_P sh mci cl cd Q n a L S h
      | .tableswitch d lo hi offs => match S with
        | .int x :: S' => ((x.toInt < lo ∨ hi < x.toInt) ∧ ∃ t : Nat, (pc : Int) + d = (t : Int) ∧ ai_P sh mci cl cd Q n t L S' h) ∨ (¬ x.toInt < lo ∧ ¬ hi < x.toInt ∧ ∃ (off : Int) (t : Nat), offs[(x.toInt - lo).toNat]? = some off ∧ (pc : Int) + off = (t : Int) ∧ ai_P sh mci cl cd Q n t L S' h)
        | _ => False
      | .invokevirtual _ => ∃ (As : List Value) (k : Nat) (rest : List Value) (fs : List (Option Nat)) (v : Option Value) (h2 : ai_H), S = As.reverse ++ .ref k :: rest ∧ As.length = b ∧ sh[k]? = some (.inr (mci a, fs)) ∧ (rest.map fun v => v.category).sum ≤ 8 ∧ cl a (.ref k :: As) h v h2 ∧ ai_P sh mci cl cd Q n (pc + 3) L (v.toList ++ rest) h2
      | .invokestatic _ =>
        if a = 1001 then (match S with
          | .int y :: .int x :: S' => (S'.map fun v => v.category).sum ≤ 8 ∧ ai_P sh mci cl cd Q n (pc + 3) L (.int (if y < x then y else x) :: S') h
          | _ => False)
        else if a = 1002 then (match S with
          | .int y :: .int x :: S' => (S'.map fun v => v.category).sum ≤ 8 ∧ ai_P sh mci cl cd Q n (pc + 3) L (.int (if x < y then y else x) :: S') h
          | _ => False)
        else if a = 1003 then (match S with
          | .int m :: .int dp :: .ref k1 :: .int sp :: .ref k0 :: S' => ∃ N0 N1, sh[k0]? = some (.inl (false, N0)) ∧ sh[k1]? = some (.inl (false, N1)) ∧ ¬ sp < 0 ∧ ¬ dp < 0 ∧ ¬ m < 0 ∧ sp.toNatClampNeg + m.toNatClampNeg ≤ N0 ∧ dp.toNatClampNeg + m.toNatClampNeg ≤ N1 ∧ (S'.map fun v => v.category).sum ≤ 8 ∧ ai_P sh mci cl cd Q n (pc + 3) L S' (ai_cp h k0 k1 sp.toNatClampNeg dp.toNatClampNeg m.toNatClampNeg)
          | _ => False)
        else ∃ (As : List Value) (rest : List Value) (v : Option Value) (h2 : ai_H), S = As.reverse ++ rest ∧ As.length = b ∧ (rest.map fun v => v.category).sum ≤ 8 ∧ cl a As h v h2 ∧ ai_P sh mci cl cd Q n (pc + 3) L (v.toList ++ rest) h2
      | .ireturn => match S with
        | [.int x] => (b = 0 ∨ x = 0 ∨ x = 1) ∧ Q (some (.int x)) h
        | _ => False
      | .return_ => match S with
        | [] => Q none h
        | _ => False
      | _ => False
def ai_R (sh : ai_Sh) (mci : Nat → Nat) (cl : Nat → List Value → ai_H → Option Value → ai_H → Prop) (cd : Nat → Option ai_I) (Q : Option Value → ai_H → Prop) (pc : Nat) (L : ai_Lc) (S : List Value) (h : ai_H) : Prop := ∃ n, ai_P sh mci cl cd Q n pc L S h
/-- a call of method i, at most d deep: its answer r, the cells behind it -/
def ai_C (sh : ai_Sh) (mci ml : Nat → Nat) (cd : Nat → Nat → Option ai_I) : Nat → Nat → List Value → ai_H → Option Value → ai_H → Prop
  | 0, _, _, _, _, _ => False
  | d + 1, i, as, h, r, h2 => (ai_ent (ml i) as).length = ml i ∧ ai_R sh mci (ai_C sh mci ml cd d) (cd i) (fun r' h' => r' = r ∧ h' = h2) 0 (ai_ent (ml i) as) [] h
end
section
abbrev ai_cl : List vw_C := [(RX0, TX0, 12), (RX1, TX1, 2), (RX2, TX2, 3), (RX3, TX3, 5), (RX4, TX4, 7), (RX5, TX5, 4), (RX6, TX6, 13), (RX7, TX7, 9), (RX8, TX8, 56)]
/-- a method: its name, its code, its locals, its type, its class's number, whether it is static, how many arguments -/
abbrev ai_Mt : Type := MethodName × ByteArray × Nat × Option FieldType × Nat × Bool × Nat
def ai_cv (ad : Nat → Nat) : Value → Value
  | .ref k => .ref (ad k)
  | v => v
def ai_fv (ad : Nat → Nat) (h : ai_H) (k j : Nat) (f : Option Nat) : Value := match f with
  | none => .int (h k j)
  | some q => .ref (ad q)
def ai_cell (cA : Bool → ClassId) (ad : Nat → Nat) (h : ai_H) (k : Nat) (c : (Bool × Nat) ⊕ (Nat × List (Option Nat))) : Nat × va_E := (ad k, match c with
  | .inl (z, n) => .inl (cA z, n, .inl (h k))
  | .inr (ci, fs) => .inr (ci, fs.mapIdx (ai_fv ad h k)))
def ai_ws (cA : Bool → ClassId) (ad : Nat → Nat) (sh : ai_Sh) (h : ai_H) : va_W := sh.mapIdx (ai_cell cA ad h)
def ai_A (ad : Nat → Nat) (sh : ai_Sh) : Nat → Prop := fun q => ∃ k, k < sh.length ∧ ad k = q
def ai_lk (ad : Nat → Nat) (ls : Array Slot) (L : ai_Lc) : Prop := ls.size = L.length ∧ lv_wf ls ∧ ∀ (k : Nat) (v : Value), L[k]? = some (some v) → ls[k]? = some (.val (ai_cv ad v))
def ai_rm (d : Nat) : Room := { frames := d, cells := 0, slots := 0, locals := 50 * d }
/-- the words that stay good behind a call, and those of nest mates -/
def ai_tb : List Cond := lw_tbl.filter goodWord
def ai_isN : Cond → Bool
  | .fieldLinkNest .. => true
  | .methodLinkNest .. => true
  | _ => false
def ai_N (U : State) : Prop := ∀ w ∈ lw_tbl, ai_isN w = true → va_Nw w U
theorem ai_N_warm {s U : State} (hW : s.WarmedH U.vm) (h : ai_N s) : ai_N U := by
  intro w hw hn
  have h1 := h w hw hn
  cases w with
  | fieldLinkNest a i b n d h => exact va_Nw.warmF hW h1
  | methodLinkNest a i x h => exact va_Nw.warmM hW h1
  | _ => cases hn
theorem ai_N_same {u U : State} (e : u.vm = U.vm) (h : ai_N u) : ai_N U := by
  intro w hw hn
  have h1 := h w hw hn
  cases w with
  | fieldLinkNest a i b n d h => exact va_Nw.same rfl e h1
  | methodLinkNest a i x h => exact va_Nw.same rfl e h1
  | _ => cases hn
theorem ai_tb_in {w : Cond} (h : w ∈ lw_tbl) (g : goodWord w = true) : w ∈ ai_tb := List.mem_filter.mpr ⟨h, g⟩
theorem ai_tb_at {w : Cond} {i : Nat} (h : lw_tbl[i]? = some w) (g : goodWord w = true) : w ∈ ai_tb := ai_tb_in (List.mem_of_getElem? h) g
theorem ai_good {Ts ws : List Cond} (h : ∀ w ∈ ws, w ∈ ai_tb) (hin : ∀ w ∈ ai_tb, w ∈ Ts) : GoodIn Ts ws := fun w hw => ⟨hin w (h w hw), good_of_word (List.mem_filter.mp (h w hw)).2⟩
def ai_Pc (D : va_G) (cA : Bool → ClassId) (ad : Nat → Nat) (sh : ai_Sh) (as : List Value) (h : ai_H) : Array Value → State → Prop := va_Pc (as.map (ai_cv ad)) (fun U => va_P D ai_cl (ai_ws cA ad sh h) U.heap ∧ va_K D ai_cl [(cA false, .int), (cA true, .boolean)] U ∧ ai_N U)
def ai_Qc (D : va_G) (cA : Bool → ClassId) (ad : Nat → Nat) (sh : ai_Sh) (r : Option Value) (h : ai_H) : Array Value → State → Outcome → State → Prop := fun _ st oc t => oc = .returned (r.map (ai_cv ad)) ∧ va_P D ai_cl (ai_ws cA ad sh h) t.heap ∧ va_F (ai_A ad sh) st t
/-- what a row of a method's code must be -/
def ai_okb (mt : Nat → Option ai_Mt) (own : String) (bs : ByteArray) (rt : Option FieldType) (pc : Nat) (q : ai_I) : Bool := match q with
  | (i, len, a, b, w, c) => decide (decode bs pc = .ok (i, len)) && (match i with
    | .iconst n => decide (len = 1) && decide (Int32.ofInt n = c)
    | .bipush n => decide (len = 2) && decide ((Int8.ofInt n).toInt32 = c)
    | .sipush n => decide (len = 3) && decide ((Int16.ofInt n).toInt32 = c)
    | .ldc2_w ix => decide (len = 3) && decide (lw_tbl[w]? = some (.constantLong own ix (Int64.ofNat a)))
    | .aload_n k => decide (len = 1) && decide (k.val = a)
    | .iload_n k => decide (len = 1) && decide (k.val = a)
    | .lload_n k => decide (len = 1) && decide (k.val = a)
    | .istore_n k => decide (len = 1) && decide (k.val = a)
    | .aload k => decide (len = 2) && decide (k = a)
    | .iload k => decide (len = 2) && decide (k = a)
    | .istore k => decide (len = 2) && decide (k = a)
    | .iinc k n => decide (len = 3) && (decide (k = a) && decide (Int32.ofInt n = c))
    | .getfield ix => decide (len = 3) && (match ai_cl[a]? with
      | some (_, T, N) => decide (b < N) && (decide (lw_tbl[w]? = some (.fieldLink own ix (T b).1 (T b).2.1 (T b).2.2.1)) || decide (lw_tbl[w]? = some (.fieldLinkNest own ix (T b).1 (T b).2.1 (T b).2.2.1 RX7)))
      | none => false)
    | .putfield ix => decide (len = 3) && (match ai_cl[a]? with
      | some (_, T, N) => decide (b < N) && (decide (lw_tbl[w]? = some (.fieldLink own ix (T b).1 (T b).2.1 (T b).2.2.1)) && (decide ((T b).2.2.2 = false) && decide (parseFieldDescriptor (T b).2.2.1 = some (if c = 0 then .int else .boolean))))
      | none => false)
    | .iaload => decide (len = 1)
    | .baload => decide (len = 1)
    | .iastore => decide (len = 1)
    | .bastore => decide (len = 1)
    | .iadd => decide (len = 1)
    | .isub => decide (len = 1)
    | .imul => decide (len = 1)
    | .iand => decide (len = 1)
    | .ior => decide (len = 1)
    | .ishl => decide (len = 1)
    | .ishr => decide (len = 1)
    | .land => decide (len = 1)
    | .lushr => decide (len = 1)
    | .lshr => decide (len = 1)
    | .l2i => decide (len = 1)
    | .dup => decide (len = 1)
    | .dup2 => decide (len = 1)
    | .if_icmp _ off => decide (len = 3) && decide ((pc : Int) + off = (a : Int))
    | .ifCond _ off => decide (len = 3) && decide ((pc : Int) + off = (a : Int))
    | .goto off => decide (len = 3) && decide ((pc : Int) + off = (a : Int))
    | .tableswitch _ _ _ _ => true
    | .invokevirtual ix => decide (len = 3) && (match mt a with
      | some (y, _, _, _, _, st, na) => decide (st = false) && (decide (na = b) && (decide (lw_tbl[w]? = some (.methodLink own ix y)) || decide (lw_tbl[w]? = some (.methodLinkNest own ix y RX7))))
      | none => false)
    | .invokestatic ix => decide (len = 3) && (if a = 1001 then decide (lw_tbl[w]? = some (.methodLink own ix Lib.Math.min.name)) else if a = 1002 then decide (lw_tbl[w]? = some (.methodLink own ix Lib.Math.max.name)) else if a = 1003 then decide (lw_tbl[w]? = some (.methodLink own ix arraycopyName)) else (match mt a with
      | some (y, _, _, _, _, st, na) => decide (st = true) && (decide (na = b) && ((decide (y.cls = own) && decide (lw_tbl[w]? = some (.methodLink own ix y))) || decide (lw_tbl[w]? = some (.methodLinkNest own ix y RX7))))
      | none => false))
    | .ireturn => decide (len = 1) && decide ((rt = some .int ∧ b = 0) ∨ (rt = some .boolean ∧ b = 1))
    | .return_ => decide (len = 1) && decide (rt = none)
    | _ => false)
def ai_mokP (q : ai_Mt) : Prop := match q with
  | (y, b, n, rt, ci, st, na) => Cond.code y b n rt ∈ lw_tbl ∧ Cond.initialized y.cls ∈ lw_tbl ∧ plainName y.cls = true ∧ y.cls ≠ "java/lang/invoke/MethodHandle" ∧ y.cls ≠ "java/lang/invoke/VarHandle" ∧ n ≤ 30 ∧ (parseMethodDescriptor y.desc).map (fun d => d.parameters.length) = some na ∧ (if st = true then Cond.static y ∈ lw_tbl else Cond.instanceMethod y ∈ lw_tbl ∧ Cond.selects y.cls y y ∈ lw_tbl ∧ ai_cl[ci]?.map (fun q => q.1) = some y.cls)
theorem ai_cls : ∀ (ci : Nat) (q : vw_C), ai_cl[ci]? = some q → ∃ ty0 : Nat → FieldType, (∀ k, k < q.2.2 → parseFieldDescriptor (q.2.1 k).2.2.1 = some (ty0 k)) ∧ (∀ a, a < q.2.2 → ∀ b, b < q.2.2 → a ≠ b → (q.2.1 a).2.1 ≠ (q.2.1 b).2.1) ∧ ∀ w ∈ u_ws q.1 q.2.1 q.2.2, w ∈ lw_tbl ∧ goodWord w = true := by
  intro ci q hq
  match ci, hq with
  | 0, hq => cases hq; exact ⟨tyX0, tyX0_ok, nmX0, by decide +kernel⟩
  | 1, hq => cases hq; exact ⟨tyX1, tyX1_ok, nmX1, by decide +kernel⟩
  | 2, hq => cases hq; exact ⟨tyX2, tyX2_ok, nmX2, by decide +kernel⟩
  | 3, hq => cases hq; exact ⟨tyX3, tyX3_ok, nmX3, by decide +kernel⟩
  | 4, hq => cases hq; exact ⟨tyX4, tyX4_ok, nmX4, by decide +kernel⟩
  | 5, hq => cases hq; exact ⟨tyX5, tyX5_ok, nmX5, by decide +kernel⟩
  | 6, hq => cases hq; exact ⟨tyX6, tyX6_ok, nmX6, by decide +kernel⟩
  | 7, hq => cases hq; exact ⟨tyX7, tyX7_ok, nmX7, by decide +kernel⟩
  | 8, hq => cases hq; exact ⟨tyX8, tyX8_ok, nmX8, by decide +kernel⟩
  | k + 9, hq => simp [ai_cl] at hq
theorem ai_wmin : Cond.static Lib.Math.min.name ∈ lw_tbl ∧ Cond.initialized "java/lang/Math" ∈ lw_tbl ∧ Cond.code Lib.Math.min.name Lib.Math.min.code 2 (some .int) ∈ lw_tbl := by decide +kernel
theorem ai_wmax : Cond.static Lib.Math.max.name ∈ lw_tbl ∧ Cond.initialized "java/lang/Math" ∈ lw_tbl ∧ Cond.code Lib.Math.max.name Lib.Math.max.code 2 (some .int) ∈ lw_tbl := by decide +kernel
theorem ai_wcpy : Cond.static arraycopyName ∈ lw_tbl ∧ Cond.initialized "java/lang/System" ∈ lw_tbl ∧ Cond.native arraycopyName ∈ lw_tbl := by decide +kernel
theorem ai_ws_at {cA : Bool → ClassId} {ad : Nat → Nat} {sh : ai_Sh} {h : ai_H} {k : Nat} {c : (Bool × Nat) ⊕ (Nat × List (Option Nat))} (hk : sh[k]? = some c) : (ai_ws cA ad sh h)[k]? = some (ai_cell cA ad h k c) := by
  simp [ai_ws, List.getElem?_mapIdx, hk]
theorem ai_ws_inv {cA : Bool → ClassId} {ad : Nat → Nat} {sh : ai_Sh} {h : ai_H} {k : Nat} {q : Nat × va_E} (hk : (ai_ws cA ad sh h)[k]? = some q) : k < sh.length ∧ q.1 = ad k := by
  simp only [ai_ws, List.getElem?_mapIdx, Option.map_eq_some_iff] at hk
  obtain ⟨c, h1, h2⟩ := hk
  exact ⟨(List.getElem?_eq_some_iff.mp h1).1, by rw [← h2]; rfl⟩
theorem ai_D {cA : Bool → ClassId} {ad : Nat → Nat} {sh : ai_Sh} {A : Nat → Prop} (hd : ∀ i j, i < sh.length → j < sh.length → ad i = ad j → i = j) (hA : ∀ k, k < sh.length → A (ad k)) (h : ai_H) : va_D A (ai_ws cA ad sh h) := by
  refine ⟨fun i j p q hp hq e => ?_, fun k q hk => ?_⟩
  · obtain ⟨h1, h2⟩ := ai_ws_inv hp
    obtain ⟨h3, h4⟩ := ai_ws_inv hq
    exact hd i j h1 h3 (by rw [← h2, ← h4, e])
  · obtain ⟨h1, h2⟩ := ai_ws_inv hk
    rw [h2]; exact hA k h1
theorem ai_cell_c {cA : Bool → ClassId} {ad : Nat → Nat} {h h2 : ai_H} {j : Nat} (e : h j = h2 j) (c : (Bool × Nat) ⊕ (Nat × List (Option Nat))) : ai_cell cA ad h j c = ai_cell cA ad h2 j c := by
  have e2 : ai_fv ad h j = ai_fv ad h2 j := by
    funext q f
    cases f <;> simp [ai_fv, e]
  cases c with
  | inl x => simp [ai_cell, e]
  | inr x => simp [ai_cell, e2]
theorem ai_set_arr {cA : Bool → ClassId} {ad : Nat → Nat} {sh : ai_Sh} {h : ai_H} {k i n : Nat} {z : Bool} {x : Int32} (hk : sh[k]? = some (.inl (z, n))) : (ai_ws cA ad sh h).set k (ad k, .inl (cA z, n, .inl (upd (h k) i x))) = ai_ws cA ad sh (ai_up h k i x) := by
  apply List.ext_getElem?
  intro j
  have hl : k < sh.length := (List.getElem?_eq_some_iff.mp hk).1
  by_cases hj : j = k
  · subst hj
    rw [List.getElem?_set_self (by simpa [ai_ws] using hl), ai_ws_at hk]
    simp [ai_cell, ai_up]
  · rw [List.getElem?_set_ne (fun q => hj q.symm)]
    simp only [ai_ws, List.getElem?_mapIdx]
    cases sh[j]? with
    | none => rfl
    | some c => exact congrArg some (ai_cell_c (by simp [ai_up, hj]) c)
theorem ai_set_cpy {cA : Bool → ClassId} {ad : Nat → Nat} {sh : ai_Sh} {h : ai_H} {k0 k sp dp m n : Nat} {z : Bool} (hk : sh[k]? = some (.inl (z, n))) : (ai_ws cA ad sh h).set k (ad k, .inl (cA z, n, .inl (va_cpy (h k0) (h k) sp dp m))) = ai_ws cA ad sh (ai_cp h k0 k sp dp m) := by
  apply List.ext_getElem?
  intro j
  have hl : k < sh.length := (List.getElem?_eq_some_iff.mp hk).1
  by_cases hj : j = k
  · subst hj
    rw [List.getElem?_set_self (by simpa [ai_ws] using hl), ai_ws_at hk]
    simp [ai_cell, ai_cp]
  · rw [List.getElem?_set_ne (fun q => hj q.symm)]
    simp only [ai_ws, List.getElem?_mapIdx]
    cases sh[j]? with
    | none => rfl
    | some c => exact congrArg some (ai_cell_c (by simp [ai_cp, hj]) c)
theorem ai_set_obj {cA : Bool → ClassId} {ad : Nat → Nat} {sh : ai_Sh} {h : ai_H} {k b ci : Nat} {fs : List (Option Nat)} {x : Int32} (hk : sh[k]? = some (.inr (ci, fs))) (hf : fs[b]? = some none) : (ai_ws cA ad sh h).set k (ad k, .inr (ci, (fs.mapIdx (ai_fv ad h k)).set b (.int x))) = ai_ws cA ad sh (ai_up h k b x) := by
  apply List.ext_getElem?
  intro j
  have hl : k < sh.length := (List.getElem?_eq_some_iff.mp hk).1
  have hb : b < fs.length := (List.getElem?_eq_some_iff.mp hf).1
  by_cases hj : j = k
  · subst hj
    rw [List.getElem?_set_self (by simpa [ai_ws] using hl), ai_ws_at hk]
    simp only [ai_cell]
    congr 4
    apply List.ext_getElem?
    intro q
    by_cases hq : q = b
    · subst hq
      rw [List.getElem?_set_self (by simpa using hb)]
      simp [List.getElem?_mapIdx, hf, ai_fv, ai_up, upd]
    · rw [List.getElem?_set_ne (fun e => hq e.symm)]
      simp only [List.getElem?_mapIdx]
      cases fs[q]? with
      | none => rfl
      | some f => cases f <;> simp [ai_fv, ai_up, upd, hq]
  · rw [List.getElem?_set_ne (fun q => hj q.symm)]
    simp only [ai_ws, List.getElem?_mapIdx]
    cases sh[j]? with
    | none => rfl
    | some c => exact congrArg some (ai_cell_c (by simp [ai_up, hj]) c)
end
section
section AIW
variable {p : Program} {l : Launch} {e : Env} {R : Room} {s : State} {m : MethodId} {args : Array Value} {below : List Frame} {meth : Method} {c : Code} {cells slots : Nat}
variable {sh : ai_Sh} {cA : Bool → ClassId} {ad : Nat → Nat} {D : va_G} {A : Nat → Prop}
/-- behind a call -/
theorem ai_call {H : Heap} {locs : List Loc} {pc : Nat} {ls : Array Slot} {st0 rest : List Value} {r : Option Value} {h2 : ai_H} {a : Array Value} {Q : State → Prop} (hr : va_Run p l e R s m args below meth c H locs cells slots 0 0 (F0 m pc ls st0) rest (ai_Qc D cA ad sh r h2 a) (ai_A ad sh)) (hS : va_S A s.heap H locs) (hA : ∀ q, ai_A ad sh q → A q)
    (kk : ∀ (H1 : Heap) (locs1 : List Loc), va_P D ai_cl (ai_ws cA ad sh h2) H1 → va_S A s.heap H1 locs1 → W p l e R s m args below meth c H1 locs1 cells slots Q (F0 m (pc + 3) ls ((r.map (ai_cv ad)).toList ++ rest))) : W p l e R s m args below meth c H locs cells slots Q (F0 m pc ls st0) := by
  intro T hT X
  obtain ⟨v, st₀, t, T', L, h0, X', hL, e1, e2, ⟨hv, hp, hz, hk⟩, st⟩ := hr T hT X
  cases hv
  rw [h0] at hz hk
  obtain ⟨t2, a1, b1⟩ := kk T'.heap (locs ++ L) (by rw [e1]; exact hp)
    ⟨Nat.le_trans hS.1 (by rw [e1]; exact hz), fun q h1 h2 => by rw [e1, hk q (Nat.lt_of_lt_of_le h1 hS.1) (fun z => h2 (hA q z))]; exact hS.2.1 q h1 h2, fun q hq => by
      rcases List.mem_append.mp hq with h | h
      · exact hS.2.2 q h
      · exact hA _ (hL q h)⟩ T' rfl X'
  exact ⟨t2, st t2 a1, b1⟩
theorem ai_blind (D : va_G) (cA : Bool → ClassId) (ad : Nat → Nat) (sh : ai_Sh) (as : List Value) (h : ai_H) : FrameBlind (ai_Pc D cA ad sh as h) := fun a U g mk q => by
  obtain ⟨q0, q1, q2, q3⟩ := q
  exact ⟨q0, q1, va_K.moved (u := U) (U := U.calling g mk a) (Vm.Alike.refl U.vm) q2, ai_N_same (u := U) (U := U.calling g mk a) rfl q3⟩
theorem ai_set_spec : ∀ (L : ai_Lc) (i : Nat) (v : Value) (L' : ai_Lc), ai_set L i v = some L' → L'.length = L.length ∧ i < L.length ∧ (∀ j, L'[j]? = if j = i then some (some v) else L[j]?) ∧ ∀ (j : Nat) (u : Value), L[j]? = some (some u) → j + 1 = i → u.category = 1
  | [], i, v, L', h => by simp [ai_set] at h
  | x :: L, 0, v, L', h => by
    have e : L' = some v :: L := by cases x with | none => simpa [ai_set] using h.symm | some x => simpa [ai_set] using h.symm
    subst e
    refine ⟨rfl, Nat.succ_pos _, fun j => ?_, fun j u _ hj => by omega⟩
    cases j with
    | zero => rfl
    | succ j => simp
  | x :: L, k + 1, v, L', h => by
    have hx : ∀ u : Value, x = some u → k = 0 → u.category = 1 := by
      intro u hu hk
      subst hu; subst hk
      cases u <;> first | rfl | (simp [ai_set] at h)
    have h2 : ∃ L2, ai_set L k v = some L2 ∧ x :: L2 = L' := by
      cases x with
      | none => simpa [ai_set, Option.map_eq_some_iff] using h
      | some u =>
        cases k with
        | zero => cases u <;> first | (simp [ai_set] at h; done) | simpa [ai_set, Option.map_eq_some_iff] using h
        | succ k => cases u <;> simpa [ai_set, Option.map_eq_some_iff] using h
    obtain ⟨L2, h3, rfl⟩ := h2
    obtain ⟨e1, e2, e3, e4⟩ := ai_set_spec L k v L2 h3
    refine ⟨by simp [e1], by simp; omega, fun j => ?_, fun j u hj hji => ?_⟩
    · cases j with
      | zero => simp
      | succ j => simp [e3 j]
    · cases j with
      | zero =>
        have : x = some u := by simpa using hj
        exact hx u this (by omega)
      | succ j => exact e4 j u (by simpa using hj) (by omega)
/-- the listed locals of a picture -/
def ai_lv (ad : Nat → Nat) (L : ai_Lc) : List (Nat × Value) := (List.range L.length).filterMap fun k => match L[k]? with
  | some (some v) => some (k, ai_cv ad v)
  | _ => none
theorem ai_lv_mem {ad : Nat → Nat} {L : ai_Lc} {k : Nat} {v : Value} (h : L[k]? = some (some v)) : (k, ai_cv ad v) ∈ ai_lv ad L := by
  unfold ai_lv
  refine List.mem_filterMap.mpr ⟨k, List.mem_range.mpr (List.getElem?_eq_some_iff.mp h).1, ?_⟩
  simp [h]
theorem ai_lk_has {ls : Array Slot} {L : ai_Lc} {ad : Nat → Nat} (h : ai_lk ad ls L) : lv_has ls L.length (ai_lv ad L) := by
  refine ⟨h.1, h.2.1, fun q hq => ?_⟩
  obtain ⟨k, -, hk⟩ := List.mem_filterMap.mp hq
  revert hk
  split
  · rename_i v hv
    intro hk
    cases hk
    exact h.2.2 k v hv
  · intro hk
    cases hk
theorem ai_cv_cat (ad : Nat → Nat) (v : Value) : (ai_cv ad v).category = v.category := by cases v <;> rfl
theorem ai_lk_set {ls ls' : Array Slot} {L L' : ai_Lc} {ad : Nat → Nat} {i : Nat} {v : Value} (h : ai_lk ad ls L) (hs : ai_set L i v = some L') (hh : lv_has ls' L.length ((i, ai_cv ad v) :: (ai_lv ad L).filter (fun q => !(q.1 == i) && !(q.1 + 1 == i && q.2.category == 2)))) : ai_lk ad ls' L' := by
  obtain ⟨e1, e2, e3, e4⟩ := ai_set_spec L i v L' hs
  refine ⟨by rw [hh.1, e1], hh.2.1, fun k u hk => ?_⟩
  rw [e3 k] at hk
  by_cases hki : k = i
  · subst hki
    rw [if_pos rfl] at hk
    have ev : v = u := by simpa using hk
    rw [← ev]
    exact hh.2.2 (k, ai_cv ad v) List.mem_cons_self
  · rw [if_neg hki] at hk
    refine hh.2.2 (k, ai_cv ad u) (List.mem_cons_of_mem _ (List.mem_filter.mpr ⟨ai_lv_mem hk, ?_⟩))
    by_cases h1 : k + 1 = i
    · have h2 := e4 k u hk h1
      simp [hki, ai_cv_cat, h2]
    · simp [hki, h1]
theorem ai_lk_ent (ad : Nat → Nat) (as : List Value) (n : Nat) (hn : (ai_ent n as).length = n) : ai_lk ad ((lg_sl (as.map (ai_cv ad)) ++ List.replicate (n - (lg_sl (as.map (ai_cv ad))).length) Slot.unset).toArray) (ai_ent n as) := by
  have e : ∀ as : List Value, lg_sl (as.map (ai_cv ad)) = (ai_fl as).map (fun o => match o with | some v => Slot.val (ai_cv ad v) | none => Slot.second) := by
    intro as
    induction as with
    | nil => rfl
    | cons v vs ih =>
      have ih2 := ih
      simp only [lg_sl, ai_fl, List.map_cons, List.flatMap_cons, List.map_append] at ih2 ⊢
      rw [ih2, ai_cv_cat]
      by_cases hc : v.category = 2 <;> simp [hc]
  have hlen : (lg_sl (as.map (ai_cv ad))).length = (ai_fl as).length := by rw [e, List.length_map]
  have hle : (ai_fl as).length ≤ n := by
    unfold ai_ent at hn
    simp only [List.length_append, List.length_replicate] at hn
    omega
  have hl := lv_entry (as.map (ai_cv ad)) (n := n) (by rw [hlen]; exact hle)
  refine ⟨by rw [hl.1, hn], hl.2.1, fun k v hk => ?_⟩
  have hk1 : k < (ai_fl as).length := by
    rcases Nat.lt_or_ge k (ai_fl as).length with q | q
    · exact q
    · unfold ai_ent at hk
      rw [List.getElem?_append_right q, List.getElem?_replicate] at hk
      split at hk <;> cases hk
  unfold ai_ent at hk
  rw [List.getElem?_append_left hk1] at hk
  rw [List.getElem?_toArray, List.getElem?_append_left (by rw [hlen]; exact hk1), e, List.getElem?_map, hk]
  rfl
end AIW
end
section
theorem ai_nar0 {x : Int32} (h : x = 0 ∨ x = 1) : narrow .boolean (.int x) = .int x ∧ fits .boolean (.int x) = true ∧ vp_nar .boolean x = x := by
  rcases h with rfl | rfl <;> exact ⟨by decide +kernel, by decide +kernel, by decide +kernel⟩
set_option maxHeartbeats 4000000 in
set_option maxRecDepth 20000 in
theorem ai_walk {p : Program} {l : Launch} {e : Env} {R : Room} {s : State} {m : MethodId} {args : Array Value} {below : List Frame} {meth : Method} {c : Code} {cells slots : Nat}
    {sh : ai_Sh} {cA : Bool → ClassId} {ad : Nat → Nat} {D : va_G} {A : Nat → Prop} {mci ml : Nat → Nat} {cd : Nat → Nat → Option ai_I} {mt : Nat → Option ai_Mt} {cdi : Nat → Option ai_I} {bs : ByteArray} {own : String} {nL d : Nat} {rt : Option FieldType} {Ts : List Cond}
    {Q : Option Value → ai_H → Prop} {Qc : Array Value → State → Outcome → State → Prop} {free : Addr → Prop}
    (hx : p.tables.exec = Jvm.exec) (hb : c.code = bs) (hml : c.maxLocals = nL) (hown : s.vm.findClass own = some m.cls) (hts : ∀ w ∈ Ts, w.before args s = true) (hin : ∀ w ∈ ai_tb, w ∈ Ts) (hN : ai_N s)
    (hK : va_K D ai_cl [(cA false, .int), (cA true, .boolean)] s) (hdist : ∀ i j, i < sh.length → j < sh.length → ad i = ad j → i = j) (hAd : ∀ k, k < sh.length → A (ad k))
    (hr : meth.sig.returnType = rt) (hlocks : meth.locks = false) (hck : ∀ pc q, cdi pc = some q → ai_okb mt own bs rt pc q = true)
    (hmt : ∀ i q, mt i = some q → ai_mokP q ∧ ml i = q.2.2.1 ∧ mci i = q.2.2.2.2.1)
    (hfr : d + 1 ≤ R.frames) (hlo : 50 * d + 50 ≤ R.locals) (hce : cells ≤ R.cells) (hsl : slots ≤ R.slots)
    (hM : ∀ i q, mt i = some q → ∀ as h r h2, ai_C sh mci ml cd d i as h r h2 → Met l q.1 (.code q.1 q.2.1 q.2.2.1 q.2.2.2.1 :: ai_tb) (ai_rm d) (ai_Pc D cA ad sh as h) (ai_Qc D cA ad sh r h2) 0 0 (ai_A ad sh))
    (hq : ∀ (r : Option Value) (h : ai_H) (H : Heap) (locs : List Loc) (t : State), Q r h → va_P D ai_cl (ai_ws cA ad sh h) H → va_S A s.heap H locs → t.heap = H → s.WarmedH t.vm → Qc args s (.returned (r.map (ai_cv ad))) t)
    (hfree : ∀ q, A q → free q) :
    ∀ (n pc : Nat) (L : ai_Lc) (S : List Value) (h : ai_H) (H : Heap) (locs : List Loc) (ls : Array Slot), ai_P sh mci (ai_C sh mci ml cd d) cdi Q n pc L S h → va_P D ai_cl (ai_ws cA ad sh h) H → va_S A s.heap H locs → ai_lk ad ls L → L.length = nL →
      W p l e R s m args below meth c H locs cells slots (MQ below Qc args s cells slots free) (F0 m pc ls (S.map (ai_cv ad))) := by
  intro n
  induction n with
  | zero => intro pc L S h H locs ls hp; exact (show False from hp).elim
  | succ n ih =>
    intro pc L S h H locs ls hp hP hS hL hnL
    have hD : va_D A (ai_ws cA ad sh h) := ai_D hdist hAd h
    have hsz : ls.size = nL := by rw [hL.1, hnL]
    cases hcd : cdi pc with
    | none => simp only [ai_P, hcd] at hp
    | some q =>
      have hok := hck pc q hcd
      obtain ⟨i, len, a, b, w, cc⟩ := q
      simp only [ai_P, hcd] at hp
      simp only [ai_okb, Bool.and_eq_true, decide_eq_true_eq] at hok
      obtain ⟨hdec, hok⟩ := hok
      cases i
      all_goals (try exact (show False from hp).elim)
      all_goals dsimp only at hp hok
      all_goals (try simp only [Bool.and_eq_true, decide_eq_true_eq] at hok)
      case iconst v => obtain ⟨rfl, hc⟩ := hok; exact lv_iconst hx hb hdec hc (ih _ _ _ _ _ _ _ hp hP hS hL hnL)
      case bipush v => obtain ⟨rfl, hc⟩ := hok; exact lv_bipush hx hb hdec hc (ih _ _ _ _ _ _ _ hp hP hS hL hnL)
      case sipush v => obtain ⟨rfl, hc⟩ := hok; exact lv_sipush hx hb hdec hc (ih _ _ _ _ _ _ _ hp hP hS hL hnL)
      case ldc2_w ix => obtain ⟨rfl, hc⟩ := hok; exact lv_ldc2 hx hb hown (hts _ (hin _ (ai_tb_at hc rfl))) hdec (ih _ _ _ _ _ _ _ hp hP hS hL hnL)
      case aload_n k =>
        obtain ⟨rfl, hc⟩ := hok
        split at hp
        · rename_i x hx2; exact lv_aload_n hx hb hdec hc (hL.2.2 a _ hx2) (ih _ _ _ _ _ _ _ hp hP hS hL hnL)
        · exact hp.elim
      case aload k =>
        obtain ⟨rfl, rfl⟩ := hok
        split at hp
        · rename_i x hx2; exact lv_aload hx hb hdec (hL.2.2 k _ hx2) (ih _ _ _ _ _ _ _ hp hP hS hL hnL)
        · exact hp.elim
      case iload_n k =>
        obtain ⟨rfl, hc⟩ := hok
        split at hp
        · rename_i x hx2; exact lv_iload_n hx hb hdec hc (hL.2.2 a _ hx2) (ih _ _ _ _ _ _ _ hp hP hS hL hnL)
        · exact hp.elim
      case iload k =>
        obtain ⟨rfl, rfl⟩ := hok
        split at hp
        · rename_i x hx2; exact lv_iload hx hb hdec (hL.2.2 k _ hx2) (ih _ _ _ _ _ _ _ hp hP hS hL hnL)
        · exact hp.elim
      case lload_n k =>
        obtain ⟨rfl, hc⟩ := hok
        split at hp
        · rename_i x hx2; exact lv_lload_n hx hb hdec hc (hL.2.2 a _ hx2) (ih _ _ _ _ _ _ _ hp hP hS hL hnL)
        · exact hp.elim
      case istore_n k =>
        obtain ⟨rfl, hc⟩ := hok
        split at hp
        · obtain ⟨L', hs, hp⟩ := hp
          have hs2 := ai_set_spec _ _ _ _ hs
          exact lv_istore_n hx hb hdec hc (ai_lk_has hL) hs2.2.1 rfl (fun ls' hl => ih _ _ _ _ _ _ _ hp hP hS (ai_lk_set hL hs hl) (by rw [hs2.1, hnL]))
        · exact hp.elim
      case istore k =>
        obtain ⟨rfl, rfl⟩ := hok
        split at hp
        · obtain ⟨L', hs, hp⟩ := hp
          have hs2 := ai_set_spec _ _ _ _ hs
          exact lv_istore hx hb hdec (ai_lk_has hL) hs2.2.1 rfl (fun ls' hl => ih _ _ _ _ _ _ _ hp hP hS (ai_lk_set hL hs hl) (by rw [hs2.1, hnL]))
        · exact hp.elim
      case iinc k v =>
        obtain ⟨rfl, rfl, hc⟩ := hok
        split at hp
        · rename_i x hx2
          obtain ⟨L', hs, hp⟩ := hp
          have hs2 := ai_set_spec _ _ _ _ hs
          obtain ⟨j, hj⟩ := List.getElem?_of_mem (ai_lv_mem (ad := ad) hx2)
          exact lv_iinc (v := x + cc) hx hb hdec (ai_lk_has hL) hj (by rw [hc]) hs2.2.1 rfl (fun ls' hl => ih _ _ _ _ _ _ _ hp hP hS (ai_lk_set hL hs hl) (by rw [hs2.1, hnL]))
        · exact hp.elim
      case iadd =>
        subst hok
        split at hp
        · exact lv_iadd hx hb hdec (ih _ _ _ _ _ _ _ hp hP hS hL hnL)
        · exact hp.elim
      case isub =>
        subst hok
        split at hp
        · exact lv_isub hx hb hdec (ih _ _ _ _ _ _ _ hp hP hS hL hnL)
        · exact hp.elim
      case imul =>
        subst hok
        split at hp
        · exact lv_imul hx hb hdec (ih _ _ _ _ _ _ _ hp hP hS hL hnL)
        · exact hp.elim
      case iand =>
        subst hok
        split at hp
        · exact lv_iand hx hb hdec (ih _ _ _ _ _ _ _ hp hP hS hL hnL)
        · exact hp.elim
      case ior =>
        subst hok
        split at hp
        · exact lv_ior hx hb hdec (ih _ _ _ _ _ _ _ hp hP hS hL hnL)
        · exact hp.elim
      case ishl =>
        subst hok
        split at hp
        · exact lv_ishl hx hb hdec (ih _ _ _ _ _ _ _ hp hP hS hL hnL)
        · exact hp.elim
      case ishr =>
        subst hok
        split at hp
        · exact lv_ishr hx hb hdec (ih _ _ _ _ _ _ _ hp hP hS hL hnL)
        · exact hp.elim
      case land =>
        subst hok
        split at hp
        · exact lv_land hx hb hdec (ih _ _ _ _ _ _ _ hp hP hS hL hnL)
        · exact hp.elim
      case lushr =>
        subst hok
        split at hp
        · exact lv_lushr hx hb hdec rfl (ih _ _ _ _ _ _ _ hp hP hS hL hnL)
        · exact hp.elim
      case lshr =>
        subst hok
        split at hp
        · exact lv_lshr hx hb hdec rfl (ih _ _ _ _ _ _ _ hp hP hS hL hnL)
        · exact hp.elim
      case l2i =>
        subst hok
        split at hp
        · exact lv_l2i hx hb hdec rfl (ih _ _ _ _ _ _ _ hp hP hS hL hnL)
        · exact hp.elim
      case dup =>
        subst hok
        split at hp
        · exact lv_dup hx hb hdec (by rw [ai_cv_cat]; exact hp.1) (ih _ _ _ _ _ _ _ hp.2 hP hS hL hnL)
        · exact hp.elim
      case dup2 =>
        subst hok
        split at hp
        · exact lv_dup2_11 hx hb hdec (by rw [ai_cv_cat]; exact hp.1) (by rw [ai_cv_cat]; exact hp.2.1) (ih _ _ _ _ _ _ _ hp.2.2 hP hS hL hnL)
        · exact hp.elim
      case getfield ix =>
        obtain ⟨rfl, hok⟩ := hok
        split at hp
        · rename_i k S'
          split at hp
          · rename_i ci fs hsk
            obtain ⟨rfl, hp⟩ := hp
            cases hcl : ai_cl[ci]? with
            | none => rw [hcl] at hok; exact absurd hok (by simp)
            | some q =>
              obtain ⟨C, T, N⟩ := q
              rw [hcl] at hok
              simp only [Bool.and_eq_true, Bool.or_eq_true, decide_eq_true_eq] at hok
              obtain ⟨ty0, t1, t2, t3⟩ := ai_cls ci _ hcl
              obtain ⟨hbN, hlk⟩ := hok
              have hin2 : ∀ w ∈ u_ws C T N, w ∈ Ts := fun w hw => hin w (ai_tb_in (t3 w hw).1 (t3 w hw).2)
              have key : ∀ v : Value, (fs.mapIdx (ai_fv ad h k))[b]? = some v → W p l e R s m args below meth c H locs cells slots (MQ below Qc args s cells slots free) (F0 m (pc + 3) ls (v :: S'.map (ai_cv ad))) → W p l e R s m args below meth c H locs cells slots (MQ below Qc args s cells slots free) (F0 m pc ls ((Value.ref k :: S').map (ai_cv ad))) := by
                intro v hv kk
                rcases hlk with hlk | hlk
                · exact va_get hx hb hts hin2 hown hK hP k (ai_ws_at hsk) hcl b hbN (hts _ (hin _ (ai_tb_at hlk rfl))) (fun _ h9 => h9) hv hdec kk
                · exact va_getN hx hb hts hin2 hown hK hP k (ai_ws_at hsk) hcl b hbN (va_Nw.use rfl (hN _ (List.mem_of_getElem? hlk) rfl)) (fun _ h9 => h9) hv hdec kk
              split at hp
              · rename_i hf
                exact key (.int (h k b)) (by simp [List.getElem?_mapIdx, hf, ai_fv]) (ih _ _ _ _ _ _ _ hp hP hS hL hnL)
              · rename_i k2 hf
                exact key (.ref (ad k2)) (by simp [List.getElem?_mapIdx, hf, ai_fv]) (ih _ _ _ _ _ _ _ hp hP hS hL hnL)
              · exact hp.elim
          · exact hp.elim
        · exact hp.elim
      case putfield ix =>
        obtain ⟨rfl, hok⟩ := hok
        split at hp
        · rename_i x k S'
          obtain ⟨⟨fs, hsk, hf⟩, hcx, hp⟩ := hp
          cases hcl : ai_cl[a]? with
          | none => rw [hcl] at hok; exact absurd hok (by simp)
          | some q =>
            obtain ⟨C, T, N⟩ := q
            rw [hcl] at hok
            simp only [Bool.and_eq_true, decide_eq_true_eq] at hok
            obtain ⟨ty0, t1, t2, t3⟩ := ai_cls a _ hcl
            obtain ⟨hbN, hlk, hfin, hty⟩ := hok
            have hin2 : ∀ w ∈ u_ws C T N, w ∈ Ts := fun w hw => hin w (ai_tb_in (t3 w hw).1 (t3 w hw).2)
            have hnf : narrow (if cc = 0 then FieldType.int else .boolean) (.int x) = .int x ∧ fits (if cc = 0 then FieldType.int else .boolean) (.int x) = true := by
              by_cases hc0 : cc = 0
              · rw [if_pos hc0]; exact ⟨rfl, rfl⟩
              · rw [if_neg hc0]
                have := ai_nar0 (x := x) (hcx.resolve_left hc0)
                exact ⟨this.1, this.2.1⟩
            refine va_put (v := .int x) hx hb hts hin2 ty0 t1 t2 hown hK hP hD hS k (ai_ws_at hsk) hcl b hbN (hts _ (hin _ (ai_tb_at hlk rfl))) (fun _ h9 => h9) hfin hty hnf.1 hnf.2 (by rw [List.length_mapIdx]; exact (List.getElem?_eq_some_iff.mp hf).1) hdec (fun H1 locs1 hP1 _ hS1 => ?_)
            rw [ai_set_obj hsk hf] at hP1
            exact ih _ _ _ _ _ _ _ hp hP1 hS1 hL hnL
        · exact hp.elim
      case iaload =>
        subst hok
        split at hp
        · rename_i j k S'
          obtain ⟨N, hsk, hi, hp⟩ := hp
          exact va_iald hx hb hK hP k 0 (ai_ws_at hsk) rfl hi hdec (ih _ _ _ _ _ _ _ hp hP hS hL hnL)
        · exact hp.elim
      case baload =>
        subst hok
        split at hp
        · rename_i j k S'
          obtain ⟨N, hsk, hi, hp⟩ := hp
          exact va_zald hx hb hK hP k 1 (ai_ws_at hsk) rfl hi hdec (ih _ _ _ _ _ _ _ hp hP hS hL hnL)
        · exact hp.elim
      case iastore =>
        subst hok
        split at hp
        · rename_i x j k S'
          obtain ⟨N, hsk, hi, hp⟩ := hp
          refine va_iast hx hb hK hP hD hS k 0 (ai_ws_at hsk) rfl hi hdec (fun H1 locs1 hP1 _ hS1 => ?_)
          rw [ai_set_arr hsk] at hP1
          exact ih _ _ _ _ _ _ _ hp hP1 hS1 hL hnL
        · exact hp.elim
      case bastore =>
        subst hok
        split at hp
        · rename_i x j k S'
          obtain ⟨N, hsk, hi, hx01, hp⟩ := hp
          refine va_zast hx hb hK hP hD hS k 1 (ai_ws_at hsk) rfl hi hdec (fun H1 locs1 hP1 _ hS1 => ?_)
          rw [(ai_nar0 hx01).2.2, ai_set_arr hsk] at hP1
          exact ih _ _ _ _ _ _ _ hp hP1 hS1 hL hnL
        · exact hp.elim
      case if_icmp k off =>
        obtain ⟨rfl, hc⟩ := hok
        split at hp
        · rename_i y x S'
          cases k
          · exact lv_icmp_eq hx hb hdec hc (fun q => ih _ _ _ _ _ _ _ (hp.resolve_right (fun z => z.1 q)).2 hP hS hL hnL) (fun q => ih _ _ _ _ _ _ _ (hp.resolve_left (fun z => q z.1)).2 hP hS hL hnL)
          · exact lv_icmp_ne hx hb hdec hc (fun q => ih _ _ _ _ _ _ _ (hp.resolve_right (fun z => z.1 q)).2 hP hS hL hnL) (fun q => ih _ _ _ _ _ _ _ (hp.resolve_left (fun z => z.1 q)).2 hP hS hL hnL)
          · exact lv_icmp_lt hx hb hdec hc (fun q => ih _ _ _ _ _ _ _ (hp.resolve_right (fun z => z.1 q)).2 hP hS hL hnL) (fun q => ih _ _ _ _ _ _ _ (hp.resolve_left (fun z => q z.1)).2 hP hS hL hnL)
          · exact lv_icmp_ge hx hb hdec hc (fun q => ih _ _ _ _ _ _ _ (hp.resolve_right (fun z => z.1 q)).2 hP hS hL hnL) (fun q => ih _ _ _ _ _ _ _ (hp.resolve_left (fun z => q z.1)).2 hP hS hL hnL)
          · exact lv_icmp_gt hx hb hdec hc (fun q => ih _ _ _ _ _ _ _ (hp.resolve_right (fun z => z.1 q)).2 hP hS hL hnL) (fun q => ih _ _ _ _ _ _ _ (hp.resolve_left (fun z => q z.1)).2 hP hS hL hnL)
          · exact lv_icmp_le hx hb hdec hc (fun q => ih _ _ _ _ _ _ _ (hp.resolve_right (fun z => z.1 q)).2 hP hS hL hnL) (fun q => ih _ _ _ _ _ _ _ (hp.resolve_left (fun z => q z.1)).2 hP hS hL hnL)
        · exact hp.elim
      case ifCond k off =>
        obtain ⟨rfl, hc⟩ := hok
        split at hp
        · rename_i x S'
          cases k
          · exact lv_if_eq hx hb hdec hc (fun q => ih _ _ _ _ _ _ _ (hp.resolve_right (fun z => z.1 q)).2 hP hS hL hnL) (fun q => ih _ _ _ _ _ _ _ (hp.resolve_left (fun z => q z.1)).2 hP hS hL hnL)
          · exact lv_if_ne hx hb hdec hc (fun q => ih _ _ _ _ _ _ _ (hp.resolve_right (fun z => z.1 q)).2 hP hS hL hnL) (fun q => ih _ _ _ _ _ _ _ (hp.resolve_left (fun z => z.1 q)).2 hP hS hL hnL)
          · exact lv_if_lt hx hb hdec hc (fun q => ih _ _ _ _ _ _ _ (hp.resolve_right (fun z => z.1 q)).2 hP hS hL hnL) (fun q => ih _ _ _ _ _ _ _ (hp.resolve_left (fun z => q z.1)).2 hP hS hL hnL)
          · exact lv_if_ge hx hb hdec hc (fun q => ih _ _ _ _ _ _ _ (hp.resolve_right (fun z => z.1 q)).2 hP hS hL hnL) (fun q => ih _ _ _ _ _ _ _ (hp.resolve_left (fun z => q z.1)).2 hP hS hL hnL)
          · exact lv_if_gt hx hb hdec hc (fun q => ih _ _ _ _ _ _ _ (hp.resolve_right (fun z => z.1 q)).2 hP hS hL hnL) (fun q => ih _ _ _ _ _ _ _ (hp.resolve_left (fun z => q z.1)).2 hP hS hL hnL)
          · exact lv_if_le hx hb hdec hc (fun q => ih _ _ _ _ _ _ _ (hp.resolve_right (fun z => z.1 q)).2 hP hS hL hnL) (fun q => ih _ _ _ _ _ _ _ (hp.resolve_left (fun z => q z.1)).2 hP hS hL hnL)
        · exact hp.elim
      case goto off => obtain ⟨rfl, hc⟩ := hok; exact lv_goto hx hb hdec hc (ih _ _ _ _ _ _ _ hp hP hS hL hnL)
      case tableswitch df lo hi offs =>
        split at hp
        · rename_i x S'
          rcases hp with ⟨h1, t, h2, hp⟩ | ⟨h1, h2, off, t, h3, h4, hp⟩
          · exact lv_tableOut hx hb hdec h1 h2 (ih _ _ _ _ _ _ _ hp hP hS hL hnL)
          · exact lv_tableIn hx hb hdec h1 h2 h3 h4 (ih _ _ _ _ _ _ _ hp hP hS hL hnL)
        · exact hp.elim
      case invokevirtual ix =>
        obtain ⟨rfl, hok⟩ := hok
        obtain ⟨As, k, rest, fs, v, h2, rfl, hlen, hsk, hrest, hcall, hp⟩ := hp
        cases hmq : mt a with
        | none => rw [hmq] at hok; exact absurd hok (by simp)
        | some q =>
          obtain ⟨y, yb, yn, yt, ci, st, na⟩ := q
          rw [hmq] at hok
          obtain ⟨hm1, hm2, hm3⟩ := hmt a _ hmq
          simp only [ai_mokP] at hm1
          simp only [Bool.and_eq_true, Bool.or_eq_true, decide_eq_true_eq] at hok
          obtain ⟨rfl, rfl, hlk⟩ := hok
          obtain ⟨w1, w2, w3, w4, w5, w6, w7, w8⟩ := hm1
          simp only [Bool.false_eq_true, if_false] at w8
          obtain ⟨w8, w9, w10⟩ := w8
          have hmet := hM a _ hmq _ _ _ _ hcall
          dsimp only at hmet
          have hG : ∀ w ∈ (Cond.code y yb yn yt :: ai_tb), w ∈ ai_tb := fun w hw => (List.mem_cons.mp hw).elim (fun e => e ▸ ai_tb_in w1 rfl) (fun e => e)
          have hci : ∃ T N, ai_cl[ci]? = some (y.cls, T, N) := by
            cases hz : ai_cl[ci]? with
            | none => rw [hz] at w10; cases w10
            | some q => obtain ⟨C, T, N⟩ := q; rw [hz] at w10; cases w10; exact ⟨T, N, rfl⟩
          obtain ⟨T, N, hci⟩ := hci
          have hm4 : mci a = ci := hm3
          rw [hm4] at hsk
          have hpre : PreV s H y.cls (ad k) (ai_Pc D cA ad sh (.ref k :: As) h) (As.map (ai_cv ad)) :=
            ⟨ai_blind D cA ad sh _ h, va_recv hK hP hci (ai_ws_at hsk), fun U hU hW => ⟨rfl, by rw [hU]; exact hP, va_K.moved hW.alike hK, ai_N_warm hW hN⟩⟩
          have hroom : (ai_rm d).frames + 1 ≤ R.frames ∧ 8 + (yn + 11) + (ai_rm d).locals ≤ R.locals := ⟨hfr, by show 8 + (yn + 11) + 50 * d ≤ _; omega⟩
          have hst2 : (F0 m pc ls ((As.reverse ++ Value.ref k :: rest).map (ai_cv ad))).stack = (As.map (ai_cv ad)).reverse ++ Value.ref (ad k) :: rest.map (ai_cv ad) := by
            simp [ai_cv, List.map_reverse]
          have hrest2 : 2 * (F0 m pc ls ((As.reverse ++ Value.ref k :: rest).map (ai_cv ad))).monitorRoom + ((rest.map (ai_cv ad)).map fun v => v.category).sum ≤ 8 := by
            apply lv_room
            rw [List.map_map]
            have : ((fun v : Value => v.category) ∘ ai_cv ad) = fun v => v.category := by funext v; exact ai_cv_cat ad v
            rw [this]; exact hrest
          have hrun : va_Run p l e R s m args below meth c H locs cells slots 0 0 (F0 m pc ls ((As.reverse ++ Value.ref k :: rest).map (ai_cv ad))) (rest.map (ai_cv ad)) (ai_Qc D cA ad sh v h2 (Value.ref (ad k) :: As.map (ai_cv ad)).toArray) (ai_A ad sh) := by
            rcases hlk with hlk | hlk
            · refine va_runV (n := na) (C := y.cls) (bytes := yb) (maxL := yn) (ret := yt) (index := ix) (own := own) (Ts := Ts) ⟨hx, hb, hml, hown, hts⟩ hmet ?_ hpre rfl (by rw [List.length_map]; exact hlen) hsz hst2 hrest2 hdec ⟨hce, hsl⟩
              exact cwV na hts (ai_good (fun w hw => by
                rcases List.mem_append.mp hw with q | q
                · rcases List.mem_cons.mp q with rfl | q
                  · exact ai_tb_at hlk rfl
                  rcases List.mem_cons.mp q with rfl | q
                  · exact ai_tb_in w8 rfl
                  rcases List.mem_cons.mp q with rfl | q
                  · exact ai_tb_in w9 rfl
                  rcases List.mem_cons.mp q with rfl | q
                  · exact ai_tb_in w2 rfl
                  cases q
                · exact hG w q) hin) rfl rfl rfl ⟨rfl, w4, w5, w7⟩ hroom
            · refine va_runVN (n := na) (C := y.cls) (bytes := yb) (maxL := yn) (ret := yt) (index := ix) (own := own) (host := RX7) (Ts := Ts) ⟨hx, hb, hml, hown, hts⟩ hmet ?_ hpre rfl (by rw [List.length_map]; exact hlen) hsz hst2 hrest2 hdec ⟨hce, hsl⟩
              exact ⟨va_cnB na hts (ai_good hG hin) rfl rfl rfl (hN _ (List.mem_of_getElem? hlk) rfl) (hts _ (hin _ (ai_tb_in w2 rfl))) ⟨w4, w5, w7⟩ hroom, hts _ (hin _ (ai_tb_in w8 rfl)), hts _ (hin _ (ai_tb_in w9 rfl))⟩
          refine ai_call hrun hS (fun q hq => by obtain ⟨k9, h9, rfl⟩ := hq; exact hAd k9 h9) (fun H1 locs1 hP1 hS1 => ?_)
          have := ih _ _ _ _ _ _ _ hp hP1 hS1 hL hnL
          rw [List.map_append] at this
          cases v <;> exact this
      case invokestatic ix =>
        obtain ⟨rfl, hok⟩ := hok
        by_cases h1 : a = 1001
        · rw [if_pos h1] at hp hok
          simp only [decide_eq_true_eq] at hok
          split at hp
          · rename_i y x S'
            have hs8 : ((S'.map (ai_cv ad)).map fun v => v.category).sum ≤ 8 := by
              rw [List.map_map]
              have : ((fun v : Value => v.category) ∘ ai_cv ad) = fun v => v.category := by funext v; exact ai_cv_cat ad v
              rw [this]; exact hp.1
            exact va_mmin hx hb (hml.trans hsz.symm) hown (hts _ (hin _ (ai_tb_at hok rfl))) (hts _ (hin _ (ai_tb_in ai_wmin.1 rfl))) (hts _ (hin _ (ai_tb_in ai_wmin.2.1 rfl))) (hts _ (hin _ (ai_tb_in ai_wmin.2.2 rfl))) (by omega) (by omega) hce hsl hdec (ih _ _ _ _ _ _ _ hp.2 hP hS hL hnL)
          · exact hp.elim
        · rw [if_neg h1] at hp hok
          by_cases h2 : a = 1002
          · rw [if_pos h2] at hp hok
            simp only [decide_eq_true_eq] at hok
            split at hp
            · rename_i y x S'
              have hs8 : ((S'.map (ai_cv ad)).map fun v => v.category).sum ≤ 8 := by
                rw [List.map_map]
                have : ((fun v : Value => v.category) ∘ ai_cv ad) = fun v => v.category := by funext v; exact ai_cv_cat ad v
                rw [this]; exact hp.1
              exact va_mmax hx hb (hml.trans hsz.symm) hown (hts _ (hin _ (ai_tb_at hok rfl))) (hts _ (hin _ (ai_tb_in ai_wmax.1 rfl))) (hts _ (hin _ (ai_tb_in ai_wmax.2.1 rfl))) (hts _ (hin _ (ai_tb_in ai_wmax.2.2 rfl))) (by omega) (by omega) hce hsl hdec (ih _ _ _ _ _ _ _ hp.2 hP hS hL hnL)
            · exact hp.elim
          · rw [if_neg h2] at hp hok
            by_cases h3 : a = 1003
            · rw [if_pos h3] at hp hok
              simp only [decide_eq_true_eq] at hok
              split at hp
              · rename_i mm dp k1 sp k0 S'
                obtain ⟨N0, N1, e0, e1, c1, c2, c3, c4, c5, c6, hp⟩ := hp
                have hs8 : ((S'.map (ai_cv ad)).map fun v => v.category).sum ≤ 8 := by
                  rw [List.map_map]
                  have : ((fun v : Value => v.category) ∘ ai_cv ad) = fun v => v.category := by funext v; exact ai_cv_cat ad v
                  rw [this]; exact c6
                have hnw : nativeFrameWords "java/lang/System" "arraycopy" 5 + 11 ≤ 42 := by decide +kernel
                refine va_copyi (ty := .int) hx hb (hml.trans hsz.symm) hown (hts _ (hin _ (ai_tb_at hok rfl))) (hts _ (hin _ (ai_tb_in ai_wcpy.2.2 rfl))) (hts _ (hin _ (ai_tb_in ai_wcpy.1 rfl))) (hts _ (hin _ (ai_tb_in ai_wcpy.2.1 rfl))) hK hP hD hS k0 k1 0 0 (ai_ws_at e0) (ai_ws_at e1) rfl rfl rfl c1 c2 c3 c4 c5 (fun i _ => rfl) (by omega) (by omega) hdec (fun H1 locs1 hP1 _ hS1 => ?_)
                rw [ai_set_cpy e1] at hP1
                exact ih _ _ _ _ _ _ _ hp hP1 hS1 hL hnL
              · exact hp.elim
            · rw [if_neg h3] at hp hok
              obtain ⟨As, rest, v, h2, rfl, hlen, hrest, hcall, hp⟩ := hp
              cases hmq : mt a with
              | none => rw [hmq] at hok; exact absurd hok (by simp)
              | some q =>
                obtain ⟨y, yb, yn, yt, ci, st, na⟩ := q
                rw [hmq] at hok
                obtain ⟨hm1, hm2, hm3⟩ := hmt a _ hmq
                simp only [ai_mokP] at hm1
                simp only [Bool.and_eq_true, Bool.or_eq_true, decide_eq_true_eq] at hok
                obtain ⟨rfl, rfl, hlk⟩ := hok
                obtain ⟨w1, w2, w3, w4, w5, w6, w7, w8⟩ := hm1
                simp only [if_true] at w8
                have hmet := hM a _ hmq _ _ _ _ hcall
                dsimp only at hmet
                have hG : ∀ w ∈ (Cond.code y yb yn yt :: ai_tb), w ∈ ai_tb := fun w hw => (List.mem_cons.mp hw).elim (fun e => e ▸ ai_tb_in w1 rfl) (fun e => e)
                have hpre : PreS s H (ai_Pc D cA ad sh As h) (As.map (ai_cv ad)) :=
                  ⟨ai_blind D cA ad sh _ h, fun U hU hW => ⟨rfl, by rw [hU]; exact hP, va_K.moved hW.alike hK, ai_N_warm hW hN⟩⟩
                have hroom : (ai_rm d).frames + 1 ≤ R.frames ∧ 8 + (yn + 11) + (ai_rm d).locals ≤ R.locals := ⟨hfr, by show 8 + (yn + 11) + 50 * d ≤ _; omega⟩
                have hst2 : (F0 m pc ls ((As.reverse ++ rest).map (ai_cv ad))).stack = (As.map (ai_cv ad)).reverse ++ rest.map (ai_cv ad) := by
                  simp [List.map_reverse]
                have hrest2 : 2 * (F0 m pc ls ((As.reverse ++ rest).map (ai_cv ad))).monitorRoom + ((rest.map (ai_cv ad)).map fun v => v.category).sum ≤ 8 := by
                  apply lv_room
                  rw [List.map_map]
                  have : ((fun v : Value => v.category) ∘ ai_cv ad) = fun v => v.category := by funext v; exact ai_cv_cat ad v
                  rw [this]; exact hrest
                have hrun : va_Run p l e R s m args below meth c H locs cells slots 0 0 (F0 m pc ls ((As.reverse ++ rest).map (ai_cv ad))) (rest.map (ai_cv ad)) (ai_Qc D cA ad sh v h2 (As.map (ai_cv ad)).toArray) (ai_A ad sh) := by
                  rcases hlk with ⟨hyo, hlk⟩ | hlk
                  · refine va_runS (n := na) (bytes := yb) (maxL := yn) (ret := yt) (index := ix) (own := own) (Ts := Ts) ⟨hx, hb, hml, hown, hts⟩ hmet ?_ hpre rfl (by rw [List.length_map]; exact hlen) hsz hst2 hrest2 hdec ⟨hce, hsl⟩
                    exact cwS na hts (ai_good (fun w hw => by
                      rcases List.mem_append.mp hw with q | q
                      · rcases List.mem_cons.mp q with rfl | q
                        · exact ai_tb_at hlk rfl
                        rcases List.mem_cons.mp q with rfl | q
                        · exact ai_tb_in w8 rfl
                        rcases List.mem_cons.mp q with rfl | q
                        · rw [← hyo]; exact ai_tb_in w2 rfl
                        cases q
                      · exact hG w q) hin) rfl rfl rfl ⟨hyo, w4, w5, w7⟩ hroom
                  · refine va_runSN (n := na) (bytes := yb) (maxL := yn) (ret := yt) (index := ix) (own := own) (host := RX7) (Ts := Ts) ⟨hx, hb, hml, hown, hts⟩ hmet ?_ hpre rfl (by rw [List.length_map]; exact hlen) hsz hst2 hrest2 hdec ⟨hce, hsl⟩
                    exact ⟨va_cnB na hts (ai_good hG hin) rfl rfl rfl (hN _ (List.mem_of_getElem? hlk) rfl) (hts _ (hin _ (ai_tb_in w2 rfl))) ⟨w4, w5, w7⟩ hroom, hts _ (hin _ (ai_tb_in w8 rfl)), trivial⟩
                refine ai_call hrun hS (fun q hq => by obtain ⟨k9, h9, rfl⟩ := hq; exact hAd k9 h9) (fun H1 locs1 hP1 hS1 => ?_)
                have := ih _ _ _ _ _ _ _ hp hP1 hS1 hL hnL
                rw [List.map_append] at this
                cases v <;> exact this
      case ireturn =>
        obtain ⟨rfl, hok⟩ := hok
        split at hp
        · rename_i x
          obtain ⟨hbx, hQ⟩ := hp
          rcases hok with ⟨hrt, rfl⟩ | ⟨hrt, rfl⟩
          · exact W.iret hx hb (hr.trans hrt) (fun t ht hW => hq _ _ _ _ t hQ hP hS ht hW) (fun q hq => hfree _ (hS.2.2 q hq)) hdec hlocks
          · exact W.zret hx hb (hr.trans hrt) (ai_nar0 (hbx.resolve_left (by decide))).1 (fun t ht hW => hq _ _ _ _ t hQ hP hS ht hW) (fun q hq => hfree _ (hS.2.2 q hq)) hdec hlocks
        · exact hp.elim
      case return_ =>
        obtain ⟨rfl, hrt⟩ := hok
        split at hp
        · exact W.vret hx hb (hr.trans hrt) (fun t ht hW => hq _ _ _ _ t hp hP hS ht hW) (fun q hq => hfree _ (hS.2.2 q hq)) hdec hlocks
        · exact hp.elim
/-- every call of the small machine is a contract of the machine -/
theorem ai_sound (l : Launch) {sh : ai_Sh} {cA : Bool → ClassId} {ad : Nat → Nat} {D : va_G} {mci ml : Nat → Nat} {cd : Nat → Nat → Option ai_I} {mt : Nat → Option ai_Mt}
    (hdist : ∀ i j, i < sh.length → j < sh.length → ad i = ad j → i = j)
    (hck : ∀ i q, mt i = some q → ∀ pc r, cd i pc = some r → ai_okb mt q.1.cls q.2.1 q.2.2.2.1 pc r = true)
    (hmt : ∀ i q, mt i = some q → ai_mokP q ∧ ml i = q.2.2.1 ∧ mci i = q.2.2.2.2.1) :
    ∀ (d i : Nat) (q : ai_Mt), mt i = some q → ∀ as h r h2, ai_C sh mci ml cd d i as h r h2 → Met l q.1 (.code q.1 q.2.1 q.2.2.1 q.2.2.2.1 :: ai_tb) (ai_rm d) (ai_Pc D cA ad sh as h) (ai_Qc D cA ad sh r h2) 0 0 (ai_A ad sh) := by
  intro d
  induction d with
  | zero => intro i q _ as h r h2 hC; exact (show False from hC).elim
  | succ d ih =>
    intro i q hq as h r h2 hC
    obtain ⟨hlen, n, hp⟩ := hC
    obtain ⟨hm1, hm2, hm3⟩ := hmt i q hq
    have hck1 := hck i q hq
    obtain ⟨y, b, nl, rt, ci, st, na⟩ := q
    dsimp only at hm2 hm3 hck1 ⊢
    simp only [ai_mokP] at hm1
    refine Met.ofW (cc := b) (maxL := nl) (ret := rt) hm1.2.2.1 rfl ?_
    intro p e s m args below meth c s₁ B hml hv
    obtain ⟨rfl, hP, hK, hN⟩ := hv
    have hts := atoms_spec (ws := Cond.code y b nl rt :: ai_tb) B.pre
    have hown : s.vm.findClass y.cls = some m.cls := findClass_of_methodNamed B.named
    rw [lg_entry_eq]
    rw [hm2] at hlen hp
    exact ai_walk (Q := fun r' h' => r' = r ∧ h' = h2) B.exec B.bytes hml hown hts (fun w hw => List.mem_cons_of_mem _ hw) hN hK hdist (fun k hk => ⟨k, hk, rfl⟩) B.returns B.notSynchronized hck1 hmt (Nat.le_refl _) (by show 50 * d + 50 ≤ 50 * (d + 1); omega) (Nat.zero_le _) (Nat.zero_le _) (fun i q hi as h r h2 hC => ih i q hi as h r h2 hC)
      (fun r' h' H locs t hQ hP hS ht hW => by
        obtain ⟨rfl, rfl⟩ := hQ
        exact ⟨rfl, by rw [ht]; exact hP, hS.F ht⟩) (fun q hq => hq) n 0 _ [] h s.heap [] _ hp hP va_S.rf (ai_lk_ent ad as nl hlen) hlen
end
section
def ai_lu : List (Nat × ai_I) → Nat → Option ai_I
  | [], _ => none
  | (k, q) :: t, pc => bif Nat.beq k pc then some q else ai_lu t pc
theorem ai_lu_mem : ∀ (t : List (Nat × ai_I)) (pc : Nat) (q : ai_I), ai_lu t pc = some q → (pc, q) ∈ t
  | [], _, _, h => by cases h
  | (k, q0) :: t, pc, q, h => by
    unfold ai_lu at h
    cases hb : Nat.beq k pc with
    | true =>
      rw [hb] at h
      have e : q0 = q := by simpa using h
      have e2 : k = pc := Nat.eq_of_beq_eq_true hb
      rw [e, e2]
      exact List.mem_cons_self
    | false =>
      rw [hb] at h
      exact List.mem_cons_of_mem _ (ai_lu_mem t pc q (by simpa using h))
/-- all rows of all methods are as they must be -/
def ai_all (mt : Nat → Option ai_Mt) : List ai_Mt → List (List (Nat × ai_I)) → Prop
  | [], [] => True
  | q :: qs, t :: ts => (t.all (fun e => ai_okb mt q.1.cls q.2.1 q.2.2.2.1 e.1 e.2) = true) ∧ ai_all mt qs ts
  | _, _ => False
theorem ai_all_at {mt : Nat → Option ai_Mt} : ∀ (qs : List ai_Mt) (ts : List (List (Nat × ai_I))), ai_all mt qs ts → ∀ i q, qs[i]? = some q → ∀ pc r, ai_lu (ts.getD i []) pc = some r → ai_okb mt q.1.cls q.2.1 q.2.2.2.1 pc r = true
  | [], _, _, i, q, h, _, _, _ => by simp at h
  | q0 :: qs, [], h, i, q, _, _, _, _ => by simp [ai_all] at h
  | q0 :: qs, t :: ts, h, 0, q, hq, pc, r, hl => by
    cases hq
    exact List.all_eq_true.mp h.1 (pc, r) (ai_lu_mem t pc r hl)
  | q0 :: qs, t :: ts, h, i + 1, q, hq, pc, r, hl => ai_all_at qs ts h.2 i q (by simpa using hq) pc r (by simpa using hl)
section AIX
variable {sh : ai_Sh} {mci : Nat → Nat} {cl : Nat → List Value → ai_H → Option Value → ai_H → Prop} {cd : Nat → Option ai_I} {Q : Option Value → ai_H → Prop}
set_option maxHeartbeats 1000000 in
theorem ai_P_ex : ∀ (n pc : Nat) (L : ai_Lc) (S : List Value) (h : ai_H), ai_P sh mci cl cd Q n pc L S h → ∃ r h2, Q r h2 ∧ ai_P sh mci cl cd (fun r' h' => r' = r ∧ h' = h2) n pc L S h := by
  intro n
  induction n with
  | zero => intro pc L S h hp; exact (show False from hp).elim
  | succ n ih =>
    intro pc L S h hp
    cases hcd : cd pc with
    | none => simp only [ai_P, hcd] at hp
    | some q =>
      obtain ⟨i, len, a, b, w, cc⟩ := q
      simp only [ai_P, hcd] at hp ⊢
      cases i
      all_goals (try exact (show False from hp).elim)
      all_goals dsimp only at hp ⊢
      case iconst v => exact ih _ _ _ _ hp
      case bipush v => exact ih _ _ _ _ hp
      case sipush v => exact ih _ _ _ _ hp
      case ldc2_w v => exact ih _ _ _ _ hp
      case goto v => exact ih _ _ _ _ hp
      case aload_n k => split at hp <;> first | exact hp.elim | exact ih _ _ _ _ hp
      case aload k => split at hp <;> first | exact hp.elim | exact ih _ _ _ _ hp
      case iload_n k => split at hp <;> first | exact hp.elim | exact ih _ _ _ _ hp
      case iload k => split at hp <;> first | exact hp.elim | exact ih _ _ _ _ hp
      case lload_n k => split at hp <;> first | exact hp.elim | exact ih _ _ _ _ hp
      case istore_n k => split at hp <;> first | exact hp.elim | (obtain ⟨L', e, hp⟩ := hp; obtain ⟨r, h2, q, z⟩ := ih _ _ _ _ hp; exact ⟨r, h2, q, L', e, z⟩)
      case istore k => split at hp <;> first | exact hp.elim | (obtain ⟨L', e, hp⟩ := hp; obtain ⟨r, h2, q, z⟩ := ih _ _ _ _ hp; exact ⟨r, h2, q, L', e, z⟩)
      case iinc k v => split at hp <;> first | exact hp.elim | (obtain ⟨L', e, hp⟩ := hp; obtain ⟨r, h2, q, z⟩ := ih _ _ _ _ hp; exact ⟨r, h2, q, L', e, z⟩)
      case iadd => split at hp <;> first | exact hp.elim | exact ih _ _ _ _ hp
      case isub => split at hp <;> first | exact hp.elim | exact ih _ _ _ _ hp
      case imul => split at hp <;> first | exact hp.elim | exact ih _ _ _ _ hp
      case iand => split at hp <;> first | exact hp.elim | exact ih _ _ _ _ hp
      case ior => split at hp <;> first | exact hp.elim | exact ih _ _ _ _ hp
      case ishl => split at hp <;> first | exact hp.elim | exact ih _ _ _ _ hp
      case ishr => split at hp <;> first | exact hp.elim | exact ih _ _ _ _ hp
      case land => split at hp <;> first | exact hp.elim | exact ih _ _ _ _ hp
      case lushr => split at hp <;> first | exact hp.elim | exact ih _ _ _ _ hp
      case lshr => split at hp <;> first | exact hp.elim | exact ih _ _ _ _ hp
      case l2i => split at hp <;> first | exact hp.elim | exact ih _ _ _ _ hp
      case dup => split at hp <;> first | exact hp.elim | (obtain ⟨r, h2, q, z⟩ := ih _ _ _ _ hp.2; exact ⟨r, h2, q, hp.1, z⟩)
      case dup2 => split at hp <;> first | exact hp.elim | (obtain ⟨r, h2, q, z⟩ := ih _ _ _ _ hp.2.2; exact ⟨r, h2, q, hp.1, hp.2.1, z⟩)
      case getfield ix =>
        split at hp
        · rename_i k S'
          cases hs : sh[k]? with
          | none => rw [hs] at hp; exact hp.elim
          | some c =>
            rw [hs] at hp
            cases c with
            | inl _ => exact hp.elim
            | inr q =>
              obtain ⟨ci, fs⟩ := q
              obtain ⟨e, hp⟩ := hp
              cases hf : fs[b]? with
              | none => rw [hf] at hp; exact hp.elim
              | some o =>
                rw [hf] at hp
                cases o with
                | none => obtain ⟨r, h2, q, z⟩ := ih _ _ _ _ hp; exact ⟨r, h2, q, by dsimp only; rw [hf]; exact ⟨e, z⟩⟩
                | some k2 => obtain ⟨r, h2, q, z⟩ := ih _ _ _ _ hp; exact ⟨r, h2, q, by dsimp only; rw [hf]; exact ⟨e, z⟩⟩
        · exact hp.elim
      case putfield ix => split at hp <;> first | exact hp.elim | (obtain ⟨e1, e2, hp⟩ := hp; obtain ⟨r, h2, q, z⟩ := ih _ _ _ _ hp; exact ⟨r, h2, q, e1, e2, z⟩)
      case iaload => split at hp <;> first | exact hp.elim | (obtain ⟨N, e1, e2, hp⟩ := hp; obtain ⟨r, h2, q, z⟩ := ih _ _ _ _ hp; exact ⟨r, h2, q, N, e1, e2, z⟩)
      case baload => split at hp <;> first | exact hp.elim | (obtain ⟨N, e1, e2, hp⟩ := hp; obtain ⟨r, h2, q, z⟩ := ih _ _ _ _ hp; exact ⟨r, h2, q, N, e1, e2, z⟩)
      case iastore => split at hp <;> first | exact hp.elim | (obtain ⟨N, e1, e2, hp⟩ := hp; obtain ⟨r, h2, q, z⟩ := ih _ _ _ _ hp; exact ⟨r, h2, q, N, e1, e2, z⟩)
      case bastore => split at hp <;> first | exact hp.elim | (obtain ⟨N, e1, e2, e3, hp⟩ := hp; obtain ⟨r, h2, q, z⟩ := ih _ _ _ _ hp; exact ⟨r, h2, q, N, e1, e2, e3, z⟩)
      case if_icmp k off =>
        split at hp
        · rcases hp with ⟨e, hp⟩ | ⟨e, hp⟩
          · obtain ⟨r, h2, q, z⟩ := ih _ _ _ _ hp; exact ⟨r, h2, q, Or.inl ⟨e, z⟩⟩
          · obtain ⟨r, h2, q, z⟩ := ih _ _ _ _ hp; exact ⟨r, h2, q, Or.inr ⟨e, z⟩⟩
        · exact hp.elim
      case ifCond k off =>
        split at hp
        · rcases hp with ⟨e, hp⟩ | ⟨e, hp⟩
          · obtain ⟨r, h2, q, z⟩ := ih _ _ _ _ hp; exact ⟨r, h2, q, Or.inl ⟨e, z⟩⟩
          · obtain ⟨r, h2, q, z⟩ := ih _ _ _ _ hp; exact ⟨r, h2, q, Or.inr ⟨e, z⟩⟩
        · exact hp.elim
      case tableswitch df lo hi offs =>
        split at hp
        · rcases hp with ⟨h1, t, h2, hp⟩ | ⟨h1, h2, off, t, h3, h4, hp⟩
          · obtain ⟨r, h2', q, z⟩ := ih _ _ _ _ hp; exact ⟨r, h2', q, Or.inl ⟨h1, t, h2, z⟩⟩
          · obtain ⟨r, h2', q, z⟩ := ih _ _ _ _ hp; exact ⟨r, h2', q, Or.inr ⟨h1, h2, off, t, h3, h4, z⟩⟩
        · exact hp.elim
      case invokevirtual ix =>
        obtain ⟨As, k, rest, fs, v, h2, e1, e2, e3, e4, e5, hp⟩ := hp
        obtain ⟨r, h2', q, z⟩ := ih _ _ _ _ hp
        exact ⟨r, h2', q, As, k, rest, fs, v, h2, e1, e2, e3, e4, e5, z⟩
      case invokestatic ix =>
        by_cases h1 : a = 1001
        · simp only [if_pos h1] at hp ⊢
          split at hp <;> first | exact hp.elim | (obtain ⟨r, h2, q, z⟩ := ih _ _ _ _ hp.2; exact ⟨r, h2, q, hp.1, z⟩)
        · by_cases h2 : a = 1002
          · simp only [if_neg h1, if_pos h2] at hp ⊢
            split at hp <;> first | exact hp.elim | (obtain ⟨r, h2, q, z⟩ := ih _ _ _ _ hp.2; exact ⟨r, h2, q, hp.1, z⟩)
          · by_cases h3 : a = 1003
            · simp only [if_neg h1, if_neg h2, if_pos h3] at hp ⊢
              split at hp <;> first | exact hp.elim | (obtain ⟨N0, N1, e0, e1, c1, c2, c3, c4, c5, c6, hp⟩ := hp; obtain ⟨r, h2, q, z⟩ := ih _ _ _ _ hp; exact ⟨r, h2, q, N0, N1, e0, e1, c1, c2, c3, c4, c5, c6, z⟩)
            · simp only [if_neg h1, if_neg h2, if_neg h3] at hp ⊢
              obtain ⟨As, rest, v, h2, e1, e2, e4, e5, hp⟩ := hp
              obtain ⟨r, h2', q, z⟩ := ih _ _ _ _ hp
              exact ⟨r, h2', q, As, rest, v, h2, e1, e2, e4, e5, z⟩
      case ireturn => split at hp <;> first | exact hp.elim | exact ⟨_, _, hp.2, hp.1, rfl, rfl⟩
      case return_ => split at hp <;> first | exact hp.elim | exact ⟨_, _, hp, rfl, rfl⟩
end AIX
/-- a run that ends with Q is a call's answer -/
theorem ai_intro {sh : ai_Sh} {mci ml : Nat → Nat} {cd : Nat → Nat → Option ai_I} {d i : Nat} {as : List Value} {h : ai_H} {Q : Option Value → ai_H → Prop} (hl : (ai_ent (ml i) as).length = ml i) (hR : ai_R sh mci (ai_C sh mci ml cd d) (cd i) Q 0 (ai_ent (ml i) as) [] h) : ∃ r h2, ai_C sh mci ml cd (d + 1) i as h r h2 ∧ Q r h2 := by
  obtain ⟨n, hp⟩ := hR
  obtain ⟨r, h2, hq, z⟩ := ai_P_ex n _ _ _ _ hp
  exact ⟨r, h2, ⟨hl, n, z⟩, hq⟩
end
section
/-! RUNS OVER INTERVALS: a value is a reference, an int between two bounds (biased by 2^31), or some long -/
abbrev ab_V : Type := Nat ⊕ Option (Nat × Nat)
abbrev ab_L : Type := List (Option ab_V)
abbrev ab_G : Type := List (Nat × Nat × Nat × Nat)
abbrev ab_R : Type := Option (Nat × Nat) × ab_G
def ab_U (x : Int32) : Nat := (x.toInt + 2147483648).toNat
def ab_I (n : Nat) : Int32 := Int32.ofInt ((n : Int) - 2147483648)
def ab_in (p : Nat × Nat) (x : Int32) : Prop := p.1 ≤ ab_U x ∧ ab_U x ≤ p.2
def ab_v : ab_V → Value → Prop
  | .inl k, .ref q => k = q
  | .inr (some p), .int x => ab_in p x
  | .inr none, .long _ => True
  | _, _ => False
def ab_s : List ab_V → List Value → Prop
  | [], [] => True
  | a :: A, v :: S => ab_v a v ∧ ab_s A S
  | _, _ => False
def ab_l : ab_L → ai_Lc → Prop
  | [], [] => True
  | none :: A, none :: L => ab_l A L
  | some a :: A, some v :: L => ab_v a v ∧ ab_l A L
  | _, _ => False
def ab_g : ab_G → Nat → Nat → Nat × Nat
  | [], _, _ => (2147483648, 2147483648)
  | (k, i, lo, hi) :: G, k', j => bif Nat.beq k k' && Nat.beq i j then (lo, hi) else ab_g G k' j
def ab_h (G : ab_G) (h : ai_H) : Prop := ∀ k j, ab_in (ab_g G k j) (h k j)
def ab_r : Option (Nat × Nat) → Option Value → Prop
  | none, none => True
  | some p, some (.int x) => ab_in p x
  | _, _ => False
def ab_n {α : Type} (n : Nat) (f : Nat → α) : α := match n with
  | 0 => f 0
  | m + 1 => f (m + 1)
def ab_f {α : Type} (p : Nat × Nat) (f : Nat × Nat → α) : α := ab_n p.1 fun a => ab_n p.2 fun b => f (a, b)
theorem ab_n_eq {α : Type} (n : Nat) (f : Nat → α) : ab_n n f = f n := by cases n <;> rfl
theorem ab_f_eq {α : Type} (p : Nat × Nat) (f : Nat × Nat → α) : ab_f p f = f p := by simp [ab_f, ab_n_eq]
def ab_top : Nat × Nat := (0, 4294967295)
def ab_c (x : Int32) : Nat × Nat := (ab_U x, ab_U x)
def ab_add (p q : Nat × Nat) : Nat × Nat := bif Nat.ble 2147483648 (p.1 + q.1) && Nat.ble (p.2 + q.2) 6442450943 then (p.1 + q.1 - 2147483648, p.2 + q.2 - 2147483648) else ab_top
def ab_sub (p q : Nat × Nat) : Nat × Nat := bif Nat.ble q.2 (p.1 + 2147483648) && Nat.ble (p.2 + 2147483648) (q.1 + 4294967295) then (p.1 + 2147483648 - q.2, p.2 + 2147483648 - q.1) else ab_top
def ab_op (f : Int32 → Int32 → Int32) (p q : Nat × Nat) : Nat × Nat := bif Nat.beq p.1 p.2 && Nat.beq q.1 q.2 then ab_c (f (ab_I p.1) (ab_I q.1)) else ab_top
def ab_min (p q : Nat × Nat) : Nat × Nat := (bif Nat.ble p.1 q.1 then p.1 else q.1, bif Nat.ble p.2 q.2 then p.2 else q.2)
def ab_max (p q : Nat × Nat) : Nat × Nat := (bif Nat.ble p.1 q.1 then q.1 else p.1, bif Nat.ble p.2 q.2 then q.2 else p.2)
def ab_eq (p q : Nat × Nat) : Option Bool := bif Nat.beq p.1 p.2 && Nat.beq q.1 q.2 && Nat.beq p.1 q.1 then some true else bif Nat.ble (p.2 + 1) q.1 || Nat.ble (q.2 + 1) p.1 then some false else none
def ab_lt (p q : Nat × Nat) : Option Bool := bif Nat.ble (p.2 + 1) q.1 then some true else bif Nat.ble q.2 p.1 then some false else none
def ab_cmp (c : Jvm.ClassFile.Cond) (p q : Nat × Nat) : Option Bool := match c with
  | .eq => ab_eq p q
  | .ne => (ab_eq p q).map not
  | .lt => ab_lt p q
  | .ge => (ab_lt p q).map not
  | .gt => ab_lt q p
  | .le => (ab_lt q p).map not
def ab_01 (p : Nat × Nat) : Bool := Nat.ble 2147483648 p.1 && Nat.ble p.2 2147483649
/-- a place in an array of N -/
def ab_ix (p : Nat × Nat) (N : Nat) : Option Nat := bif Nat.beq p.1 p.2 && Nat.ble 2147483648 p.1 && Nat.ble (p.1 + 1) (2147483648 + N) then some (p.1 - 2147483648) else none
def ab_cat : ab_V → Nat
  | .inr none => 2
  | _ => 1
def ab_sum : List ab_V → Nat
  | [] => 0
  | a :: A => ab_cat a + ab_sum A
def ab_sa : ab_L → Nat → ab_V → Option ab_L
  | [], _, _ => none
  | _ :: L, 0, v => some (some v :: L)
  | some (.inr none) :: _, 1, _ => none
  | x :: L, k + 1, v => match ab_sa L k v with
    | some L2 => some (x :: L2)
    | none => none
def ab_fl : List ab_V → ab_L
  | [] => []
  | .inr none :: A => some (.inr none) :: none :: ab_fl A
  | a :: A => some a :: ab_fl A
def ab_rep : Nat → ab_L
  | 0 => []
  | n + 1 => none :: ab_rep n
def ab_ent (n : Nat) (as : List ab_V) : ab_L := ab_fl as ++ ab_rep (n - (ab_fl as).length)
def ab_ref (r : Option (Nat × Nat)) (S : List ab_V) : List ab_V := match r with
  | none => S
  | some p => .inr (some p) :: S
def ab_e (sh : ai_Sh) (mci : Nat → Nat) (ce : Nat → List ab_V → ab_G → Option ab_R) (cd : Nat → Option ai_I) : Nat → Nat → ab_L → List ab_V → ab_G → Option ab_R
  | 0, _, _, _, _ => none
  | n + 1, pc, L, S, G => match cd pc with
    | none => none
    | some (i, _, a, b, _, c) => match i with
      | .iconst _ => ab_n (pc + 1) fun pc => ab_f (ab_c c) fun p => ab_e sh mci ce cd n pc L (.inr (some p) :: S) G
      | .bipush _ => ab_n (pc + 2) fun pc => ab_f (ab_c c) fun p => ab_e sh mci ce cd n pc L (.inr (some p) :: S) G
      | .sipush _ => ab_n (pc + 3) fun pc => ab_f (ab_c c) fun p => ab_e sh mci ce cd n pc L (.inr (some p) :: S) G
      | .ldc2_w _ => ab_n (pc + 3) fun pc => ab_e sh mci ce cd n pc L (.inr none :: S) G
      | .aload_n _ => match L[a]? with
        | some (some (.inl x)) => ab_n (pc + 1) fun pc => ab_e sh mci ce cd n pc L (.inl x :: S) G
        | _ => none
      | .aload _ => match L[a]? with
        | some (some (.inl x)) => ab_n (pc + 2) fun pc => ab_e sh mci ce cd n pc L (.inl x :: S) G
        | _ => none
      | .iload_n _ => match L[a]? with
        | some (some (.inr (some x))) => ab_n (pc + 1) fun pc => ab_e sh mci ce cd n pc L (.inr (some x) :: S) G
        | _ => none
      | .iload _ => match L[a]? with
        | some (some (.inr (some x))) => ab_n (pc + 2) fun pc => ab_e sh mci ce cd n pc L (.inr (some x) :: S) G
        | _ => none
      | .lload_n _ => match L[a]? with
        | some (some (.inr none)) => ab_n (pc + 1) fun pc => ab_e sh mci ce cd n pc L (.inr none :: S) G
        | _ => none
      | .istore_n _ => match S with
        | .inr (some x) :: S' => (match ab_sa L a (.inr (some x)) with
          | some L' => ab_n (pc + 1) fun pc => ab_e sh mci ce cd n pc L' S' G
          | none => none)
        | _ => none
      | .istore _ => match S with
        | .inr (some x) :: S' => (match ab_sa L a (.inr (some x)) with
          | some L' => ab_n (pc + 2) fun pc => ab_e sh mci ce cd n pc L' S' G
          | none => none)
        | _ => none
      | .iinc _ _ => match L[a]? with
        | some (some (.inr (some x))) => ab_f (ab_add x (ab_c c)) fun y => (match ab_sa L a (.inr (some y)) with
          | some L' => ab_n (pc + 3) fun pc => ab_e sh mci ce cd n pc L' S G
          | none => none)
        | _ => none
      | .iadd => match S with
        | .inr (some y) :: .inr (some x) :: S' => ab_n (pc + 1) fun pc => ab_f (ab_add x y) fun p => ab_e sh mci ce cd n pc L (.inr (some p) :: S') G
        | _ => none
      | .isub => match S with
        | .inr (some y) :: .inr (some x) :: S' => ab_n (pc + 1) fun pc => ab_f (ab_sub x y) fun p => ab_e sh mci ce cd n pc L (.inr (some p) :: S') G
        | _ => none
      | .imul => match S with
        | .inr (some y) :: .inr (some x) :: S' => ab_n (pc + 1) fun pc => ab_f (ab_op (fun x y => x * y) x y) fun p => ab_e sh mci ce cd n pc L (.inr (some p) :: S') G
        | _ => none
      | .iand => match S with
        | .inr (some y) :: .inr (some x) :: S' => ab_n (pc + 1) fun pc => ab_f (ab_op (fun x y => x &&& y) x y) fun p => ab_e sh mci ce cd n pc L (.inr (some p) :: S') G
        | _ => none
      | .ior => match S with
        | .inr (some y) :: .inr (some x) :: S' => ab_n (pc + 1) fun pc => ab_f (ab_op (fun x y => x ||| y) x y) fun p => ab_e sh mci ce cd n pc L (.inr (some p) :: S') G
        | _ => none
      | .ishl => match S with
        | .inr (some y) :: .inr (some x) :: S' => ab_n (pc + 1) fun pc => ab_f (ab_op (fun x y => x <<< (y &&& 31)) x y) fun p => ab_e sh mci ce cd n pc L (.inr (some p) :: S') G
        | _ => none
      | .ishr => match S with
        | .inr (some y) :: .inr (some x) :: S' => ab_n (pc + 1) fun pc => ab_f (ab_op (fun x y => x >>> (y &&& 31)) x y) fun p => ab_e sh mci ce cd n pc L (.inr (some p) :: S') G
        | _ => none
      | .land => match S with
        | .inr none :: .inr none :: S' => ab_n (pc + 1) fun pc => ab_e sh mci ce cd n pc L (.inr none :: S') G
        | _ => none
      | .lushr => match S with
        | .inr (some _) :: .inr none :: S' => ab_n (pc + 1) fun pc => ab_e sh mci ce cd n pc L (.inr none :: S') G
        | _ => none
      | .lshr => match S with
        | .inr (some _) :: .inr none :: S' => ab_n (pc + 1) fun pc => ab_e sh mci ce cd n pc L (.inr none :: S') G
        | _ => none
      | .l2i => match S with
        | .inr none :: S' => ab_n (pc + 1) fun pc => ab_e sh mci ce cd n pc L (.inr (some ab_top) :: S') G
        | _ => none
      | .dup => match S with
        | .inl k :: S' => ab_n (pc + 1) fun pc => ab_e sh mci ce cd n pc L (.inl k :: .inl k :: S') G
        | .inr (some p) :: S' => ab_n (pc + 1) fun pc => ab_e sh mci ce cd n pc L (.inr (some p) :: .inr (some p) :: S') G
        | _ => none
      | .dup2 => match S with
        | .inr (some p) :: .inl k :: S' => ab_n (pc + 1) fun pc => ab_e sh mci ce cd n pc L (.inr (some p) :: .inl k :: .inr (some p) :: .inl k :: S') G
        | _ => none
      | .getfield _ => match S with
        | .inl k :: S' => match sh[k]? with
          | some (.inr (ci, fs)) => bif Nat.beq ci a then (match fs[b]? with
            | some none => ab_n (pc + 3) fun pc => ab_f (ab_g G k b) fun p => ab_e sh mci ce cd n pc L (.inr (some p) :: S') G
            | some (some k2) => ab_n (pc + 3) fun pc => ab_e sh mci ce cd n pc L (.inl k2 :: S') G
            | none => none) else none
          | _ => none
        | _ => none
      | .putfield _ => match S with
        | .inr (some x) :: .inl k :: S' => match sh[k]? with
          | some (.inr (ci, fs)) => (match fs[b]? with
            | some none => bif Nat.beq ci a && (decide (c = 0) || ab_01 x) then ab_n (pc + 3) fun pc => ab_e sh mci ce cd n pc L S' ((k, b, x) :: G) else none
            | _ => none)
          | _ => none
        | _ => none
      | .iaload => match S with
        | .inr (some i) :: .inl k :: S' => match sh[k]? with
          | some (.inl (false, N)) => (match ab_ix i N with
            | some j => ab_n (pc + 1) fun pc => ab_f (ab_g G k j) fun p => ab_e sh mci ce cd n pc L (.inr (some p) :: S') G
            | none => none)
          | _ => none
        | _ => none
      | .baload => match S with
        | .inr (some i) :: .inl k :: S' => match sh[k]? with
          | some (.inl (true, N)) => (match ab_ix i N with
            | some j => ab_n (pc + 1) fun pc => ab_f (ab_g G k j) fun p => ab_e sh mci ce cd n pc L (.inr (some p) :: S') G
            | none => none)
          | _ => none
        | _ => none
      | .iastore => match S with
        | .inr (some x) :: .inr (some i) :: .inl k :: S' => match sh[k]? with
          | some (.inl (false, N)) => (match ab_ix i N with
            | some j => ab_n j fun j => ab_n (pc + 1) fun pc => ab_e sh mci ce cd n pc L S' ((k, j, x) :: G)
            | none => none)
          | _ => none
        | _ => none
      | .bastore => match S with
        | .inr (some x) :: .inr (some i) :: .inl k :: S' => match sh[k]? with
          | some (.inl (true, N)) => (match ab_ix i N with
            | some j => bif ab_01 x then ab_n j fun j => ab_n (pc + 1) fun pc => ab_e sh mci ce cd n pc L S' ((k, j, x) :: G) else none
            | none => none)
          | _ => none
        | _ => none
      | .if_icmp cc _ => match S with
        | .inr (some y) :: .inr (some x) :: S' => (match ab_cmp cc x y with
          | some true => ab_e sh mci ce cd n a L S' G
          | some false => ab_n (pc + 3) fun pc => ab_e sh mci ce cd n pc L S' G
          | none => none)
        | _ => none
      | .ifCond cc _ => match S with
        | .inr (some x) :: S' => (match ab_cmp cc x (2147483648, 2147483648) with
          | some true => ab_e sh mci ce cd n a L S' G
          | some false => ab_n (pc + 3) fun pc => ab_e sh mci ce cd n pc L S' G
          | none => none)
        | _ => none
      | .goto _ => ab_e sh mci ce cd n a L S G
      | .tableswitch d lo hi offs => match S with
        | .inr (some x) :: S' => bif (decide ((x.2 : Int) < lo + 2147483648) || decide (hi + 2147483648 < (x.1 : Int))) then (bif decide (0 ≤ (pc : Int) + d) then ab_n ((pc : Int) + d).toNat fun pc => ab_e sh mci ce cd n pc L S' G else none)
            else bif Nat.beq x.1 x.2 then (match offs[((x.1 : Int) - 2147483648 - lo).toNat]? with
              | some off => bif decide (0 ≤ (pc : Int) + off) then ab_n ((pc : Int) + off).toNat fun pc => ab_e sh mci ce cd n pc L S' G else none
              | none => none) else none
        | _ => none
      | .invokevirtual _ => match S.drop b with
        | .inl k :: rest => bif Nat.beq (S.take b).length b && Nat.ble (ab_sum rest) 8 then (match sh[k]? with
          | some (.inr (ci, _)) => bif Nat.beq ci (mci a) then (match ce a (.inl k :: (S.take b).reverse) G with
            | some (r, G2) => ab_n (pc + 3) fun pc => ab_e sh mci ce cd n pc L (ab_ref r rest) G2
            | none => none) else none
          | _ => none) else none
        | _ => none
      | .invokestatic _ =>
        if a = 1001 then (match S with
          | .inr (some y) :: .inr (some x) :: S' => bif Nat.ble (ab_sum S') 8 then ab_n (pc + 3) fun pc => ab_f (ab_min x y) fun p => ab_e sh mci ce cd n pc L (.inr (some p) :: S') G else none
          | _ => none)
        else if a = 1002 then (match S with
          | .inr (some y) :: .inr (some x) :: S' => bif Nat.ble (ab_sum S') 8 then ab_n (pc + 3) fun pc => ab_f (ab_max x y) fun p => ab_e sh mci ce cd n pc L (.inr (some p) :: S') G else none
          | _ => none)
        else if a = 1003 then (match S with
          | .inr (some m) :: .inr (some dp) :: .inl k1 :: .inr (some sp) :: .inl k0 :: S' => (match sh[k0]?, sh[k1]? with
            | some (.inl (false, N0)), some (.inl (false, N1)) => (match ab_ix sp N0, ab_ix dp N1 with
              | some i, some j => bif Nat.beq m.1 2147483649 && Nat.beq m.2 2147483649 && Nat.ble (ab_sum S') 8 then ab_n (pc + 3) fun pc => ab_f (ab_g G k0 i) fun p => ab_e sh mci ce cd n pc L S' ((k1, j, p) :: G) else none
              | _, _ => none)
            | _, _ => none)
          | _ => none)
        else bif Nat.beq (S.take b).length b && Nat.ble (ab_sum (S.drop b)) 8 then (match ce a (S.take b).reverse G with
          | some (r, G2) => ab_n (pc + 3) fun pc => ab_e sh mci ce cd n pc L (ab_ref r (S.drop b)) G2
          | none => none) else none
      | .ireturn => match S with
        | [.inr (some x)] => bif Nat.beq b 0 || ab_01 x then some (some x, G) else none
        | _ => none
      | .return_ => match S with
        | [] => some (none, G)
        | _ => none
      | _ => none
/-- a call of method i over intervals -/
def ab_ec (sh : ai_Sh) (mci ml : Nat → Nat) (cd : Nat → Nat → Option ai_I) (fuel : Nat) : Nat → Nat → List ab_V → ab_G → Option ab_R
  | 0, _, _, _ => none
  | d + 1, i, as, G => bif Nat.beq (ab_ent (ml i) as).length (ml i) then ab_e sh mci (ab_ec sh mci ml cd fuel d) (cd i) fuel 0 (ab_ent (ml i) as) [] G else none
end
section
/-! the runs over intervals are true of the small machine -/
theorem ab_Ub (x : Int32) : (ab_U x : Int) = x.toInt + 2147483648 ∧ ab_U x ≤ 4294967295 := by
  have h1 := Int32.toInt_lt x
  have h2 := Int32.le_toInt x
  unfold ab_U
  omega
theorem ab_lt_iff (x y : Int32) : x < y ↔ ab_U x < ab_U y := by
  rw [Int32.lt_iff_toInt_lt]
  have h1 := (ab_Ub x).1
  have h2 := (ab_Ub y).1
  omega
theorem ab_le_iff (x y : Int32) : x ≤ y ↔ ab_U x ≤ ab_U y := by
  rw [Int32.le_iff_toInt_le]
  have h1 := (ab_Ub x).1
  have h2 := (ab_Ub y).1
  omega
theorem ab_eq_iff (x y : Int32) : x = y ↔ ab_U x = ab_U y := by
  rw [← Int32.toInt_inj]
  have h1 := (ab_Ub x).1
  have h2 := (ab_Ub y).1
  omega
theorem ab_U0 : ab_U 0 = 2147483648 := by decide +kernel
theorem ab_U1 : ab_U 1 = 2147483649 := by decide +kernel
theorem ab_IU (x : Int32) : ab_I (ab_U x) = x := by
  unfold ab_I
  rw [(ab_Ub x).1, show x.toInt + 2147483648 - 2147483648 = x.toInt by omega, Int32.ofInt_toInt]
theorem ab_in_c (x : Int32) : ab_in (ab_c x) x := ⟨Nat.le_refl _, Nat.le_refl _⟩
theorem ab_in_top (x : Int32) : ab_in ab_top x := ⟨Nat.zero_le _, (ab_Ub x).2⟩
theorem ab_in_add {p q : Nat × Nat} {x y : Int32} (hx : ab_in p x) (hy : ab_in q y) : ab_in (ab_add p q) (x + y) := by
  unfold ab_add
  cases hb : (Nat.ble 2147483648 (p.1 + q.1) && Nat.ble (p.2 + q.2) 6442450943) with
  | false => exact ab_in_top _
  | true =>
    simp only [Bool.and_eq_true, Nat.ble_eq] at hb
    have h1 := (ab_Ub x).1
    have h2 := (ab_Ub y).1
    have h3 := (ab_Ub (x + y)).1
    rw [Int32.toInt_add, Int.bmod_eq_of_le (by have := hx.1; have := hx.2; have := hy.1; have := hy.2; omega) (by have := hx.1; have := hx.2; have := hy.1; have := hy.2; omega)] at h3
    have := hx.1; have := hx.2; have := hy.1; have := hy.2
    constructor
    · show p.1 + q.1 - 2147483648 ≤ _
      omega
    · show _ ≤ p.2 + q.2 - 2147483648
      omega
theorem ab_in_sub {p q : Nat × Nat} {x y : Int32} (hx : ab_in p x) (hy : ab_in q y) : ab_in (ab_sub p q) (x - y) := by
  unfold ab_sub
  cases hb : (Nat.ble q.2 (p.1 + 2147483648) && Nat.ble (p.2 + 2147483648) (q.1 + 4294967295)) with
  | false => exact ab_in_top _
  | true =>
    simp only [Bool.and_eq_true, Nat.ble_eq] at hb
    have h1 := (ab_Ub x).1
    have h2 := (ab_Ub y).1
    have h3 := (ab_Ub (x - y)).1
    rw [Int32.toInt_sub, Int.bmod_eq_of_le (by have := hx.1; have := hx.2; have := hy.1; have := hy.2; omega) (by have := hx.1; have := hx.2; have := hy.1; have := hy.2; omega)] at h3
    have := hx.1; have := hx.2; have := hy.1; have := hy.2
    constructor
    · show p.1 + 2147483648 - q.2 ≤ _
      omega
    · show _ ≤ p.2 + 2147483648 - q.1
      omega
theorem ab_one {p : Nat × Nat} {x : Int32} (hx : ab_in p x) (h : Nat.beq p.1 p.2 = true) : ab_I p.1 = x := by
  have h1 := Nat.eq_of_beq_eq_true h
  have h2 : p.1 = ab_U x := by have := hx.1; have := hx.2; omega
  rw [h2, ab_IU]
theorem ab_in_op {f : Int32 → Int32 → Int32} {p q : Nat × Nat} {x y : Int32} (hx : ab_in p x) (hy : ab_in q y) : ab_in (ab_op f p q) (f x y) := by
  unfold ab_op
  cases hb : (Nat.beq p.1 p.2 && Nat.beq q.1 q.2) with
  | false => exact ab_in_top _
  | true =>
    rw [Bool.and_eq_true] at hb
    show ab_in (ab_c (f (ab_I p.1) (ab_I q.1))) _
    rw [ab_one hx hb.1, ab_one hy hb.2]
    exact ab_in_c _
theorem ab_in_min {p q : Nat × Nat} {x y : Int32} (hx : ab_in p x) (hy : ab_in q y) : ab_in (ab_min p q) (if y < x then y else x) := by
  have := hx.1; have := hx.2; have := hy.1; have := hy.2
  unfold ab_min ab_in
  by_cases h : y < x
  · rw [if_pos h]
    rw [ab_lt_iff] at h
    constructor
    · cases hb : Nat.ble p.1 q.1 with
      | true => have := Nat.le_of_ble_eq_true hb; simp only [cond_true]; omega
      | false => simp only [cond_false]; omega
    · cases hb : Nat.ble p.2 q.2 with
      | true => simp only [cond_true]; omega
      | false => simp only [cond_false]; omega
  · rw [if_neg h]
    rw [ab_lt_iff] at h
    constructor
    · cases hb : Nat.ble p.1 q.1 with
      | true => simp only [cond_true]; omega
      | false => have := Nat.not_le_of_not_ble_eq_true (Bool.eq_false_iff.mp hb); simp only [cond_false]; omega
    · cases hb : Nat.ble p.2 q.2 with
      | true => simp only [cond_true]; omega
      | false => have := Nat.not_le_of_not_ble_eq_true (Bool.eq_false_iff.mp hb); simp only [cond_false]; omega
theorem ab_in_max {p q : Nat × Nat} {x y : Int32} (hx : ab_in p x) (hy : ab_in q y) : ab_in (ab_max p q) (if x < y then y else x) := by
  have := hx.1; have := hx.2; have := hy.1; have := hy.2
  unfold ab_max ab_in
  by_cases h : x < y
  · rw [if_pos h]
    rw [ab_lt_iff] at h
    constructor
    · cases hb : Nat.ble p.1 q.1 with
      | true => simp only [cond_true]; omega
      | false => have := Nat.not_le_of_not_ble_eq_true (Bool.eq_false_iff.mp hb); simp only [cond_false]; omega
    · cases hb : Nat.ble p.2 q.2 with
      | true => simp only [cond_true]; omega
      | false => have := Nat.not_le_of_not_ble_eq_true (Bool.eq_false_iff.mp hb); simp only [cond_false]; omega
  · rw [if_neg h]
    rw [ab_lt_iff] at h
    constructor
    · cases hb : Nat.ble p.1 q.1 with
      | true => simp only [cond_true]; omega
      | false => simp only [cond_false]; omega
    · cases hb : Nat.ble p.2 q.2 with
      | true => have := Nat.le_of_ble_eq_true hb; simp only [cond_true]; omega
      | false => simp only [cond_false]; omega
theorem ab_eq_ok {p q : Nat × Nat} {x y : Int32} {b : Bool} (hx : ab_in p x) (hy : ab_in q y) (h : ab_eq p q = some b) : b = true ↔ x = y := by
  have := hx.1; have := hx.2; have := hy.1; have := hy.2
  rw [ab_eq_iff]
  unfold ab_eq at h
  cases h1 : (Nat.beq p.1 p.2 && Nat.beq q.1 q.2 && Nat.beq p.1 q.1) with
  | true =>
    rw [h1] at h
    simp only [cond_true, Option.some.injEq] at h
    simp only [Bool.and_eq_true] at h1
    have e1 := Nat.eq_of_beq_eq_true h1.1.1
    have e2 := Nat.eq_of_beq_eq_true h1.1.2
    have e3 := Nat.eq_of_beq_eq_true h1.2
    exact ⟨fun _ => by omega, fun _ => h.symm⟩
  | false =>
    rw [h1] at h
    simp only [cond_false] at h
    cases h2 : (Nat.ble (p.2 + 1) q.1 || Nat.ble (q.2 + 1) p.1) with
    | false => rw [h2] at h; simp at h
    | true =>
      rw [h2] at h
      simp only [cond_true, Option.some.injEq] at h
      simp only [Bool.or_eq_true, Nat.ble_eq] at h2
      subst h
      exact ⟨fun z => (by cases z), fun z => (by omega)⟩
theorem ab_lt_ok {p q : Nat × Nat} {x y : Int32} {b : Bool} (hx : ab_in p x) (hy : ab_in q y) (h : ab_lt p q = some b) : b = true ↔ x < y := by
  have := hx.1; have := hx.2; have := hy.1; have := hy.2
  rw [ab_lt_iff]
  unfold ab_lt at h
  cases h1 : Nat.ble (p.2 + 1) q.1 with
  | true =>
    rw [h1] at h
    simp only [cond_true, Option.some.injEq] at h
    rw [Nat.ble_eq] at h1
    exact ⟨fun _ => by omega, fun _ => h.symm⟩
  | false =>
    rw [h1] at h
    simp only [cond_false] at h
    cases h2 : Nat.ble q.2 p.1 with
    | false => rw [h2] at h; simp at h
    | true =>
      rw [h2] at h
      simp only [cond_true, Option.some.injEq] at h
      rw [Nat.ble_eq] at h2
      subst h
      exact ⟨fun z => (by cases z), fun z => (by omega)⟩
theorem ab_not_lt (x y : Int32) : y ≤ x ↔ ¬ x < y := by rw [ab_le_iff, ab_lt_iff]; omega
theorem ab_cmp_ok {c : Jvm.ClassFile.Cond} {p q : Nat × Nat} {x y : Int32} {b : Bool} (hx : ab_in p x) (hy : ab_in q y) (h : ab_cmp c p q = some b) : b = true ↔ ai_cmp c x y := by
  have hn : ∀ {o : Option Bool} {P : Prop}, (∀ b, o = some b → (b = true ↔ P)) → o.map not = some b → (b = true ↔ ¬ P) := by
    intro o P h1 h2
    cases o with
    | none => cases h2
    | some b2 =>
      have h3 := h1 b2 rfl
      simp only [Option.map_some, Option.some.injEq] at h2
      subst h2
      rw [← h3]
      cases b2 <;> simp
  cases c with
  | eq => exact ab_eq_ok hx hy h
  | ne => exact hn (fun b hb => ab_eq_ok hx hy hb) h
  | lt => exact ab_lt_ok hx hy h
  | ge => show _ ↔ y ≤ x; rw [ab_not_lt]; exact hn (fun b hb => ab_lt_ok hx hy hb) h
  | gt => exact ab_lt_ok hy hx h
  | le => show _ ↔ x ≤ y; rw [ab_not_lt]; exact hn (fun b hb => ab_lt_ok hy hx hb) h
theorem ab_01_ok {p : Nat × Nat} {x : Int32} (hx : ab_in p x) (h : ab_01 p = true) : x = 0 ∨ x = 1 := by
  simp only [ab_01, Bool.and_eq_true, Nat.ble_eq] at h
  have := hx.1; have := hx.2
  rw [ab_eq_iff, ab_eq_iff, ab_U0, ab_U1]
  omega
theorem ab_ix_ok {p : Nat × Nat} {x : Int32} {N j : Nat} (hx : ab_in p x) (h : ab_ix p N = some j) : vp_in x N ∧ x.toNatClampNeg = j ∧ j < N ∧ ¬ x < 0 := by
  unfold ab_ix at h
  cases h1 : (Nat.beq p.1 p.2 && Nat.ble 2147483648 p.1 && Nat.ble (p.1 + 1) (2147483648 + N)) with
  | false => rw [h1] at h; simp at h
  | true =>
    rw [h1] at h
    simp only [cond_true, Option.some.injEq] at h
    simp only [Bool.and_eq_true, Nat.ble_eq] at h1
    have e1 := Nat.eq_of_beq_eq_true h1.1.1
    have := hx.1; have := hx.2
    have h2 := (ab_Ub x).1
    have h3 : x.toNatClampNeg = j := by
      show x.toInt.toNat = j
      omega
    have h4 : ¬ x < 0 := by rw [ab_lt_iff, ab_U0]; omega
    refine ⟨?_, h3, by omega, h4⟩
    unfold vp_in
    rw [h3]
    rintro (z | z)
    · exact h4 z
    · omega
theorem ab_s_int {p : Nat × Nat} {A : List ab_V} {S : List Value} (h : ab_s (.inr (some p) :: A) S) : ∃ x S1, S = .int x :: S1 ∧ ab_in p x ∧ ab_s A S1 := by
  cases S with
  | nil => exact h.elim
  | cons v S =>
    obtain ⟨h1, h2⟩ := h
    cases v <;> first | exact h1.elim | exact ⟨_, _, rfl, h1, h2⟩
theorem ab_s_ref {k : Nat} {A : List ab_V} {S : List Value} (h : ab_s (.inl k :: A) S) : ∃ S1, S = .ref k :: S1 ∧ ab_s A S1 := by
  cases S with
  | nil => exact h.elim
  | cons v S =>
    obtain ⟨h1, h2⟩ := h
    cases v <;> first | exact h1.elim | (cases h1; exact ⟨_, rfl, h2⟩)
theorem ab_s_long {A : List ab_V} {S : List Value} (h : ab_s (.inr none :: A) S) : ∃ x S1, S = .long x :: S1 ∧ ab_s A S1 := by
  cases S with
  | nil => exact h.elim
  | cons v S =>
    obtain ⟨h1, h2⟩ := h
    cases v <;> first | exact h1.elim | exact ⟨_, _, rfl, h2⟩
theorem ab_s_nil {S : List Value} (h : ab_s [] S) : S = [] := by
  cases S with
  | nil => rfl
  | cons v S => exact h.elim
theorem ab_v_cat {a : ab_V} {v : Value} (h : ab_v a v) : v.category = ab_cat a := by
  rcases a with k | ⟨⟩ | p <;> cases v <;> first | exact h.elim | rfl
theorem ab_s_sum : ∀ {A : List ab_V} {S : List Value}, ab_s A S → (S.map fun v => v.category).sum = ab_sum A
  | [], [], _ => rfl
  | a :: A, v :: S, h => by
    simp only [List.map_cons, List.sum_cons, ab_sum]
    rw [ab_v_cat h.1, ab_s_sum h.2]
  | [], _ :: _, h => h.elim
  | _ :: _, [], h => h.elim
theorem ab_s_take : ∀ (b : Nat) {A : List ab_V} {S : List Value}, ab_s A S → ab_s (A.take b) (S.take b) ∧ ab_s (A.drop b) (S.drop b)
  | 0, A, S, h => ⟨trivial, h⟩
  | b + 1, [], [], _ => ⟨trivial, trivial⟩
  | b + 1, a :: A, v :: S, h => ⟨⟨h.1, (ab_s_take b h.2).1⟩, (ab_s_take b h.2).2⟩
  | b + 1, [], _ :: _, h => h.elim
  | b + 1, _ :: _, [], h => h.elim
theorem ab_s_app : ∀ {A B : List ab_V} {S T : List Value}, ab_s A S → ab_s B T → ab_s (A ++ B) (S ++ T)
  | [], _, [], _, _, h => h
  | a :: A, _, v :: S, _, h, h2 => ⟨h.1, ab_s_app h.2 h2⟩
  | [], _, _ :: _, _, h, _ => h.elim
  | _ :: _, _, [], _, h, _ => h.elim
theorem ab_s_rev : ∀ {A : List ab_V} {S : List Value}, ab_s A S → ab_s A.reverse S.reverse
  | [], [], _ => trivial
  | a :: A, v :: S, h => by
    rw [List.reverse_cons, List.reverse_cons]
    exact ab_s_app (ab_s_rev h.2) ⟨h.1, trivial⟩
  | [], _ :: _, h => h.elim
  | _ :: _, [], h => h.elim
theorem ab_s_len : ∀ {A : List ab_V} {S : List Value}, ab_s A S → S.length = A.length
  | [], [], _ => rfl
  | a :: A, v :: S, h => by rw [List.length_cons, List.length_cons, ab_s_len h.2]
  | [], _ :: _, h => h.elim
  | _ :: _, [], h => h.elim
theorem ab_l_at : ∀ {A : ab_L} {L : ai_Lc} {k : Nat} {a : ab_V}, ab_l A L → A[k]? = some (some a) → ∃ v, L[k]? = some (some v) ∧ ab_v a v
  | [], _, k, a, _, h2 => by simp at h2
  | none :: A, none :: L, 0, a, h, h2 => by simp at h2
  | none :: A, none :: L, k + 1, a, h, h2 => by
    simp only [List.getElem?_cons_succ] at h2 ⊢
    exact ab_l_at (A := A) (L := L) h h2
  | some a0 :: A, some v :: L, 0, a, h, h2 => by
    simp only [List.getElem?_cons_zero, Option.some.injEq] at h2
    subst h2
    exact ⟨v, rfl, h.1⟩
  | some a0 :: A, some v :: L, k + 1, a, h, h2 => by
    simp only [List.getElem?_cons_succ] at h2 ⊢
    exact ab_l_at (A := A) (L := L) h.2 h2
  | none :: _, some _ :: _, _, _, h, _ => h.elim
  | some _ :: _, none :: _, _, _, h, _ => h.elim
  | none :: _, [], _, _, h, _ => h.elim
  | some _ :: _, [], _, _, h, _ => h.elim
theorem ab_l_set : ∀ {A : ab_L} {L : ai_Lc} {k : Nat} {a : ab_V} {v : Value} {A2 : ab_L}, ab_l A L → ab_sa A k a = some A2 → ab_v a v → ∃ L2, ai_set L k v = some L2 ∧ ab_l A2 L2
  | [], _, _, _, _, _, _, h2, _ => by simp [ab_sa] at h2
  | none :: A, none :: L, 0, a, v, A2, h, h2, hv => by
    simp only [ab_sa, Option.some.injEq] at h2
    subst h2
    exact ⟨some v :: L, rfl, hv, h⟩
  | some a0 :: A, some v0 :: L, 0, a, v, A2, h, h2, hv => by
    have h3 : some (some a :: A) = some A2 := by rw [← h2]; rcases a0 with k | ⟨⟩ | p <;> rfl
    cases h3
    exact ⟨some v :: L, by cases v0 <;> rfl, hv, h.2⟩
  | none :: A, none :: L, k + 1, a, v, A2, h, h2, hv => by
    simp only [ab_sa] at h2
    cases h3 : ab_sa A k a with
    | none => rw [h3] at h2; cases h2
    | some A3 =>
      rw [h3] at h2
      cases h2
      obtain ⟨L2, h4, h5⟩ := ab_l_set (A := A) (L := L) h h3 hv
      exact ⟨none :: L2, by simp only [ai_set, h4, Option.map_some], h5⟩
  | some a0 :: A, some v0 :: L, k + 1, a, v, A2, h, h2, hv => by
    have hs : ∃ A3, ab_sa A k a = some A3 ∧ A2 = some a0 :: A3 ∧ (k = 0 → a0 ≠ .inr none) := by
      rcases k with _ | k
      · rcases a0 with q | ⟨⟩ | p
        · simp only [ab_sa] at h2
          cases h3 : ab_sa A 0 a with
          | none => rw [h3] at h2; cases h2
          | some A3 => rw [h3] at h2; cases h2; exact ⟨A3, rfl, rfl, fun _ z => by cases z⟩
        · simp [ab_sa] at h2
        · simp only [ab_sa] at h2
          cases h3 : ab_sa A 0 a with
          | none => rw [h3] at h2; cases h2
          | some A3 => rw [h3] at h2; cases h2; exact ⟨A3, rfl, rfl, fun _ z => by cases z⟩
      · have h2' : (match ab_sa A (k + 1) a with | some L2 => some (some a0 :: L2) | none => none) = some A2 := by rw [← h2]; rcases a0 with q | ⟨⟩ | p <;> rfl
        cases h3 : ab_sa A (k + 1) a with
        | none => rw [h3] at h2'; cases h2'
        | some A3 => rw [h3] at h2'; cases h2'; exact ⟨A3, rfl, rfl, fun z => by cases z⟩
    obtain ⟨A3, h3, rfl, h4⟩ := hs
    obtain ⟨L2, h5, h6⟩ := ab_l_set (A := A) (L := L) h.2 h3 hv
    refine ⟨some v0 :: L2, ?_, h.1, h6⟩
    have hc : ab_v a0 v0 := h.1
    rcases k with _ | k
    · have h7 := h4 rfl
      rcases a0 with q | ⟨⟩ | p
      · cases v0 <;> first | exact hc.elim | simp only [ai_set, h5, Option.map_some]
      · exact absurd rfl h7
      · cases v0 <;> first | exact hc.elim | simp only [ai_set, h5, Option.map_some]
    · cases v0 <;> simp only [ai_set, h5, Option.map_some]
  | none :: _, some _ :: _, _, _, _, _, h, _, _ => h.elim
  | some _ :: _, none :: _, _, _, _, _, h, _, _ => h.elim
  | none :: _, [], _, _, _, _, h, _, _ => h.elim
  | some _ :: _, [], _, _, _, _, h, _, _ => h.elim
theorem ab_l_fl : ∀ {A : List ab_V} {S : List Value}, ab_s A S → ab_l (ab_fl A) (ai_fl S)
  | [], [], _ => trivial
  | a :: A, v :: S, h => by
    have ih := ab_l_fl h.2
    have hc : ab_v a v := h.1
    have e : ai_fl (v :: S) = (if v.category = 2 then [some v, none] else [some v]) ++ ai_fl S := rfl
    rw [e, ab_v_cat hc]
    rcases a with q | ⟨⟩ | p
    · exact ⟨hc, ih⟩
    · exact ⟨hc, ih⟩
    · exact ⟨hc, ih⟩
  | [], _ :: _, h => h.elim
  | _ :: _, [], h => h.elim
theorem ab_l_len : ∀ {A : ab_L} {L : ai_Lc}, ab_l A L → L.length = A.length
  | [], [], _ => rfl
  | none :: A, none :: L, h => by rw [List.length_cons, List.length_cons, ab_l_len (A := A) (L := L) h]
  | some _ :: A, some _ :: L, h => by rw [List.length_cons, List.length_cons, ab_l_len (A := A) (L := L) h.2]
  | [], _ :: _, h => h.elim
  | none :: _, [], h => h.elim
  | some _ :: _, [], h => h.elim
  | none :: _, some _ :: _, h => h.elim
  | some _ :: _, none :: _, h => h.elim
theorem ab_l_rep : ∀ n, ab_l (ab_rep n) (List.replicate n none)
  | 0 => trivial
  | n + 1 => ab_l_rep n
theorem ab_l_app : ∀ {A B : ab_L} {L M : ai_Lc}, ab_l A L → ab_l B M → ab_l (A ++ B) (L ++ M)
  | [], _, [], _, _, h => h
  | none :: A, _, none :: L, _, h, h2 => ab_l_app (A := A) (L := L) h h2
  | some _ :: A, _, some _ :: L, _, h, h2 => ⟨h.1, ab_l_app (A := A) (L := L) h.2 h2⟩
  | [], _, _ :: _, _, h, _ => h.elim
  | none :: _, _, [], _, h, _ => h.elim
  | some _ :: _, _, [], _, h, _ => h.elim
  | none :: _, _, some _ :: _, _, h, _ => h.elim
  | some _ :: _, _, none :: _, _, h, _ => h.elim
theorem ab_l_ent {n : Nat} {A : List ab_V} {S : List Value} (h : ab_s A S) : ab_l (ab_ent n A) (ai_ent n S) := by
  have h1 := ab_l_fl h
  unfold ab_ent ai_ent
  rw [ab_l_len h1]
  exact ab_l_app h1 (ab_l_rep _)
theorem ab_h_up {G : ab_G} {h : ai_H} {k i : Nat} {p : Nat × Nat} {x : Int32} (hh : ab_h G h) (hx : ab_in p x) : ab_h ((k, i, p) :: G) (ai_up h k i x) := by
  intro k' j
  have e : ab_g ((k, i, p) :: G) k' j = bif Nat.beq k k' && Nat.beq i j then p else ab_g G k' j := rfl
  rw [e]
  cases hb : (Nat.beq k k' && Nat.beq i j) with
  | true =>
    simp only [Bool.and_eq_true] at hb
    have e1 := Nat.eq_of_beq_eq_true hb.1
    have e2 := Nat.eq_of_beq_eq_true hb.2
    subst e1; subst e2
    simpa [ai_up, upd] using hx
  | false =>
    have h1 : ai_up h k i x k' j = h k' j := by
      unfold ai_up
      by_cases hk : k' = k
      · subst hk
        have hij : ¬ j = i := fun z => by subst z; simp at hb
        simp [upd, hij]
      · rw [if_neg hk]
    rw [h1]
    exact hh k' j
theorem ab_h_cp {G : ab_G} {h : ai_H} {k0 k1 i j : Nat} (hh : ab_h G h) : ab_h ((k1, j, ab_g G k0 i) :: G) (ai_cp h k0 k1 i j 1) := by
  intro k' q
  have e : ab_g ((k1, j, ab_g G k0 i) :: G) k' q = bif Nat.beq k1 k' && Nat.beq j q then ab_g G k0 i else ab_g G k' q := rfl
  rw [e]
  cases hb : (Nat.beq k1 k' && Nat.beq j q) with
  | true =>
    simp only [Bool.and_eq_true] at hb
    have e1 := Nat.eq_of_beq_eq_true hb.1
    have e2 := Nat.eq_of_beq_eq_true hb.2
    subst e1; subst e2
    have h1 : ai_cp h k0 k1 i j 1 k1 j = h k0 i := by
      unfold ai_cp
      rw [if_pos rfl, pk_cpy_in (Nat.le_refl _) (by omega)]
      rw [Nat.sub_self, Nat.add_zero]
    rw [h1]
    exact hh k0 i
  | false =>
    have h1 : ai_cp h k0 k1 i j 1 k' q = h k' q := by
      unfold ai_cp
      by_cases hk : k' = k1
      · subst hk
        have hij : ¬ j = q := fun z => by subst z; simp at hb
        rw [if_pos rfl, pk_cpy_out (by omega)]
      · rw [if_neg hk]
    rw [h1]
    exact hh k' q
theorem ab_s_ret {r : Option (Nat × Nat)} {v : Option Value} {A : List ab_V} {S : List Value} (hr : ab_r r v) (hs : ab_s A S) : ab_s (ab_ref r A) (v.toList ++ S) := by
  rcases r with _ | p
  · rcases v with _ | v
    · exact hs
    · exact hr.elim
  · rcases v with _ | v
    · exact hr.elim
    · cases v <;> first | exact hr.elim | exact ⟨hr, hs⟩
theorem ab_zero : ab_h [] (fun _ _ => 0) := fun k j => by
  show ab_in (2147483648, 2147483648) 0
  unfold ab_in
  rw [ab_U0]
  exact ⟨Nat.le_refl _, Nat.le_refl _⟩
end
section
theorem ab_bif {c : Bool} {x : Option ab_R} {y : ab_R} (h : (bif c then x else none) = some y) : c = true ∧ x = some y := by
  cases c with
  | true => exact ⟨rfl, h⟩
  | false => cases h
set_option maxHeartbeats 4000000 in
set_option maxRecDepth 20000 in
theorem ab_sound {sh : ai_Sh} {mci : Nat → Nat} {ce : Nat → List ab_V → ab_G → Option ab_R} {cd : Nat → Option ai_I} {cl : Nat → List Value → ai_H → Option Value → ai_H → Prop}
    (hce : ∀ a As G r G2, ce a As G = some (r, G2) → ∀ vs h, ab_s As vs → ab_h G h → ∃ v h2, cl a vs h v h2 ∧ ab_r r v ∧ ab_h G2 h2) (r : Option (Nat × Nat)) (G2 : ab_G) :
    ∀ (n pc : Nat) (A : ab_L) (B : List ab_V) (G : ab_G), ab_e sh mci ce cd n pc A B G = some (r, G2) → ∀ (L : ai_Lc) (S : List Value) (h : ai_H), ab_l A L → ab_s B S → ab_h G h → ai_P sh mci cl cd (fun r' h' => ab_r r r' ∧ ab_h G2 h') n pc L S h := by
  intro n
  induction n with
  | zero => intro pc A B G he; cases he
  | succ n ih =>
    intro pc A B G he L S h hL hS hG
    cases hcd : cd pc with
    | none => simp [ab_e, hcd] at he
    | some q =>
      obtain ⟨i, len, a, b, w, c⟩ := q
      simp only [ab_e, hcd] at he
      simp only [ai_P, hcd]
      cases i
      all_goals (try exact absurd (show (none : Option ab_R) = some (r, G2) from he) (fun z => by cases z))
      all_goals dsimp only at he ⊢
      all_goals (try simp only [ab_n_eq, ab_f_eq] at he)
      case iconst v => exact ih _ _ _ _ he _ _ _ hL ⟨ab_in_c c, hS⟩ hG
      case bipush v => exact ih _ _ _ _ he _ _ _ hL ⟨ab_in_c c, hS⟩ hG
      case sipush v => exact ih _ _ _ _ he _ _ _ hL ⟨ab_in_c c, hS⟩ hG
      case ldc2_w v => exact ih _ _ _ _ he _ _ _ hL ⟨trivial, hS⟩ hG
      case goto v => exact ih _ _ _ _ he _ _ _ hL hS hG
      case aload_n k =>
        split at he
        · rename_i x hx
          obtain ⟨v, h1, h2⟩ := ab_l_at hL hx
          cases v <;> first | exact h2.elim | (cases h2; rw [h1]; exact ih _ _ _ _ he _ _ _ hL ⟨rfl, hS⟩ hG)
        · cases he
      case aload k =>
        split at he
        · rename_i x hx
          obtain ⟨v, h1, h2⟩ := ab_l_at hL hx
          cases v <;> first | exact h2.elim | (cases h2; rw [h1]; exact ih _ _ _ _ he _ _ _ hL ⟨rfl, hS⟩ hG)
        · cases he
      case iload_n k =>
        split at he
        · rename_i x hx
          obtain ⟨v, h1, h2⟩ := ab_l_at hL hx
          cases v <;> first | exact h2.elim | (rw [h1]; exact ih _ _ _ _ he _ _ _ hL ⟨h2, hS⟩ hG)
        · cases he
      case iload k =>
        split at he
        · rename_i x hx
          obtain ⟨v, h1, h2⟩ := ab_l_at hL hx
          cases v <;> first | exact h2.elim | (rw [h1]; exact ih _ _ _ _ he _ _ _ hL ⟨h2, hS⟩ hG)
        · cases he
      case lload_n k =>
        split at he
        · rename_i hx
          obtain ⟨v, h1, h2⟩ := ab_l_at hL hx
          cases v <;> first | exact h2.elim | (rw [h1]; exact ih _ _ _ _ he _ _ _ hL ⟨h2, hS⟩ hG)
        · cases he
      case istore_n k =>
        split at he
        · rename_i x B'
          split at he
          · rename_i A' hA
            obtain ⟨x', S1, rfl, h1, h2⟩ := ab_s_int hS
            obtain ⟨L2, h3, h4⟩ := ab_l_set (v := .int x') hL hA h1
            exact ⟨L2, h3, ih _ _ _ _ he _ _ _ h4 h2 hG⟩
          · cases he
        · cases he
      case istore k =>
        split at he
        · rename_i x B'
          split at he
          · rename_i A' hA
            obtain ⟨x', S1, rfl, h1, h2⟩ := ab_s_int hS
            obtain ⟨L2, h3, h4⟩ := ab_l_set (v := .int x') hL hA h1
            exact ⟨L2, h3, ih _ _ _ _ he _ _ _ h4 h2 hG⟩
          · cases he
        · cases he
      case iinc k v =>
        split at he
        · rename_i x hx
          split at he
          · rename_i A' hA
            obtain ⟨v, h1, h2⟩ := ab_l_at hL hx
            cases v <;> first | exact h2.elim | skip
            rename_i x'
            obtain ⟨L2, h3, h4⟩ := ab_l_set (v := .int (x' + c)) hL hA (ab_in_add h2 (ab_in_c c))
            rw [h1]
            exact ⟨L2, h3, ih _ _ _ _ he _ _ _ h4 hS hG⟩
          · cases he
        · cases he
      case iadd =>
        split at he
        · obtain ⟨y', S1, rfl, hy, hS⟩ := ab_s_int hS
          obtain ⟨x', S2, rfl, hx, hS⟩ := ab_s_int hS
          exact ih _ _ _ _ he _ _ _ hL ⟨ab_in_add hx hy, hS⟩ hG
        · cases he
      case isub =>
        split at he
        · obtain ⟨y', S1, rfl, hy, hS⟩ := ab_s_int hS
          obtain ⟨x', S2, rfl, hx, hS⟩ := ab_s_int hS
          exact ih _ _ _ _ he _ _ _ hL ⟨ab_in_sub hx hy, hS⟩ hG
        · cases he
      case imul =>
        split at he
        · obtain ⟨y', S1, rfl, hy, hS⟩ := ab_s_int hS
          obtain ⟨x', S2, rfl, hx, hS⟩ := ab_s_int hS
          exact ih _ _ _ _ he _ _ _ hL ⟨ab_in_op (f := fun x y => x * y) hx hy, hS⟩ hG
        · cases he
      case iand =>
        split at he
        · obtain ⟨y', S1, rfl, hy, hS⟩ := ab_s_int hS
          obtain ⟨x', S2, rfl, hx, hS⟩ := ab_s_int hS
          exact ih _ _ _ _ he _ _ _ hL ⟨ab_in_op (f := fun x y => x &&& y) hx hy, hS⟩ hG
        · cases he
      case ior =>
        split at he
        · obtain ⟨y', S1, rfl, hy, hS⟩ := ab_s_int hS
          obtain ⟨x', S2, rfl, hx, hS⟩ := ab_s_int hS
          exact ih _ _ _ _ he _ _ _ hL ⟨ab_in_op (f := fun x y => x ||| y) hx hy, hS⟩ hG
        · cases he
      case ishl =>
        split at he
        · obtain ⟨y', S1, rfl, hy, hS⟩ := ab_s_int hS
          obtain ⟨x', S2, rfl, hx, hS⟩ := ab_s_int hS
          exact ih _ _ _ _ he _ _ _ hL ⟨ab_in_op (f := fun x y => x <<< (y &&& 31)) hx hy, hS⟩ hG
        · cases he
      case ishr =>
        split at he
        · obtain ⟨y', S1, rfl, hy, hS⟩ := ab_s_int hS
          obtain ⟨x', S2, rfl, hx, hS⟩ := ab_s_int hS
          exact ih _ _ _ _ he _ _ _ hL ⟨ab_in_op (f := fun x y => x >>> (y &&& 31)) hx hy, hS⟩ hG
        · cases he
      case land =>
        split at he
        · obtain ⟨y', S1, hE, hT⟩ := ab_s_long hS
          subst hE
          (replace hS := hT; clear hT)
          obtain ⟨x', S2, hE, hT⟩ := ab_s_long hS
          subst hE
          (replace hS := hT; clear hT)
          exact ih _ _ _ _ he _ _ _ hL ⟨trivial, hS⟩ hG
        · cases he
      case lushr =>
        split at he
        · obtain ⟨y', S1, rfl, hy, hS⟩ := ab_s_int hS
          obtain ⟨x', S2, hE, hT⟩ := ab_s_long hS
          subst hE
          (replace hS := hT; clear hT)
          exact ih _ _ _ _ he _ _ _ hL ⟨trivial, hS⟩ hG
        · cases he
      case lshr =>
        split at he
        · obtain ⟨y', S1, rfl, hy, hS⟩ := ab_s_int hS
          obtain ⟨x', S2, hE, hT⟩ := ab_s_long hS
          subst hE
          (replace hS := hT; clear hT)
          exact ih _ _ _ _ he _ _ _ hL ⟨trivial, hS⟩ hG
        · cases he
      case l2i =>
        split at he
        · obtain ⟨x', S1, hE, hT⟩ := ab_s_long hS
          subst hE
          (replace hS := hT; clear hT)
          exact ih _ _ _ _ he _ _ _ hL ⟨ab_in_top _, hS⟩ hG
        · cases he
      case dup =>
        split at he
        · obtain ⟨S1, hE, hT⟩ := ab_s_ref hS
          subst hE
          (replace hS := hT; clear hT)
          exact ⟨rfl, ih _ _ _ _ he _ _ _ hL ⟨rfl, rfl, hS⟩ hG⟩
        · obtain ⟨x', S1, rfl, hx, hS⟩ := ab_s_int hS
          exact ⟨rfl, ih _ _ _ _ he _ _ _ hL ⟨hx, hx, hS⟩ hG⟩
        · cases he
      case dup2 =>
        split at he
        · obtain ⟨x', S1, rfl, hx, hS⟩ := ab_s_int hS
          obtain ⟨S2, hE, hT⟩ := ab_s_ref hS
          subst hE
          (replace hS := hT; clear hT)
          exact ⟨rfl, rfl, ih _ _ _ _ he _ _ _ hL ⟨hx, rfl, hx, rfl, hS⟩ hG⟩
        · cases he
      case getfield ix =>
        split at he
        · rename_i k B'
          obtain ⟨S1, hE, hT⟩ := ab_s_ref hS
          subst hE
          (replace hS := hT; clear hT)
          split at he
          · rename_i ci fs hsk
            obtain ⟨hb, he⟩ := ab_bif he
            dsimp only
            rw [hsk]
            refine ⟨Nat.eq_of_beq_eq_true hb, ?_⟩
            split at he
            · rename_i hf
              rw [hf]
              exact ih _ _ _ _ he _ _ _ hL ⟨hG k b, hS⟩ hG
            · rename_i k2 hf
              rw [hf]
              exact ih _ _ _ _ he _ _ _ hL ⟨rfl, hS⟩ hG
            · cases he
          · cases he
        · cases he
      case putfield ix =>
        split at he
        · rename_i x k B'
          obtain ⟨x', S1, rfl, hx, hS⟩ := ab_s_int hS
          obtain ⟨S1, hE, hT⟩ := ab_s_ref hS
          subst hE
          (replace hS := hT; clear hT)
          split at he
          · rename_i ci fs hsk
            split at he
            · rename_i hf
              obtain ⟨hb, he⟩ := ab_bif he
              simp only [Bool.and_eq_true, Bool.or_eq_true, decide_eq_true_eq] at hb
              refine ⟨⟨fs, by rw [hsk, Nat.eq_of_beq_eq_true hb.1], hf⟩, ?_, ih _ _ _ _ he _ _ _ hL hS (ab_h_up hG hx)⟩
              rcases hb.2 with h1 | h1
              · exact Or.inl h1
              · exact Or.inr (ab_01_ok hx h1)
            · cases he
          · cases he
        · cases he
      case iaload =>
        split at he
        · rename_i i k B'
          obtain ⟨x', S1, rfl, hx, hS⟩ := ab_s_int hS
          obtain ⟨S1, hE, hT⟩ := ab_s_ref hS
          subst hE
          (replace hS := hT; clear hT)
          split at he
          · rename_i N hsk
            split at he
            · rename_i j hj
              obtain ⟨j1, j2, j3, j4⟩ := ab_ix_ok hx hj
              refine ⟨N, hsk, j1, ih _ _ _ _ he _ _ _ hL ⟨?_, hS⟩ hG⟩
              rw [j2]
              exact hG k j
            · cases he
          · cases he
        · cases he
      case baload =>
        split at he
        · rename_i i k B'
          obtain ⟨x', S1, rfl, hx, hS⟩ := ab_s_int hS
          obtain ⟨S1, hE, hT⟩ := ab_s_ref hS
          subst hE
          (replace hS := hT; clear hT)
          split at he
          · rename_i N hsk
            split at he
            · rename_i j hj
              obtain ⟨j1, j2, j3, j4⟩ := ab_ix_ok hx hj
              refine ⟨N, hsk, j1, ih _ _ _ _ he _ _ _ hL ⟨?_, hS⟩ hG⟩
              rw [j2]
              exact hG k j
            · cases he
          · cases he
        · cases he
      case iastore =>
        split at he
        · rename_i x i k B'
          obtain ⟨v', S1, rfl, hv, hS⟩ := ab_s_int hS
          obtain ⟨x', S1, rfl, hx, hS⟩ := ab_s_int hS
          obtain ⟨S1, hE, hT⟩ := ab_s_ref hS
          subst hE
          (replace hS := hT; clear hT)
          split at he
          · rename_i N hsk
            split at he
            · rename_i j hj
              obtain ⟨j1, j2, j3, j4⟩ := ab_ix_ok hx hj
              refine ⟨N, hsk, j1, ?_⟩
              rw [j2]
              exact ih _ _ _ _ he _ _ _ hL hS (ab_h_up hG hv)
            · cases he
          · cases he
        · cases he
      case bastore =>
        split at he
        · rename_i x i k B'
          obtain ⟨v', S1, rfl, hv, hS⟩ := ab_s_int hS
          obtain ⟨x', S1, rfl, hx, hS⟩ := ab_s_int hS
          obtain ⟨S1, hE, hT⟩ := ab_s_ref hS
          subst hE
          (replace hS := hT; clear hT)
          split at he
          · rename_i N hsk
            split at he
            · rename_i j hj
              obtain ⟨j1, j2, j3, j4⟩ := ab_ix_ok hx hj
              obtain ⟨hb, he⟩ := ab_bif he
              refine ⟨N, hsk, j1, ab_01_ok hv hb, ?_⟩
              rw [j2]
              exact ih _ _ _ _ he _ _ _ hL hS (ab_h_up hG hv)
            · cases he
          · cases he
        · cases he
      case if_icmp cc off =>
        split at he
        · obtain ⟨y', S1, rfl, hy, hS⟩ := ab_s_int hS
          obtain ⟨x', S2, rfl, hx, hS⟩ := ab_s_int hS
          split at he
          · rename_i hc
            exact Or.inl ⟨(ab_cmp_ok hx hy hc).mp rfl, ih _ _ _ _ he _ _ _ hL hS hG⟩
          · rename_i hc
            exact Or.inr ⟨fun z => Bool.noConfusion ((ab_cmp_ok hx hy hc).mpr z), ih _ _ _ _ he _ _ _ hL hS hG⟩
          · cases he
        · cases he
      case ifCond cc off =>
        split at he
        · obtain ⟨y', S1, rfl, hy, hS⟩ := ab_s_int hS
          have hz : ab_in (2147483648, 2147483648) 0 := ⟨Nat.le_of_eq ab_U0.symm, Nat.le_of_eq ab_U0⟩
          split at he
          · rename_i hc
            exact Or.inl ⟨(ab_cmp_ok hy hz hc).mp rfl, ih _ _ _ _ he _ _ _ hL hS hG⟩
          · rename_i hc
            exact Or.inr ⟨fun z => Bool.noConfusion ((ab_cmp_ok hy hz hc).mpr z), ih _ _ _ _ he _ _ _ hL hS hG⟩
          · cases he
        · cases he
      case tableswitch df lo hi offs =>
        split at he
        · rename_i x B'
          obtain ⟨x', S1, rfl, hx, hS⟩ := ab_s_int hS
          have hu := (ab_Ub x').1
          have := hx.1; have := hx.2
          cases hb : (decide ((x.2 : Int) < lo + 2147483648) || decide (hi + 2147483648 < (x.1 : Int))) with
          | true =>
            rw [hb] at he
            obtain ⟨h0, he⟩ := ab_bif (show (bif decide (0 ≤ (pc : Int) + df) then _ else none) = some (r, G2) from he)
            simp only [decide_eq_true_eq] at h0
            simp only [Bool.or_eq_true, decide_eq_true_eq] at hb
            refine Or.inl ⟨?_, ((pc : Int) + df).toNat, by omega, ih _ _ _ _ he _ _ _ hL hS hG⟩
            rcases hb with h1 | h1
            · left; omega
            · right; omega
          | false =>
            rw [hb] at he
            simp only [Bool.or_eq_false_iff, decide_eq_false_iff_not] at hb
            obtain ⟨h0, he⟩ := ab_bif (show (bif Nat.beq x.1 x.2 then _ else none) = some (r, G2) from he)
            have h0 := Nat.eq_of_beq_eq_true h0
            split at he
            · rename_i off hoff
              obtain ⟨h2, he⟩ := ab_bif he
              simp only [decide_eq_true_eq] at h2
              refine Or.inr ⟨by omega, by omega, off, ((pc : Int) + off).toNat, ?_, by omega, ih _ _ _ _ he _ _ _ hL hS hG⟩
              rw [← hoff, show x'.toInt - lo = (x.1 : Int) - 2147483648 - lo by omega]
            · cases he
        · cases he
      case invokevirtual ix =>
        split at he
        · rename_i k rest hd
          obtain ⟨hb, he⟩ := ab_bif he
          rw [Bool.and_eq_true] at hb
          split at he
          · rename_i ci fs hsk
            obtain ⟨hb2, he⟩ := ab_bif he
            split at he
            · rename_i r' G' hcall
              have ht := ab_s_take b hS
              rw [hd] at ht
              obtain ⟨S1, hS1, hS2⟩ := ab_s_ref ht.2
              obtain ⟨v, h2, c1, c2, c3⟩ := hce _ _ _ _ _ hcall (.ref k :: (S.take b).reverse) h ⟨rfl, ab_s_rev ht.1⟩ hG
              refine ⟨(S.take b).reverse, k, S1, fs, v, h2, ?_, ?_, ?_, ?_, c1, ih _ _ _ _ he _ _ _ hL (ab_s_ret c2 hS2) c3⟩
              · rw [List.reverse_reverse, ← hS1, List.take_append_drop]
              · rw [List.length_reverse, ab_s_len ht.1]; exact Nat.eq_of_beq_eq_true hb.1
              · rw [hsk, Nat.eq_of_beq_eq_true hb2]
              · rw [ab_s_sum hS2]; exact Nat.le_of_ble_eq_true hb.2
            · cases he
          · cases he
        · cases he
      case invokestatic ix =>
        by_cases h1 : a = 1001
        · simp only [if_pos h1] at he ⊢
          split at he
          · obtain ⟨hb, he⟩ := ab_bif he
            obtain ⟨y', S1, rfl, hy, hS⟩ := ab_s_int hS
            obtain ⟨x', S2, rfl, hx, hS⟩ := ab_s_int hS
            exact ⟨by rw [ab_s_sum hS]; exact Nat.le_of_ble_eq_true hb, ih _ _ _ _ he _ _ _ hL ⟨ab_in_min hx hy, hS⟩ hG⟩
          · cases he
        · by_cases h2 : a = 1002
          · simp only [if_neg h1, if_pos h2] at he ⊢
            split at he
            · obtain ⟨hb, he⟩ := ab_bif he
              obtain ⟨y', S1, rfl, hy, hS⟩ := ab_s_int hS
              obtain ⟨x', S2, rfl, hx, hS⟩ := ab_s_int hS
              exact ⟨by rw [ab_s_sum hS]; exact Nat.le_of_ble_eq_true hb, ih _ _ _ _ he _ _ _ hL ⟨ab_in_max hx hy, hS⟩ hG⟩
            · cases he
          · by_cases h3 : a = 1003
            · simp only [if_neg h1, if_neg h2, if_pos h3] at he ⊢
              split at he
              · rename_i m dp k1 sp k0 B'
                obtain ⟨m', S1, rfl, hm, hS⟩ := ab_s_int hS
                obtain ⟨d', S1, rfl, hd, hS⟩ := ab_s_int hS
                obtain ⟨S1, hE, hT⟩ := ab_s_ref hS
                subst hE
                (replace hS := hT; clear hT)
                obtain ⟨s', S1, rfl, hs, hS⟩ := ab_s_int hS
                obtain ⟨S1, hE, hT⟩ := ab_s_ref hS
                subst hE
                (replace hS := hT; clear hT)
                split at he
                · rename_i N0 N1 hk0 hk1
                  split at he
                  · rename_i i j hi hj
                    obtain ⟨hb, he⟩ := ab_bif he
                    simp only [Bool.and_eq_true] at hb
                    obtain ⟨i1, i2, i3, i4⟩ := ab_ix_ok hs hi
                    obtain ⟨j1, j2, j3, j4⟩ := ab_ix_ok hd hj
                    have e1 := Nat.eq_of_beq_eq_true hb.1.1
                    have e2 := Nat.eq_of_beq_eq_true hb.1.2
                    have hS9 := hS
                    have em : m' = 1 := by
                      rw [ab_eq_iff, ab_U1]
                      have := hm.1; have := hm.2
                      omega
                    subst em
                    have e3 : (1 : Int32).toNatClampNeg = 1 := by decide +kernel
                    refine ⟨N0, N1, hk0, hk1, i4, j4, by decide +kernel, by rw [i2, e3]; omega, by rw [j2, e3]; omega, by rw [ab_s_sum hS9]; exact Nat.le_of_ble_eq_true hb.2, ?_⟩
                    rw [i2, j2, e3]
                    exact ih _ _ _ _ he _ _ _ hL hS9 (ab_h_cp hG)
                  · cases he
                · cases he
              · cases he
            · simp only [if_neg h1, if_neg h2, if_neg h3] at he ⊢
              obtain ⟨hb, he⟩ := ab_bif he
              rw [Bool.and_eq_true] at hb
              split at he
              · rename_i r' G' hcall
                have ht := ab_s_take b hS
                obtain ⟨v, h4, c1, c2, c3⟩ := hce _ _ _ _ _ hcall ((S.take b).reverse) h (ab_s_rev ht.1) hG
                refine ⟨(S.take b).reverse, S.drop b, v, h4, ?_, ?_, ?_, c1, ih _ _ _ _ he _ _ _ hL (ab_s_ret c2 ht.2) c3⟩
                · rw [List.reverse_reverse, List.take_append_drop]
                · rw [List.length_reverse, ab_s_len ht.1]; exact Nat.eq_of_beq_eq_true hb.1
                · rw [ab_s_sum ht.2]; exact Nat.le_of_ble_eq_true hb.2
              · cases he
      case ireturn =>
        split at he
        · rename_i x
          obtain ⟨x', S1, rfl, hx, hS⟩ := ab_s_int hS
          cases ab_s_nil hS
          obtain ⟨hb, he⟩ := ab_bif he
          cases he
          rw [Bool.or_eq_true] at hb
          refine ⟨?_, hx, hG⟩
          rcases hb with h1 | h1
          · exact Or.inl (Nat.eq_of_beq_eq_true h1)
          · exact Or.inr (ab_01_ok hx h1)
        · cases he
      case return_ =>
        split at he
        · cases ab_s_nil hS
          cases he
          exact ⟨trivial, hG⟩
        · cases he
theorem ab_call {sh : ai_Sh} {mci ml : Nat → Nat} {cd : Nat → Nat → Option ai_I} {fuel : Nat} : ∀ (d i : Nat) (As : List ab_V) (G : ab_G) (r : Option (Nat × Nat)) (G2 : ab_G), ab_ec sh mci ml cd fuel d i As G = some (r, G2) → ∀ (vs : List Value) (h : ai_H), ab_s As vs → ab_h G h → ∃ v h2, ai_C sh mci ml cd d i vs h v h2 ∧ ab_r r v ∧ ab_h G2 h2
  | 0, _, _, _, _, _, he => by cases he
  | d + 1, i, As, G, r, G2, he => by
    intro vs h hs hG
    obtain ⟨hb, he⟩ := ab_bif he
    have hL := ab_l_ent (n := ml i) hs
    exact ai_intro (Q := fun r' h' => ab_r r r' ∧ ab_h G2 h') (by rw [ab_l_len hL]; exact Nat.eq_of_beq_eq_true hb) ⟨fuel, ab_sound (ab_call d) r G2 fuel 0 _ _ _ he _ _ _ hL trivial hG⟩
end
section
def shM : ai_Sh := [.inr (8, [none, none, some 1, some 2, some 3, some 4, some 5, some 6, some 7, some 8, some 9, some 10, some 11, none, some 12, some 13, some 14, some 15, some 16, some 17, some 18, none, some 19, some 20, none, some 21, some 22, none, some 23, none, some 24, some 25, none, none, some 26, some 27, some 28, some 29, some 30, some 31, none, some 32, some 33, some 34, some 35, some 36, some 37, some 38, some 39, none, none, none, none, some 40, none, none]), .inl (false, 6256), .inl (false, 6256), .inl (false, 6256), .inl (false, 6256), .inl (false, 6256), .inl (false, 6256), .inl (false, 6256), .inl (false, 18768), .inl (false, 18768), .inl (true, 6256), .inl (false, 6256), .inl (false, 12), .inl (false, 12), .inl (false, 12), .inl (false, 12), .inl (false, 36), .inl (false, 36), .inl (false, 108), .inl (false, 3), .inl (false, 3), .inl (false, 3), .inl (false, 3), .inl (false, 100), .inl (false, 200), .inl (false, 12), .inl (false, 9), .inl (false, 9), .inl (false, 9), .inl (false, 9), .inl (false, 400), .inl (false, 400), .inl (false, 104), .inl (false, 104), .inl (false, 104), .inl (false, 104), .inl (false, 312), .inl (false, 312), .inl (false, 104), .inl (false, 104), .inl (false, 210)]
/-- TypeForms2Model.in(III)Z -/
def kM_0 : List (Nat × ai_I) := [(0, .iload_n 0, 1, 0, 0, 0, 0), (1, .iload_n 1, 1, 1, 0, 0, 0), (2, .if_icmp .lt 12, 3, 14, 0, 0, 0), (5, .iload_n 0, 1, 0, 0, 0, 0), (6, .iload_n 2, 1, 2, 0, 0, 0), (7, .if_icmp .gt 7, 3, 14, 0, 0, 0), (10, .iconst 1, 1, 0, 0, 0, 1), (11, .goto 4, 3, 15, 0, 0, 0), (14, .iconst 0, 1, 0, 0, 0, 0), (15, .ireturn, 1, 0, 1, 0, 0)]
/-- TypeForms2Model.isNode(I)Z -/
def kM_1 : List (Nat × ai_I) := [(0, .iload_n 1, 1, 1, 0, 0, 0), (1, .iconst 0, 1, 0, 0, 0, 0), (2, .aload_n 0, 1, 0, 0, 0, 0), (3, .getfield 131, 3, 8, 0, 789, 0), (6, .iconst 1, 1, 0, 0, 0, 1), (7, .isub, 1, 0, 0, 0, 0), (8, .invokestatic 141, 3, 0, 3, 966, 0), (11, .ireturn, 1, 0, 1, 0, 0)]
/-- TypeForms2Model.isDecl(I)Z -/
def kM_2 : List (Nat × ai_I) := [(0, .iload_n 1, 1, 1, 0, 0, 0), (1, .iconst 0, 1, 0, 0, 0, 0), (2, .aload_n 0, 1, 0, 0, 0, 0), (3, .getfield 135, 3, 8, 13, 802, 0), (6, .iconst 1, 1, 0, 0, 0, 1), (7, .isub, 1, 0, 0, 0, 0), (8, .invokestatic 141, 3, 0, 3, 966, 0), (11, .ireturn, 1, 0, 1, 0, 0)]
/-- TypeForms2Model.isSame(IIIIII)Z -/
def kM_3 : List (Nat × ai_I) := [(0, .aload_n 0, 1, 0, 0, 0, 0), (1, .getfield 7, 3, 8, 2, 791, 0), (4, .iload_n 1, 1, 1, 0, 0, 0), (5, .iaload, 1, 0, 0, 0, 0), (6, .iload_n 2, 1, 2, 0, 0, 0), (7, .if_icmp .ne 52, 3, 59, 0, 0, 0), (10, .iload_n 2, 1, 2, 0, 0, 0), (11, .iconst 4, 1, 0, 0, 0, 4), (12, .if_icmp .ne 17, 3, 29, 0, 0, 0), (15, .aload_n 0, 1, 0, 0, 0, 0), (16, .getfield 19, 3, 8, 5, 794, 0), (19, .iload_n 1, 1, 1, 0, 0, 0), (20, .iaload, 1, 0, 0, 0, 0), (21, .iload 5, 2, 5, 0, 0, 0), (23, .if_icmp .ne 36, 3, 59, 0, 0, 0), (26, .goto 13, 3, 39, 0, 0, 0), (29, .aload_n 0, 1, 0, 0, 0, 0), (30, .getfield 13, 3, 8, 3, 792, 0), (33, .iload_n 1, 1, 1, 0, 0, 0), (34, .iaload, 1, 0, 0, 0, 0), (35, .iload_n 3, 1, 3, 0, 0, 0), (36, .if_icmp .ne 23, 3, 59, 0, 0, 0), (39, .iload_n 2, 1, 2, 0, 0, 0), (40, .iconst 3, 1, 0, 0, 0, 3), (41, .if_icmp .ne 14, 3, 55, 0, 0, 0), (44, .aload_n 0, 1, 0, 0, 0, 0), (45, .getfield 16, 3, 8, 4, 793, 0), (48, .iload_n 1, 1, 1, 0, 0, 0), (49, .iaload, 1, 0, 0, 0, 0), (50, .iload 4, 2, 4, 0, 0, 0), (52, .if_icmp .ne 7, 3, 59, 0, 0, 0), (55, .iconst 1, 1, 0, 0, 0, 1), (56, .goto 4, 3, 60, 0, 0, 0), (59, .iconst 0, 1, 0, 0, 0, 0), (60, .istore 7, 2, 7, 0, 0, 0), (62, .iload_n 2, 1, 2, 0, 0, 0), (63, .iconst 5, 1, 0, 0, 0, 5), (64, .if_icmp .ne 122, 3, 186, 0, 0, 0), (67, .iload 7, 2, 7, 0, 0, 0), (69, .ifCond .eq 31, 3, 100, 0, 0, 0), (72, .aload_n 0, 1, 0, 0, 0, 0), (73, .getfield 22, 3, 8, 6, 795, 0), (76, .iload_n 1, 1, 1, 0, 0, 0), (77, .iaload, 1, 0, 0, 0, 0), (78, .iload 6, 2, 6, 0, 0, 0), (80, .if_icmp .ne 20, 3, 100, 0, 0, 0), (83, .aload_n 0, 1, 0, 0, 0, 0), (84, .getfield 25, 3, 8, 7, 796, 0), (87, .iload_n 1, 1, 1, 0, 0, 0), (88, .iaload, 1, 0, 0, 0, 0), (89, .aload_n 0, 1, 0, 0, 0, 0), (90, .getfield 145, 3, 8, 24, 813, 0), (93, .if_icmp .ne 7, 3, 100, 0, 0, 0), (96, .iconst 1, 1, 0, 0, 0, 1), (97, .goto 4, 3, 101, 0, 0, 0), (100, .iconst 0, 1, 0, 0, 0, 0), (101, .istore 7, 2, 7, 0, 0, 0), (103, .iconst 0, 1, 0, 0, 0, 0), (104, .istore 8, 2, 8, 0, 0, 0), (106, .iload 8, 2, 8, 0, 0, 0), (108, .aload_n 0, 1, 0, 0, 0, 0), (109, .getfield 145, 3, 8, 24, 813, 0), (112, .if_icmp .ge 74, 3, 186, 0, 0, 0), (115, .iload 7, 2, 7, 0, 0, 0), (117, .ifCond .eq 69, 3, 186, 0, 0, 0), (120, .aload_n 0, 1, 0, 0, 0, 0), (121, .getfield 31, 3, 8, 9, 798, 0), (124, .iconst 3, 1, 0, 0, 0, 3), (125, .iload_n 1, 1, 1, 0, 0, 0), (126, .imul, 1, 0, 0, 0, 0), (127, .iload 8, 2, 8, 0, 0, 0), (129, .iadd, 1, 0, 0, 0, 0), (130, .iaload, 1, 0, 0, 0, 0), (131, .aload_n 0, 1, 0, 0, 0, 0), (132, .getfield 71, 3, 8, 25, 814, 0), (135, .iload 8, 2, 8, 0, 0, 0), (137, .iaload, 1, 0, 0, 0, 0), (138, .if_icmp .ne 39, 3, 177, 0, 0, 0), (141, .aload_n 0, 1, 0, 0, 0, 0), (142, .getfield 71, 3, 8, 25, 814, 0), (145, .iload 8, 2, 8, 0, 0, 0), (147, .iaload, 1, 0, 0, 0, 0), (148, .iconst 3, 1, 0, 0, 0, 3), (149, .if_icmp .eq 24, 3, 173, 0, 0, 0), (152, .aload_n 0, 1, 0, 0, 0, 0), (153, .getfield 34, 3, 8, 10, 799, 0), (156, .iconst 3, 1, 0, 0, 0, 3), (157, .iload_n 1, 1, 1, 0, 0, 0), (158, .imul, 1, 0, 0, 0, 0), (159, .iload 8, 2, 8, 0, 0, 0), (161, .iadd, 1, 0, 0, 0, 0), (162, .iaload, 1, 0, 0, 0, 0), (163, .aload_n 0, 1, 0, 0, 0, 0), (164, .getfield 74, 3, 8, 26, 815, 0), (167, .iload 8, 2, 8, 0, 0, 0), (169, .iaload, 1, 0, 0, 0, 0), (170, .if_icmp .ne 7, 3, 177, 0, 0, 0), (173, .iconst 1, 1, 0, 0, 0, 1), (174, .goto 4, 3, 178, 0, 0, 0), (177, .iconst 0, 1, 0, 0, 0, 0), (178, .istore 7, 2, 7, 0, 0, 0), (180, .iinc 8 1, 3, 8, 0, 0, 1), (183, .goto (-77), 3, 106, 0, 0, 0), (186, .iload 7, 2, 7, 0, 0, 0), (188, .ireturn, 1, 0, 1, 0, 0)]
/-- TypeForms2Model.write(IIIIII)V -/
def kM_4 : List (Nat × ai_I) := [(0, .aload_n 0, 1, 0, 0, 0, 0), (1, .getfield 7, 3, 8, 2, 791, 0), (4, .iload_n 1, 1, 1, 0, 0, 0), (5, .iload_n 2, 1, 2, 0, 0, 0), (6, .iastore, 1, 0, 0, 0, 0), (7, .aload_n 0, 1, 0, 0, 0, 0), (8, .getfield 13, 3, 8, 3, 792, 0), (11, .iload_n 1, 1, 1, 0, 0, 0), (12, .iload_n 3, 1, 3, 0, 0, 0), (13, .iastore, 1, 0, 0, 0, 0), (14, .aload_n 0, 1, 0, 0, 0, 0), (15, .getfield 16, 3, 8, 4, 793, 0), (18, .iload_n 1, 1, 1, 0, 0, 0), (19, .iload 4, 2, 4, 0, 0, 0), (21, .iastore, 1, 0, 0, 0, 0), (22, .aload_n 0, 1, 0, 0, 0, 0), (23, .getfield 19, 3, 8, 5, 794, 0), (26, .iload_n 1, 1, 1, 0, 0, 0), (27, .iload 5, 2, 5, 0, 0, 0), (29, .iastore, 1, 0, 0, 0, 0), (30, .aload_n 0, 1, 0, 0, 0, 0), (31, .getfield 22, 3, 8, 6, 795, 0), (34, .iload_n 1, 1, 1, 0, 0, 0), (35, .iload 6, 2, 6, 0, 0, 0), (37, .iastore, 1, 0, 0, 0, 0), (38, .aload_n 0, 1, 0, 0, 0, 0), (39, .getfield 25, 3, 8, 7, 796, 0), (42, .iload_n 1, 1, 1, 0, 0, 0), (43, .iload_n 2, 1, 2, 0, 0, 0), (44, .iconst 5, 1, 0, 0, 0, 5), (45, .if_icmp .ne 10, 3, 55, 0, 0, 0), (48, .aload_n 0, 1, 0, 0, 0, 0), (49, .getfield 145, 3, 8, 24, 813, 0), (52, .goto 4, 3, 56, 0, 0, 0), (55, .iconst 0, 1, 0, 0, 0, 0), (56, .iastore, 1, 0, 0, 0, 0), (57, .iconst 0, 1, 0, 0, 0, 0), (58, .istore 7, 2, 7, 0, 0, 0), (60, .iload 7, 2, 7, 0, 0, 0), (62, .aload_n 0, 1, 0, 0, 0, 0), (63, .getfield 25, 3, 8, 7, 796, 0), (66, .iload_n 1, 1, 1, 0, 0, 0), (67, .iaload, 1, 0, 0, 0, 0), (68, .if_icmp .ge 60, 3, 128, 0, 0, 0), (71, .aload_n 0, 1, 0, 0, 0, 0), (72, .getfield 31, 3, 8, 9, 798, 0), (75, .iconst 3, 1, 0, 0, 0, 3), (76, .iload_n 1, 1, 1, 0, 0, 0), (77, .imul, 1, 0, 0, 0, 0), (78, .iload 7, 2, 7, 0, 0, 0), (80, .iadd, 1, 0, 0, 0, 0), (81, .aload_n 0, 1, 0, 0, 0, 0), (82, .getfield 71, 3, 8, 25, 814, 0), (85, .iload 7, 2, 7, 0, 0, 0), (87, .iaload, 1, 0, 0, 0, 0), (88, .iastore, 1, 0, 0, 0, 0), (89, .aload_n 0, 1, 0, 0, 0, 0), (90, .getfield 34, 3, 8, 10, 799, 0), (93, .iconst 3, 1, 0, 0, 0, 3), (94, .iload_n 1, 1, 1, 0, 0, 0), (95, .imul, 1, 0, 0, 0, 0), (96, .iload 7, 2, 7, 0, 0, 0), (98, .iadd, 1, 0, 0, 0, 0), (99, .aload_n 0, 1, 0, 0, 0, 0), (100, .getfield 71, 3, 8, 25, 814, 0), (103, .iload 7, 2, 7, 0, 0, 0), (105, .iaload, 1, 0, 0, 0, 0), (106, .iconst 3, 1, 0, 0, 0, 3), (107, .if_icmp .ne 7, 3, 114, 0, 0, 0), (110, .iconst (-1), 1, 0, 0, 0, (-1)), (111, .goto 10, 3, 121, 0, 0, 0), (114, .aload_n 0, 1, 0, 0, 0, 0), (115, .getfield 74, 3, 8, 26, 815, 0), (118, .iload 7, 2, 7, 0, 0, 0), (120, .iaload, 1, 0, 0, 0, 0), (121, .iastore, 1, 0, 0, 0, 0), (122, .iinc 7 1, 3, 7, 0, 0, 1), (125, .goto (-65), 3, 60, 0, 0, 0), (128, .aload_n 0, 1, 0, 0, 0, 0), (129, .getfield 28, 3, 8, 8, 797, 0), (132, .iload_n 1, 1, 1, 0, 0, 0), (133, .iconst 1, 1, 0, 0, 0, 1), (134, .iload_n 2, 1, 2, 0, 0, 0), (135, .iconst 4, 1, 0, 0, 0, 4), (136, .if_icmp .ne 13, 3, 149, 0, 0, 0), (139, .aload_n 0, 1, 0, 0, 0, 0), (140, .getfield 28, 3, 8, 8, 797, 0), (143, .iload 5, 2, 5, 0, 0, 0), (145, .iaload, 1, 0, 0, 0, 0), (146, .goto 24, 3, 170, 0, 0, 0), (149, .iload_n 2, 1, 2, 0, 0, 0), (150, .iconst 5, 1, 0, 0, 0, 5), (151, .if_icmp .ne 18, 3, 169, 0, 0, 0), (154, .iload 6, 2, 6, 0, 0, 0), (156, .ifCond .lt 13, 3, 169, 0, 0, 0), (159, .aload_n 0, 1, 0, 0, 0, 0), (160, .getfield 28, 3, 8, 8, 797, 0), (163, .iload 6, 2, 6, 0, 0, 0), (165, .iaload, 1, 0, 0, 0, 0), (166, .goto 4, 3, 170, 0, 0, 0), (169, .iconst 0, 1, 0, 0, 0, 0), (170, .iadd, 1, 0, 0, 0, 0), (171, .iastore, 1, 0, 0, 0, 0), (172, .iconst 0, 1, 0, 0, 0, 0), (173, .istore 7, 2, 7, 0, 0, 0), (175, .iload 7, 2, 7, 0, 0, 0), (177, .aload_n 0, 1, 0, 0, 0, 0), (178, .getfield 25, 3, 8, 7, 796, 0), (181, .iload_n 1, 1, 1, 0, 0, 0), (182, .iaload, 1, 0, 0, 0, 0), (183, .if_icmp .ge 45, 3, 228, 0, 0, 0), (186, .aload_n 0, 1, 0, 0, 0, 0), (187, .getfield 28, 3, 8, 8, 797, 0), (190, .iload_n 1, 1, 1, 0, 0, 0), (191, .dup2, 1, 0, 0, 0, 0), (192, .iaload, 1, 0, 0, 0, 0), (193, .aload_n 0, 1, 0, 0, 0, 0), (194, .getfield 71, 3, 8, 25, 814, 0), (197, .iload 7, 2, 7, 0, 0, 0), (199, .iaload, 1, 0, 0, 0, 0), (200, .iconst 3, 1, 0, 0, 0, 3), (201, .if_icmp .ne 7, 3, 208, 0, 0, 0), (204, .iconst 0, 1, 0, 0, 0, 0), (205, .goto 15, 3, 220, 0, 0, 0), (208, .aload_n 0, 1, 0, 0, 0, 0), (209, .getfield 28, 3, 8, 8, 797, 0), (212, .aload_n 0, 1, 0, 0, 0, 0), (213, .getfield 74, 3, 8, 26, 815, 0), (216, .iload 7, 2, 7, 0, 0, 0), (218, .iaload, 1, 0, 0, 0, 0), (219, .iaload, 1, 0, 0, 0, 0), (220, .iadd, 1, 0, 0, 0, 0), (221, .iastore, 1, 0, 0, 0, 0), (222, .iinc 7 1, 3, 7, 0, 0, 1), (225, .goto (-50), 3, 175, 0, 0, 0), (228, .return_, 1, 0, 0, 0, 0)]
/-- TypeForms2Model.type(IIIII)I -/
def kM_5 : List (Nat × ai_I) := [(0, .bipush 10, 2, 0, 0, 0, 10), (2, .istore 6, 2, 6, 0, 0, 0), (4, .iload 6, 2, 6, 0, 0, 0), (6, .aload_n 0, 1, 0, 0, 0, 0), (7, .getfield 131, 3, 8, 0, 789, 0), (10, .if_icmp .ge 28, 3, 38, 0, 0, 0), (13, .aload_n 0, 1, 0, 0, 0, 0), (14, .iload 6, 2, 6, 0, 0, 0), (16, .iload_n 1, 1, 1, 0, 0, 0), (17, .iload_n 2, 1, 2, 0, 0, 0), (18, .iload_n 3, 1, 3, 0, 0, 0), (19, .iload 4, 2, 4, 0, 0, 0), (21, .iload 5, 2, 5, 0, 0, 0), (23, .invokevirtual 148, 3, 3, 6, 981, 0), (26, .ifCond .eq 6, 3, 32, 0, 0, 0), (29, .iload 6, 2, 6, 0, 0, 0), (31, .ireturn, 1, 0, 0, 0, 0), (32, .iinc 6 1, 3, 6, 0, 0, 1), (35, .goto (-31), 3, 4, 0, 0, 0), (38, .sipush 256, 3, 0, 0, 0, 256), (41, .istore 6, 2, 6, 0, 0, 0), (43, .iload 6, 2, 6, 0, 0, 0), (45, .aload_n 0, 1, 0, 0, 0, 0), (46, .getfield 138, 3, 8, 1, 790, 0), (49, .if_icmp .ge 28, 3, 77, 0, 0, 0), (52, .aload_n 0, 1, 0, 0, 0, 0), (53, .iload 6, 2, 6, 0, 0, 0), (55, .iload_n 1, 1, 1, 0, 0, 0), (56, .iload_n 2, 1, 2, 0, 0, 0), (57, .iload_n 3, 1, 3, 0, 0, 0), (58, .iload 4, 2, 4, 0, 0, 0), (60, .iload 5, 2, 5, 0, 0, 0), (62, .invokevirtual 148, 3, 3, 6, 981, 0), (65, .ifCond .eq 6, 3, 71, 0, 0, 0), (68, .iload 6, 2, 6, 0, 0, 0), (70, .ireturn, 1, 0, 0, 0, 0), (71, .iinc 6 1, 3, 6, 0, 0, 1), (74, .goto (-31), 3, 43, 0, 0, 0), (77, .aload_n 0, 1, 0, 0, 0, 0), (78, .aload_n 0, 1, 0, 0, 0, 0), (79, .getfield 138, 3, 8, 1, 790, 0), (82, .iload_n 1, 1, 1, 0, 0, 0), (83, .iload_n 2, 1, 2, 0, 0, 0), (84, .iload_n 3, 1, 3, 0, 0, 0), (85, .iload 4, 2, 4, 0, 0, 0), (87, .iload 5, 2, 5, 0, 0, 0), (89, .invokevirtual 152, 3, 4, 6, 969, 0), (92, .aload_n 0, 1, 0, 0, 0, 0), (93, .dup, 1, 0, 0, 0, 0), (94, .getfield 138, 3, 8, 1, 790, 0), (97, .iconst 1, 1, 0, 0, 0, 1), (98, .iadd, 1, 0, 0, 0, 0), (99, .putfield 138, 3, 8, 1, 790, 0), (102, .aload_n 0, 1, 0, 0, 0, 0), (103, .getfield 138, 3, 8, 1, 790, 0), (106, .iconst 1, 1, 0, 0, 0, 1), (107, .isub, 1, 0, 0, 0, 0), (108, .ireturn, 1, 0, 0, 0, 0)]
/-- TypeForms2Model.arrayOf(I)I -/
def kM_6 : List (Nat × ai_I) := [(0, .aload_n 0, 1, 0, 0, 0, 0), (1, .iconst 4, 1, 0, 0, 0, 4), (2, .iconst (-1), 1, 0, 0, 0, (-1)), (3, .iconst (-1), 1, 0, 0, 0, (-1)), (4, .iload_n 1, 1, 1, 0, 0, 0), (5, .iconst (-1), 1, 0, 0, 0, (-1)), (6, .invokevirtual 156, 3, 5, 5, 977, 0), (9, .ireturn, 1, 0, 0, 0, 0)]
/-- TypeForms2Model.bare(II)I -/
def kM_7 : List (Nat × ai_I) := [(0, .aload_n 0, 1, 0, 0, 0, 0), (1, .iconst 0, 1, 0, 0, 0, 0), (2, .putfield 145, 3, 8, 24, 813, 0), (5, .aload_n 0, 1, 0, 0, 0, 0), (6, .iconst 5, 1, 0, 0, 0, 5), (7, .iload_n 1, 1, 1, 0, 0, 0), (8, .iconst (-1), 1, 0, 0, 0, (-1)), (9, .iconst (-1), 1, 0, 0, 0, (-1)), (10, .iload_n 2, 1, 2, 0, 0, 0), (11, .invokevirtual 156, 3, 5, 5, 977, 0), (14, .ireturn, 1, 0, 0, 0, 0)]
/-- TypeForms2Model.lower(I)I -/
def kM_8 : List (Nat × ai_I) := [(0, .iload_n 1, 1, 1, 0, 0, 0), (1, .sipush 256, 3, 0, 0, 0, 256), (4, .if_icmp .ne 12, 3, 16, 0, 0, 0), (7, .aload_n 0, 1, 0, 0, 0, 0), (8, .getfield 131, 3, 8, 0, 789, 0), (11, .iconst 1, 1, 0, 0, 0, 1), (12, .isub, 1, 0, 0, 0, 0), (13, .goto 6, 3, 19, 0, 0, 0), (16, .iload_n 1, 1, 1, 0, 0, 0), (17, .iconst 1, 1, 0, 0, 0, 1), (18, .isub, 1, 0, 0, 0, 0), (19, .ireturn, 1, 0, 0, 0, 0)]
/-- TypeForms2Model.higher(I)I -/
def kM_9 : List (Nat × ai_I) := [(0, .iload_n 1, 1, 1, 0, 0, 0), (1, .aload_n 0, 1, 0, 0, 0, 0), (2, .getfield 131, 3, 8, 0, 789, 0), (5, .iconst 1, 1, 0, 0, 0, 1), (6, .isub, 1, 0, 0, 0, 0), (7, .if_icmp .ne 9, 3, 16, 0, 0, 0), (10, .sipush 256, 3, 0, 0, 0, 256), (13, .goto 6, 3, 19, 0, 0, 0), (16, .iload_n 1, 1, 1, 0, 0, 0), (17, .iconst 1, 1, 0, 0, 0, 1), (18, .iadd, 1, 0, 0, 0, 0), (19, .ireturn, 1, 0, 0, 0, 0)]
/-- TypeForms2Model.reach(I)V -/
def kM_10 : List (Nat × ai_I) := [(0, .iconst 0, 1, 0, 0, 0, 0), (1, .istore_n 2, 1, 2, 0, 0, 0), (2, .iload_n 2, 1, 2, 0, 0, 0), (3, .aload_n 0, 1, 0, 0, 0, 0), (4, .getfield 131, 3, 8, 0, 789, 0), (7, .if_icmp .ge 16, 3, 23, 0, 0, 0), (10, .aload_n 0, 1, 0, 0, 0, 0), (11, .getfield 37, 3, 8, 11, 800, 0), (14, .iload_n 2, 1, 2, 0, 0, 0), (15, .iconst 0, 1, 0, 0, 0, 0), (16, .bastore, 1, 0, 0, 0, 0), (17, .iinc 2 1, 3, 2, 0, 0, 1), (20, .goto (-18), 3, 2, 0, 0, 0), (23, .sipush 256, 3, 0, 0, 0, 256), (26, .istore_n 2, 1, 2, 0, 0, 0), (27, .iload_n 2, 1, 2, 0, 0, 0), (28, .aload_n 0, 1, 0, 0, 0, 0), (29, .getfield 138, 3, 8, 1, 790, 0), (32, .if_icmp .ge 16, 3, 48, 0, 0, 0), (35, .aload_n 0, 1, 0, 0, 0, 0), (36, .getfield 37, 3, 8, 11, 800, 0), (39, .iload_n 2, 1, 2, 0, 0, 0), (40, .iconst 0, 1, 0, 0, 0, 0), (41, .bastore, 1, 0, 0, 0, 0), (42, .iinc 2 1, 3, 2, 0, 0, 1), (45, .goto (-18), 3, 27, 0, 0, 0), (48, .aload_n 0, 1, 0, 0, 0, 0), (49, .getfield 37, 3, 8, 11, 800, 0), (52, .iload_n 1, 1, 1, 0, 0, 0), (53, .iconst 1, 1, 0, 0, 0, 1), (54, .bastore, 1, 0, 0, 0, 0), (55, .iload_n 1, 1, 1, 0, 0, 0), (56, .istore_n 2, 1, 2, 0, 0, 0), (57, .iload_n 2, 1, 2, 0, 0, 0), (58, .bipush 10, 2, 0, 0, 0, 10), (60, .if_icmp .lt 132, 3, 192, 0, 0, 0), (63, .aload_n 0, 1, 0, 0, 0, 0), (64, .getfield 37, 3, 8, 11, 800, 0), (67, .iload_n 2, 1, 2, 0, 0, 0), (68, .baload, 1, 0, 0, 0, 0), (69, .ifCond .eq 114, 3, 183, 0, 0, 0), (72, .aload_n 0, 1, 0, 0, 0, 0), (73, .getfield 7, 3, 8, 2, 791, 0), (76, .iload_n 2, 1, 2, 0, 0, 0), (77, .iaload, 1, 0, 0, 0, 0), (78, .iconst 4, 1, 0, 0, 0, 4), (79, .if_icmp .ne 15, 3, 94, 0, 0, 0), (82, .aload_n 0, 1, 0, 0, 0, 0), (83, .getfield 37, 3, 8, 11, 800, 0), (86, .aload_n 0, 1, 0, 0, 0, 0), (87, .getfield 19, 3, 8, 5, 794, 0), (90, .iload_n 2, 1, 2, 0, 0, 0), (91, .iaload, 1, 0, 0, 0, 0), (92, .iconst 1, 1, 0, 0, 0, 1), (93, .bastore, 1, 0, 0, 0, 0), (94, .aload_n 0, 1, 0, 0, 0, 0), (95, .getfield 7, 3, 8, 2, 791, 0), (98, .iload_n 2, 1, 2, 0, 0, 0), (99, .iaload, 1, 0, 0, 0, 0), (100, .iconst 5, 1, 0, 0, 0, 5), (101, .if_icmp .ne 24, 3, 125, 0, 0, 0), (104, .aload_n 0, 1, 0, 0, 0, 0), (105, .getfield 22, 3, 8, 6, 795, 0), (108, .iload_n 2, 1, 2, 0, 0, 0), (109, .iaload, 1, 0, 0, 0, 0), (110, .ifCond .lt 15, 3, 125, 0, 0, 0), (113, .aload_n 0, 1, 0, 0, 0, 0), (114, .getfield 37, 3, 8, 11, 800, 0), (117, .aload_n 0, 1, 0, 0, 0, 0), (118, .getfield 22, 3, 8, 6, 795, 0), (121, .iload_n 2, 1, 2, 0, 0, 0), (122, .iaload, 1, 0, 0, 0, 0), (123, .iconst 1, 1, 0, 0, 0, 1), (124, .bastore, 1, 0, 0, 0, 0), (125, .iconst 0, 1, 0, 0, 0, 0), (126, .istore_n 3, 1, 3, 0, 0, 0), (127, .aload_n 0, 1, 0, 0, 0, 0), (128, .getfield 7, 3, 8, 2, 791, 0), (131, .iload_n 2, 1, 2, 0, 0, 0), (132, .iaload, 1, 0, 0, 0, 0), (133, .iconst 5, 1, 0, 0, 0, 5), (134, .if_icmp .ne 49, 3, 183, 0, 0, 0), (137, .iload_n 3, 1, 3, 0, 0, 0), (138, .aload_n 0, 1, 0, 0, 0, 0), (139, .getfield 25, 3, 8, 7, 796, 0), (142, .iload_n 2, 1, 2, 0, 0, 0), (143, .iaload, 1, 0, 0, 0, 0), (144, .if_icmp .ge 39, 3, 183, 0, 0, 0), (147, .aload_n 0, 1, 0, 0, 0, 0), (148, .getfield 31, 3, 8, 9, 798, 0), (151, .iconst 3, 1, 0, 0, 0, 3), (152, .iload_n 2, 1, 2, 0, 0, 0), (153, .imul, 1, 0, 0, 0, 0), (154, .iload_n 3, 1, 3, 0, 0, 0), (155, .iadd, 1, 0, 0, 0, 0), (156, .iaload, 1, 0, 0, 0, 0), (157, .iconst 3, 1, 0, 0, 0, 3), (158, .if_icmp .eq 19, 3, 177, 0, 0, 0), (161, .aload_n 0, 1, 0, 0, 0, 0), (162, .getfield 37, 3, 8, 11, 800, 0), (165, .aload_n 0, 1, 0, 0, 0, 0), (166, .getfield 34, 3, 8, 10, 799, 0), (169, .iconst 3, 1, 0, 0, 0, 3), (170, .iload_n 2, 1, 2, 0, 0, 0), (171, .imul, 1, 0, 0, 0, 0), (172, .iload_n 3, 1, 3, 0, 0, 0), (173, .iadd, 1, 0, 0, 0, 0), (174, .iaload, 1, 0, 0, 0, 0), (175, .iconst 1, 1, 0, 0, 0, 1), (176, .bastore, 1, 0, 0, 0, 0), (177, .iinc 3 1, 3, 3, 0, 0, 1), (180, .goto (-53), 3, 127, 0, 0, 0), (183, .aload_n 0, 1, 0, 0, 0, 0), (184, .iload_n 2, 1, 2, 0, 0, 0), (185, .invokevirtual 160, 3, 8, 1, 1005, 0), (188, .istore_n 2, 1, 2, 0, 0, 0), (189, .goto (-132), 3, 57, 0, 0, 0), (192, .return_, 1, 0, 0, 0, 0)]
/-- TypeForms2Model.hasVariable(I)Z -/
def kM_11 : List (Nat × ai_I) := [(0, .aload_n 0, 1, 0, 0, 0, 0), (1, .iload_n 1, 1, 1, 0, 0, 0), (2, .invokevirtual 164, 3, 10, 1, 1001, 0), (5, .iconst 0, 1, 0, 0, 0, 0), (6, .istore_n 2, 1, 2, 0, 0, 0), (7, .iload_n 1, 1, 1, 0, 0, 0), (8, .istore_n 3, 1, 3, 0, 0, 0), (9, .iload_n 3, 1, 3, 0, 0, 0), (10, .bipush 10, 2, 0, 0, 0, 10), (12, .if_icmp .lt 41, 3, 53, 0, 0, 0), (15, .iload_n 2, 1, 2, 0, 0, 0), (16, .ifCond .ne 22, 3, 38, 0, 0, 0), (19, .aload_n 0, 1, 0, 0, 0, 0), (20, .getfield 37, 3, 8, 11, 800, 0), (23, .iload_n 3, 1, 3, 0, 0, 0), (24, .baload, 1, 0, 0, 0, 0), (25, .ifCond .eq 17, 3, 42, 0, 0, 0), (28, .aload_n 0, 1, 0, 0, 0, 0), (29, .getfield 7, 3, 8, 2, 791, 0), (32, .iload_n 3, 1, 3, 0, 0, 0), (33, .iaload, 1, 0, 0, 0, 0), (34, .iconst 3, 1, 0, 0, 0, 3), (35, .if_icmp .ne 7, 3, 42, 0, 0, 0), (38, .iconst 1, 1, 0, 0, 0, 1), (39, .goto 4, 3, 43, 0, 0, 0), (42, .iconst 0, 1, 0, 0, 0, 0), (43, .istore_n 2, 1, 2, 0, 0, 0), (44, .aload_n 0, 1, 0, 0, 0, 0), (45, .iload_n 3, 1, 3, 0, 0, 0), (46, .invokevirtual 160, 3, 8, 1, 1005, 0), (49, .istore_n 3, 1, 3, 0, 0, 0), (50, .goto (-41), 3, 9, 0, 0, 0), (53, .iload_n 2, 1, 2, 0, 0, 0), (54, .ireturn, 1, 0, 1, 0, 0)]
/-- TypeForms2Model.isRaw(I)Z -/
def kM_12 : List (Nat × ai_I) := [(0, .iconst 0, 1, 0, 0, 0, 0), (1, .istore_n 2, 1, 2, 0, 0, 0), (2, .iload_n 1, 1, 1, 0, 0, 0), (3, .istore_n 3, 1, 3, 0, 0, 0), (4, .iload_n 3, 1, 3, 0, 0, 0), (5, .ifCond .lt 56, 3, 61, 0, 0, 0), (8, .aload_n 0, 1, 0, 0, 0, 0), (9, .getfield 7, 3, 8, 2, 791, 0), (12, .iload_n 3, 1, 3, 0, 0, 0), (13, .iaload, 1, 0, 0, 0, 0), (14, .iconst 5, 1, 0, 0, 0, 5), (15, .if_icmp .ne 46, 3, 61, 0, 0, 0), (18, .iload_n 2, 1, 2, 0, 0, 0), (19, .ifCond .ne 26, 3, 45, 0, 0, 0), (22, .aload_n 0, 1, 0, 0, 0, 0), (23, .getfield 47, 3, 8, 15, 804, 0), (26, .aload_n 0, 1, 0, 0, 0, 0), (27, .getfield 13, 3, 8, 3, 792, 0), (30, .iload_n 3, 1, 3, 0, 0, 0), (31, .iaload, 1, 0, 0, 0, 0), (32, .iaload, 1, 0, 0, 0, 0), (33, .ifCond .le 16, 3, 49, 0, 0, 0), (36, .aload_n 0, 1, 0, 0, 0, 0), (37, .getfield 25, 3, 8, 7, 796, 0), (40, .iload_n 3, 1, 3, 0, 0, 0), (41, .iaload, 1, 0, 0, 0, 0), (42, .ifCond .ne 7, 3, 49, 0, 0, 0), (45, .iconst 1, 1, 0, 0, 0, 1), (46, .goto 4, 3, 50, 0, 0, 0), (49, .iconst 0, 1, 0, 0, 0, 0), (50, .istore_n 2, 1, 2, 0, 0, 0), (51, .aload_n 0, 1, 0, 0, 0, 0), (52, .getfield 22, 3, 8, 6, 795, 0), (55, .iload_n 3, 1, 3, 0, 0, 0), (56, .iaload, 1, 0, 0, 0, 0), (57, .istore_n 3, 1, 3, 0, 0, 0), (58, .goto (-54), 3, 4, 0, 0, 0), (61, .iload_n 2, 1, 2, 0, 0, 0), (62, .ireturn, 1, 0, 1, 0, 0)]
/-- TypeForms2Model.erasedOf(I)I -/
def kM_13 : List (Nat × ai_I) := [(0, .iload_n 1, 1, 1, 0, 0, 0), (1, .istore_n 2, 1, 2, 0, 0, 0), (2, .iconst 0, 1, 0, 0, 0, 0), (3, .istore_n 3, 1, 3, 0, 0, 0), (4, .aload_n 0, 1, 0, 0, 0, 0), (5, .getfield 7, 3, 8, 2, 791, 0), (8, .iload_n 2, 1, 2, 0, 0, 0), (9, .iaload, 1, 0, 0, 0, 0), (10, .iconst 4, 1, 0, 0, 0, 4), (11, .if_icmp .ne 16, 3, 27, 0, 0, 0), (14, .aload_n 0, 1, 0, 0, 0, 0), (15, .getfield 19, 3, 8, 5, 794, 0), (18, .iload_n 2, 1, 2, 0, 0, 0), (19, .iaload, 1, 0, 0, 0, 0), (20, .istore_n 2, 1, 2, 0, 0, 0), (21, .iinc 3 1, 3, 3, 0, 0, 1), (24, .goto (-20), 3, 4, 0, 0, 0), (27, .aload_n 0, 1, 0, 0, 0, 0), (28, .getfield 7, 3, 8, 2, 791, 0), (31, .iload_n 2, 1, 2, 0, 0, 0), (32, .iaload, 1, 0, 0, 0, 0), (33, .iconst 3, 1, 0, 0, 0, 3), (34, .if_icmp .ne 48, 3, 82, 0, 0, 0), (37, .iconst 3, 1, 0, 0, 0, 3), (38, .aload_n 0, 1, 0, 0, 0, 0), (39, .getfield 13, 3, 8, 3, 792, 0), (42, .iload_n 2, 1, 2, 0, 0, 0), (43, .iaload, 1, 0, 0, 0, 0), (44, .imul, 1, 0, 0, 0, 0), (45, .aload_n 0, 1, 0, 0, 0, 0), (46, .getfield 16, 3, 8, 4, 793, 0), (49, .iload_n 2, 1, 2, 0, 0, 0), (50, .iaload, 1, 0, 0, 0, 0), (51, .iadd, 1, 0, 0, 0, 0), (52, .istore 4, 2, 4, 0, 0, 0), (54, .aload_n 0, 1, 0, 0, 0, 0), (55, .getfield 59, 3, 8, 19, 808, 0), (58, .iload 4, 2, 4, 0, 0, 0), (60, .iaload, 1, 0, 0, 0, 0), (61, .ifCond .le 15, 3, 76, 0, 0, 0), (64, .aload_n 0, 1, 0, 0, 0, 0), (65, .getfield 62, 3, 8, 20, 809, 0), (68, .iconst 3, 1, 0, 0, 0, 3), (69, .iload 4, 2, 4, 0, 0, 0), (71, .imul, 1, 0, 0, 0, 0), (72, .iaload, 1, 0, 0, 0, 0), (73, .goto 5, 3, 78, 0, 0, 0), (76, .bipush 10, 2, 0, 0, 0, 10), (78, .istore_n 2, 1, 2, 0, 0, 0), (79, .goto (-52), 3, 27, 0, 0, 0), (82, .aload_n 0, 1, 0, 0, 0, 0), (83, .getfield 7, 3, 8, 2, 791, 0), (86, .iload_n 2, 1, 2, 0, 0, 0), (87, .iaload, 1, 0, 0, 0, 0), (88, .iconst 5, 1, 0, 0, 0, 5), (89, .if_icmp .ne 60, 3, 149, 0, 0, 0), (92, .iconst 0, 1, 0, 0, 0, 0), (93, .istore 4, 2, 4, 0, 0, 0), (95, .iload_n 2, 1, 2, 0, 0, 0), (96, .ifCond .lt 29, 3, 125, 0, 0, 0), (99, .aload_n 0, 1, 0, 0, 0, 0), (100, .getfield 83, 3, 8, 31, 820, 0), (103, .iload 4, 2, 4, 0, 0, 0), (105, .aload_n 0, 1, 0, 0, 0, 0), (106, .getfield 13, 3, 8, 3, 792, 0), (109, .iload_n 2, 1, 2, 0, 0, 0), (110, .iaload, 1, 0, 0, 0, 0), (111, .iastore, 1, 0, 0, 0, 0), (112, .iinc 4 1, 3, 4, 0, 0, 1), (115, .aload_n 0, 1, 0, 0, 0, 0), (116, .getfield 22, 3, 8, 6, 795, 0), (119, .iload_n 2, 1, 2, 0, 0, 0), (120, .iaload, 1, 0, 0, 0, 0), (121, .istore_n 2, 1, 2, 0, 0, 0), (122, .goto (-27), 3, 95, 0, 0, 0), (125, .iload 4, 2, 4, 0, 0, 0), (127, .ifCond .le 22, 3, 149, 0, 0, 0), (130, .iinc 4 (-1), 3, 4, 0, 0, (-1)), (133, .aload_n 0, 1, 0, 0, 0, 0), (134, .aload_n 0, 1, 0, 0, 0, 0), (135, .getfield 83, 3, 8, 31, 820, 0), (138, .iload 4, 2, 4, 0, 0, 0), (140, .iaload, 1, 0, 0, 0, 0), (141, .iload_n 2, 1, 2, 0, 0, 0), (142, .invokevirtual 168, 3, 7, 2, 1045, 0), (145, .istore_n 2, 1, 2, 0, 0, 0), (146, .goto (-21), 3, 125, 0, 0, 0), (149, .iload_n 3, 1, 3, 0, 0, 0), (150, .ifCond .le 15, 3, 165, 0, 0, 0), (153, .aload_n 0, 1, 0, 0, 0, 0), (154, .iload_n 2, 1, 2, 0, 0, 0), (155, .invokevirtual 172, 3, 6, 1, 1049, 0), (158, .istore_n 2, 1, 2, 0, 0, 0), (159, .iinc 3 (-1), 3, 3, 0, 0, (-1)), (162, .goto (-13), 3, 149, 0, 0, 0), (165, .iload_n 2, 1, 2, 0, 0, 0), (166, .ireturn, 1, 0, 0, 0, 0)]
/-- TypeForms2Model.isTold(II)Z -/
def kM_14 : List (Nat × ai_I) := [(0, .iload_n 2, 1, 2, 0, 0, 0), (1, .istore_n 3, 1, 3, 0, 0, 0), (2, .iload_n 3, 1, 3, 0, 0, 0), (3, .ifCond .lt 28, 3, 31, 0, 0, 0), (6, .aload_n 0, 1, 0, 0, 0, 0), (7, .getfield 13, 3, 8, 3, 792, 0), (10, .iload_n 3, 1, 3, 0, 0, 0), (11, .iaload, 1, 0, 0, 0, 0), (12, .aload_n 0, 1, 0, 0, 0, 0), (13, .getfield 13, 3, 8, 3, 792, 0), (16, .iload_n 1, 1, 1, 0, 0, 0), (17, .iaload, 1, 0, 0, 0, 0), (18, .if_icmp .eq 13, 3, 31, 0, 0, 0), (21, .aload_n 0, 1, 0, 0, 0, 0), (22, .getfield 22, 3, 8, 6, 795, 0), (25, .iload_n 3, 1, 3, 0, 0, 0), (26, .iaload, 1, 0, 0, 0, 0), (27, .istore_n 3, 1, 3, 0, 0, 0), (28, .goto (-26), 3, 2, 0, 0, 0), (31, .iload_n 3, 1, 3, 0, 0, 0), (32, .ifCond .lt 12, 3, 44, 0, 0, 0), (35, .aload_n 0, 1, 0, 0, 0, 0), (36, .getfield 25, 3, 8, 7, 796, 0), (39, .iload_n 3, 1, 3, 0, 0, 0), (40, .iaload, 1, 0, 0, 0, 0), (41, .ifCond .ne 5, 3, 46, 0, 0, 0), (44, .iconst 0, 1, 0, 0, 0, 0), (45, .ireturn, 1, 0, 1, 0, 0), (46, .aload_n 0, 1, 0, 0, 0, 0), (47, .aload_n 0, 1, 0, 0, 0, 0), (48, .getfield 31, 3, 8, 9, 798, 0), (51, .iconst 3, 1, 0, 0, 0, 3), (52, .iload_n 3, 1, 3, 0, 0, 0), (53, .imul, 1, 0, 0, 0, 0), (54, .aload_n 0, 1, 0, 0, 0, 0), (55, .getfield 16, 3, 8, 4, 793, 0), (58, .iload_n 1, 1, 1, 0, 0, 0), (59, .iaload, 1, 0, 0, 0, 0), (60, .iadd, 1, 0, 0, 0, 0), (61, .iaload, 1, 0, 0, 0, 0), (62, .putfield 175, 3, 8, 32, 821, 0), (65, .aload_n 0, 1, 0, 0, 0, 0), (66, .aload_n 0, 1, 0, 0, 0, 0), (67, .getfield 34, 3, 8, 10, 799, 0), (70, .iconst 3, 1, 0, 0, 0, 3), (71, .iload_n 3, 1, 3, 0, 0, 0), (72, .imul, 1, 0, 0, 0, 0), (73, .aload_n 0, 1, 0, 0, 0, 0), (74, .getfield 16, 3, 8, 4, 793, 0), (77, .iload_n 1, 1, 1, 0, 0, 0), (78, .iaload, 1, 0, 0, 0, 0), (79, .iadd, 1, 0, 0, 0, 0), (80, .iaload, 1, 0, 0, 0, 0), (81, .putfield 178, 3, 8, 33, 822, 0), (84, .iconst 1, 1, 0, 0, 0, 1), (85, .ireturn, 1, 0, 1, 0, 0)]
/-- TypeForms2Model.putVariable(II)I -/
def kM_15 : List (Nat × ai_I) := [(0, .aload_n 0, 1, 0, 0, 0, 0), (1, .iload_n 1, 1, 1, 0, 0, 0), (2, .iload_n 2, 1, 2, 0, 0, 0), (3, .invokevirtual 181, 3, 14, 2, 1065, 0), (6, .ifCond .ne 5, 3, 11, 0, 0, 0), (9, .iload_n 1, 1, 1, 0, 0, 0), (10, .ireturn, 1, 0, 0, 0, 0), (11, .aload_n 0, 1, 0, 0, 0, 0), (12, .getfield 175, 3, 8, 32, 821, 0), (15, .ifCond .eq 11, 3, 26, 0, 0, 0), (18, .aload_n 0, 1, 0, 0, 0, 0), (19, .getfield 175, 3, 8, 32, 821, 0), (22, .iconst 1, 1, 0, 0, 0, 1), (23, .if_icmp .ne 10, 3, 33, 0, 0, 0), (26, .aload_n 0, 1, 0, 0, 0, 0), (27, .getfield 178, 3, 8, 33, 822, 0), (30, .goto 8, 3, 38, 0, 0, 0), (33, .aload_n 0, 1, 0, 0, 0, 0), (34, .iload_n 1, 1, 1, 0, 0, 0), (35, .invokevirtual 185, 3, 13, 1, 1041, 0), (38, .ireturn, 1, 0, 0, 0, 0)]
/-- TypeForms2Model.putArgument(IIII)V -/
def kM_16 : List (Nat × ai_I) := [(0, .aload_n 0, 1, 0, 0, 0, 0), (1, .getfield 71, 3, 8, 25, 814, 0), (4, .iload_n 1, 1, 1, 0, 0, 0), (5, .iload_n 2, 1, 2, 0, 0, 0), (6, .iastore, 1, 0, 0, 0, 0), (7, .aload_n 0, 1, 0, 0, 0, 0), (8, .getfield 74, 3, 8, 26, 815, 0), (11, .iload_n 1, 1, 1, 0, 0, 0), (12, .iload_n 2, 1, 2, 0, 0, 0), (13, .iconst 3, 1, 0, 0, 0, 3), (14, .if_icmp .ne 7, 3, 21, 0, 0, 0), (17, .iconst (-1), 1, 0, 0, 0, (-1)), (18, .goto 9, 3, 27, 0, 0, 0), (21, .aload_n 0, 1, 0, 0, 0, 0), (22, .getfield 41, 3, 8, 12, 801, 0), (25, .iload_n 3, 1, 3, 0, 0, 0), (26, .iaload, 1, 0, 0, 0, 0), (27, .iastore, 1, 0, 0, 0, 0), (28, .iload_n 2, 1, 2, 0, 0, 0), (29, .iconst 3, 1, 0, 0, 0, 3), (30, .if_icmp .eq 100, 3, 130, 0, 0, 0), (33, .aload_n 0, 1, 0, 0, 0, 0), (34, .getfield 7, 3, 8, 2, 791, 0), (37, .iload_n 3, 1, 3, 0, 0, 0), (38, .iaload, 1, 0, 0, 0, 0), (39, .iconst 3, 1, 0, 0, 0, 3), (40, .if_icmp .ne 90, 3, 130, 0, 0, 0), (43, .aload_n 0, 1, 0, 0, 0, 0), (44, .iload_n 3, 1, 3, 0, 0, 0), (45, .iload 4, 2, 4, 0, 0, 0), (47, .invokevirtual 181, 3, 14, 2, 1065, 0), (50, .ifCond .eq 80, 3, 130, 0, 0, 0), (53, .iload_n 2, 1, 2, 0, 0, 0), (54, .ifCond .eq 18, 3, 72, 0, 0, 0), (57, .aload_n 0, 1, 0, 0, 0, 0), (58, .getfield 175, 3, 8, 32, 821, 0), (61, .ifCond .eq 11, 3, 72, 0, 0, 0), (64, .aload_n 0, 1, 0, 0, 0, 0), (65, .getfield 175, 3, 8, 32, 821, 0), (68, .iload_n 2, 1, 2, 0, 0, 0), (69, .if_icmp .ne 7, 3, 76, 0, 0, 0), (72, .iconst 1, 1, 0, 0, 0, 1), (73, .goto 4, 3, 77, 0, 0, 0), (76, .iconst 0, 1, 0, 0, 0, 0), (77, .istore 5, 2, 5, 0, 0, 0), (79, .aload_n 0, 1, 0, 0, 0, 0), (80, .getfield 71, 3, 8, 25, 814, 0), (83, .iload_n 1, 1, 1, 0, 0, 0), (84, .iload 5, 2, 5, 0, 0, 0), (86, .ifCond .ne 7, 3, 93, 0, 0, 0), (89, .iconst 3, 1, 0, 0, 0, 3), (90, .goto 15, 3, 105, 0, 0, 0), (93, .iload_n 2, 1, 2, 0, 0, 0), (94, .ifCond .ne 10, 3, 104, 0, 0, 0), (97, .aload_n 0, 1, 0, 0, 0, 0), (98, .getfield 175, 3, 8, 32, 821, 0), (101, .goto 4, 3, 105, 0, 0, 0), (104, .iload_n 2, 1, 2, 0, 0, 0), (105, .iastore, 1, 0, 0, 0, 0), (106, .aload_n 0, 1, 0, 0, 0, 0), (107, .getfield 74, 3, 8, 26, 815, 0), (110, .iload_n 1, 1, 1, 0, 0, 0), (111, .aload_n 0, 1, 0, 0, 0, 0), (112, .getfield 71, 3, 8, 25, 814, 0), (115, .iload_n 1, 1, 1, 0, 0, 0), (116, .iaload, 1, 0, 0, 0, 0), (117, .iconst 3, 1, 0, 0, 0, 3), (118, .if_icmp .ne 7, 3, 125, 0, 0, 0), (121, .iconst (-1), 1, 0, 0, 0, (-1)), (122, .goto 7, 3, 129, 0, 0, 0), (125, .aload_n 0, 1, 0, 0, 0, 0), (126, .getfield 178, 3, 8, 33, 822, 0), (129, .iastore, 1, 0, 0, 0, 0), (130, .return_, 1, 0, 0, 0, 0)]
/-- TypeForms2Model.putIn(II)I -/
def kM_17 : List (Nat × ai_I) := [(0, .aload_n 0, 1, 0, 0, 0, 0), (1, .iload_n 2, 1, 2, 0, 0, 0), (2, .invokevirtual 188, 3, 12, 1, 1033, 0), (5, .ifCond .eq 9, 3, 14, 0, 0, 0), (8, .aload_n 0, 1, 0, 0, 0, 0), (9, .iload_n 1, 1, 1, 0, 0, 0), (10, .invokevirtual 185, 3, 13, 1, 1041, 0), (13, .ireturn, 1, 0, 0, 0, 0), (14, .aload_n 0, 1, 0, 0, 0, 0), (15, .iload_n 1, 1, 1, 0, 0, 0), (16, .invokevirtual 164, 3, 10, 1, 1001, 0), (19, .iconst 0, 1, 0, 0, 0, 0), (20, .istore_n 3, 1, 3, 0, 0, 0), (21, .iload_n 3, 1, 3, 0, 0, 0), (22, .aload_n 0, 1, 0, 0, 0, 0), (23, .iload_n 1, 1, 1, 0, 0, 0), (24, .invokevirtual 192, 3, 9, 1, 1053, 0), (27, .if_icmp .eq 27, 3, 54, 0, 0, 0), (30, .aload_n 0, 1, 0, 0, 0, 0), (31, .getfield 37, 3, 8, 11, 800, 0), (34, .iload_n 3, 1, 3, 0, 0, 0), (35, .baload, 1, 0, 0, 0, 0), (36, .ifCond .eq 9, 3, 45, 0, 0, 0), (39, .aload_n 0, 1, 0, 0, 0, 0), (40, .iload_n 3, 1, 3, 0, 0, 0), (41, .iload_n 2, 1, 2, 0, 0, 0), (42, .invokevirtual 195, 3, 18, 2, 1057, 0), (45, .aload_n 0, 1, 0, 0, 0, 0), (46, .iload_n 3, 1, 3, 0, 0, 0), (47, .invokevirtual 192, 3, 9, 1, 1053, 0), (50, .istore_n 3, 1, 3, 0, 0, 0), (51, .goto (-30), 3, 21, 0, 0, 0), (54, .aload_n 0, 1, 0, 0, 0, 0), (55, .getfield 41, 3, 8, 12, 801, 0), (58, .iload_n 1, 1, 1, 0, 0, 0), (59, .iaload, 1, 0, 0, 0, 0), (60, .ireturn, 1, 0, 0, 0, 0)]
/-- TypeForms2Model.putPart(II)V -/
def kM_18 : List (Nat × ai_I) := [(0, .aload_n 0, 1, 0, 0, 0, 0), (1, .getfield 7, 3, 8, 2, 791, 0), (4, .iload_n 1, 1, 1, 0, 0, 0), (5, .iaload, 1, 0, 0, 0, 0), (6, .iconst 3, 1, 0, 0, 0, 3), (7, .if_icmp .ne 18, 3, 25, 0, 0, 0), (10, .aload_n 0, 1, 0, 0, 0, 0), (11, .getfield 41, 3, 8, 12, 801, 0), (14, .iload_n 1, 1, 1, 0, 0, 0), (15, .aload_n 0, 1, 0, 0, 0, 0), (16, .iload_n 1, 1, 1, 0, 0, 0), (17, .iload_n 2, 1, 2, 0, 0, 0), (18, .invokevirtual 199, 3, 15, 2, 1061, 0), (21, .iastore, 1, 0, 0, 0, 0), (22, .goto 158, 3, 180, 0, 0, 0), (25, .aload_n 0, 1, 0, 0, 0, 0), (26, .getfield 7, 3, 8, 2, 791, 0), (29, .iload_n 1, 1, 1, 0, 0, 0), (30, .iaload, 1, 0, 0, 0, 0), (31, .iconst 4, 1, 0, 0, 0, 4), (32, .if_icmp .ne 27, 3, 59, 0, 0, 0), (35, .aload_n 0, 1, 0, 0, 0, 0), (36, .getfield 41, 3, 8, 12, 801, 0), (39, .iload_n 1, 1, 1, 0, 0, 0), (40, .aload_n 0, 1, 0, 0, 0, 0), (41, .aload_n 0, 1, 0, 0, 0, 0), (42, .getfield 41, 3, 8, 12, 801, 0), (45, .aload_n 0, 1, 0, 0, 0, 0), (46, .getfield 19, 3, 8, 5, 794, 0), (49, .iload_n 1, 1, 1, 0, 0, 0), (50, .iaload, 1, 0, 0, 0, 0), (51, .iaload, 1, 0, 0, 0, 0), (52, .invokevirtual 172, 3, 6, 1, 1049, 0), (55, .iastore, 1, 0, 0, 0, 0), (56, .goto 124, 3, 180, 0, 0, 0), (59, .aload_n 0, 1, 0, 0, 0, 0), (60, .getfield 7, 3, 8, 2, 791, 0), (63, .iload_n 1, 1, 1, 0, 0, 0), (64, .iaload, 1, 0, 0, 0, 0), (65, .iconst 5, 1, 0, 0, 0, 5), (66, .if_icmp .ne 107, 3, 173, 0, 0, 0), (69, .iconst 0, 1, 0, 0, 0, 0), (70, .istore_n 3, 1, 3, 0, 0, 0), (71, .iload_n 3, 1, 3, 0, 0, 0), (72, .aload_n 0, 1, 0, 0, 0, 0), (73, .getfield 25, 3, 8, 7, 796, 0), (76, .iload_n 1, 1, 1, 0, 0, 0), (77, .iaload, 1, 0, 0, 0, 0), (78, .if_icmp .ge 39, 3, 117, 0, 0, 0), (81, .aload_n 0, 1, 0, 0, 0, 0), (82, .getfield 34, 3, 8, 10, 799, 0), (85, .iconst 3, 1, 0, 0, 0, 3), (86, .iload_n 1, 1, 1, 0, 0, 0), (87, .imul, 1, 0, 0, 0, 0), (88, .iload_n 3, 1, 3, 0, 0, 0), (89, .iadd, 1, 0, 0, 0, 0), (90, .iaload, 1, 0, 0, 0, 0), (91, .istore 4, 2, 4, 0, 0, 0), (93, .aload_n 0, 1, 0, 0, 0, 0), (94, .iload_n 3, 1, 3, 0, 0, 0), (95, .aload_n 0, 1, 0, 0, 0, 0), (96, .getfield 31, 3, 8, 9, 798, 0), (99, .iconst 3, 1, 0, 0, 0, 3), (100, .iload_n 1, 1, 1, 0, 0, 0), (101, .imul, 1, 0, 0, 0, 0), (102, .iload_n 3, 1, 3, 0, 0, 0), (103, .iadd, 1, 0, 0, 0, 0), (104, .iaload, 1, 0, 0, 0, 0), (105, .iload 4, 2, 4, 0, 0, 0), (107, .iload_n 2, 1, 2, 0, 0, 0), (108, .invokevirtual 202, 3, 16, 4, 1069, 0), (111, .iinc 3 1, 3, 3, 0, 0, 1), (114, .goto (-43), 3, 71, 0, 0, 0), (117, .aload_n 0, 1, 0, 0, 0, 0), (118, .aload_n 0, 1, 0, 0, 0, 0), (119, .getfield 25, 3, 8, 7, 796, 0), (122, .iload_n 1, 1, 1, 0, 0, 0), (123, .iaload, 1, 0, 0, 0, 0), (124, .putfield 145, 3, 8, 24, 813, 0), (127, .aload_n 0, 1, 0, 0, 0, 0), (128, .getfield 41, 3, 8, 12, 801, 0), (131, .iload_n 1, 1, 1, 0, 0, 0), (132, .aload_n 0, 1, 0, 0, 0, 0), (133, .iconst 5, 1, 0, 0, 0, 5), (134, .aload_n 0, 1, 0, 0, 0, 0), (135, .getfield 13, 3, 8, 3, 792, 0), (138, .iload_n 1, 1, 1, 0, 0, 0), (139, .iaload, 1, 0, 0, 0, 0), (140, .iconst (-1), 1, 0, 0, 0, (-1)), (141, .iconst (-1), 1, 0, 0, 0, (-1)), (142, .aload_n 0, 1, 0, 0, 0, 0), (143, .getfield 22, 3, 8, 6, 795, 0), (146, .iload_n 1, 1, 1, 0, 0, 0), (147, .iaload, 1, 0, 0, 0, 0), (148, .ifCond .ge 7, 3, 155, 0, 0, 0), (151, .iconst (-1), 1, 0, 0, 0, (-1)), (152, .goto 14, 3, 166, 0, 0, 0), (155, .aload_n 0, 1, 0, 0, 0, 0), (156, .getfield 41, 3, 8, 12, 801, 0), (159, .aload_n 0, 1, 0, 0, 0, 0), (160, .getfield 22, 3, 8, 6, 795, 0), (163, .iload_n 1, 1, 1, 0, 0, 0), (164, .iaload, 1, 0, 0, 0, 0), (165, .iaload, 1, 0, 0, 0, 0), (166, .invokevirtual 156, 3, 5, 5, 977, 0), (169, .iastore, 1, 0, 0, 0, 0), (170, .goto 10, 3, 180, 0, 0, 0), (173, .aload_n 0, 1, 0, 0, 0, 0), (174, .getfield 41, 3, 8, 12, 801, 0), (177, .iload_n 1, 1, 1, 0, 0, 0), (178, .iload_n 1, 1, 1, 0, 0, 0), (179, .iastore, 1, 0, 0, 0, 0), (180, .return_, 1, 0, 0, 0, 0)]
/-- TypeForms2Model.comesTo(II)Z -/
def kM_19 : List (Nat × ai_I) := [(0, .iconst 1, 1, 0, 0, 0, 1), (1, .iload_n 1, 1, 1, 0, 0, 0), (2, .ishl, 1, 0, 0, 0, 0), (3, .istore_n 3, 1, 3, 0, 0, 0), (4, .iload_n 1, 1, 1, 0, 0, 0), (5, .istore 4, 2, 4, 0, 0, 0), (7, .iload 4, 2, 4, 0, 0, 0), (9, .iload_n 2, 1, 2, 0, 0, 0), (10, .if_icmp .le 62, 3, 72, 0, 0, 0), (13, .iconst 0, 1, 0, 0, 0, 0), (14, .istore 5, 2, 5, 0, 0, 0), (16, .iload 5, 2, 5, 0, 0, 0), (18, .aload_n 0, 1, 0, 0, 0, 0), (19, .getfield 53, 3, 8, 17, 806, 0), (22, .iload 4, 2, 4, 0, 0, 0), (24, .iaload, 1, 0, 0, 0, 0), (25, .if_icmp .ge 41, 3, 66, 0, 0, 0), (28, .iload_n 3, 1, 3, 0, 0, 0), (29, .iload 4, 2, 4, 0, 0, 0), (31, .ishr, 1, 0, 0, 0, 0), (32, .iconst 1, 1, 0, 0, 0, 1), (33, .iand, 1, 0, 0, 0, 0), (34, .iconst 1, 1, 0, 0, 0, 1), (35, .if_icmp .ne 31, 3, 66, 0, 0, 0), (38, .iload_n 3, 1, 3, 0, 0, 0), (39, .iconst 1, 1, 0, 0, 0, 1), (40, .aload_n 0, 1, 0, 0, 0, 0), (41, .getfield 13, 3, 8, 3, 792, 0), (44, .aload_n 0, 1, 0, 0, 0, 0), (45, .getfield 56, 3, 8, 18, 807, 0), (48, .iconst 3, 1, 0, 0, 0, 3), (49, .iload 4, 2, 4, 0, 0, 0), (51, .imul, 1, 0, 0, 0, 0), (52, .iload 5, 2, 5, 0, 0, 0), (54, .iadd, 1, 0, 0, 0, 0), (55, .iaload, 1, 0, 0, 0, 0), (56, .iaload, 1, 0, 0, 0, 0), (57, .ishl, 1, 0, 0, 0, 0), (58, .ior, 1, 0, 0, 0, 0), (59, .istore_n 3, 1, 3, 0, 0, 0), (60, .iinc 5 1, 3, 5, 0, 0, 1), (63, .goto (-47), 3, 16, 0, 0, 0), (66, .iinc 4 (-1), 3, 4, 0, 0, (-1)), (69, .goto (-62), 3, 7, 0, 0, 0), (72, .iload_n 3, 1, 3, 0, 0, 0), (73, .iload_n 2, 1, 2, 0, 0, 0), (74, .ishr, 1, 0, 0, 0, 0), (75, .iconst 1, 1, 0, 0, 0, 1), (76, .iand, 1, 0, 0, 0, 0), (77, .iconst 1, 1, 0, 0, 0, 1), (78, .if_icmp .ne 7, 3, 85, 0, 0, 0), (81, .iconst 1, 1, 0, 0, 0, 1), (82, .goto 4, 3, 86, 0, 0, 0), (85, .iconst 0, 1, 0, 0, 0, 0), (86, .ireturn, 1, 0, 1, 0, 0)]
/-- TypeForms2Model.superOf(II)I -/
def kM_20 : List (Nat × ai_I) := [(0, .aload_n 0, 1, 0, 0, 0, 0), (1, .aload_n 0, 1, 0, 0, 0, 0), (2, .getfield 13, 3, 8, 3, 792, 0), (5, .iload_n 1, 1, 1, 0, 0, 0), (6, .iaload, 1, 0, 0, 0, 0), (7, .iload_n 2, 1, 2, 0, 0, 0), (8, .invokevirtual 206, 3, 19, 2, 1092, 0), (11, .ifCond .ne 5, 3, 16, 0, 0, 0), (14, .iconst (-1), 1, 0, 0, 0, (-1)), (15, .ireturn, 1, 0, 0, 0, 0), (16, .iload_n 1, 1, 1, 0, 0, 0), (17, .istore_n 3, 1, 3, 0, 0, 0), (18, .aload_n 0, 1, 0, 0, 0, 0), (19, .getfield 13, 3, 8, 3, 792, 0), (22, .iload_n 3, 1, 3, 0, 0, 0), (23, .iaload, 1, 0, 0, 0, 0), (24, .iload_n 2, 1, 2, 0, 0, 0), (25, .if_icmp .eq 66, 3, 91, 0, 0, 0), (28, .iconst 0, 1, 0, 0, 0, 0), (29, .istore 4, 2, 4, 0, 0, 0), (31, .aload_n 0, 1, 0, 0, 0, 0), (32, .aload_n 0, 1, 0, 0, 0, 0), (33, .getfield 13, 3, 8, 3, 792, 0), (36, .aload_n 0, 1, 0, 0, 0, 0), (37, .getfield 56, 3, 8, 18, 807, 0), (40, .iconst 3, 1, 0, 0, 0, 3), (41, .aload_n 0, 1, 0, 0, 0, 0), (42, .getfield 13, 3, 8, 3, 792, 0), (45, .iload_n 3, 1, 3, 0, 0, 0), (46, .iaload, 1, 0, 0, 0, 0), (47, .imul, 1, 0, 0, 0, 0), (48, .iload 4, 2, 4, 0, 0, 0), (50, .iadd, 1, 0, 0, 0, 0), (51, .iaload, 1, 0, 0, 0, 0), (52, .iaload, 1, 0, 0, 0, 0), (53, .iload_n 2, 1, 2, 0, 0, 0), (54, .invokevirtual 206, 3, 19, 2, 1092, 0), (57, .ifCond .ne 9, 3, 66, 0, 0, 0), (60, .iinc 4 1, 3, 4, 0, 0, 1), (63, .goto (-32), 3, 31, 0, 0, 0), (66, .aload_n 0, 1, 0, 0, 0, 0), (67, .aload_n 0, 1, 0, 0, 0, 0), (68, .getfield 56, 3, 8, 18, 807, 0), (71, .iconst 3, 1, 0, 0, 0, 3), (72, .aload_n 0, 1, 0, 0, 0, 0), (73, .getfield 13, 3, 8, 3, 792, 0), (76, .iload_n 3, 1, 3, 0, 0, 0), (77, .iaload, 1, 0, 0, 0, 0), (78, .imul, 1, 0, 0, 0, 0), (79, .iload 4, 2, 4, 0, 0, 0), (81, .iadd, 1, 0, 0, 0, 0), (82, .iaload, 1, 0, 0, 0, 0), (83, .iload_n 3, 1, 3, 0, 0, 0), (84, .invokevirtual 209, 3, 17, 2, 1037, 0), (87, .istore_n 3, 1, 3, 0, 0, 0), (88, .goto (-70), 3, 18, 0, 0, 0), (91, .iload_n 3, 1, 3, 0, 0, 0), (92, .ireturn, 1, 0, 0, 0, 0)]
/-- TypeForms2Model.isPlain(I)Z -/
def kM_21 : List (Nat × ai_I) := [(0, .aload_n 0, 1, 0, 0, 0, 0), (1, .getfield 7, 3, 8, 2, 791, 0), (4, .iload_n 1, 1, 1, 0, 0, 0), (5, .iaload, 1, 0, 0, 0, 0), (6, .iconst 3, 1, 0, 0, 0, 3), (7, .if_icmp .ge 7, 3, 14, 0, 0, 0), (10, .iconst 1, 1, 0, 0, 0, 1), (11, .goto 4, 3, 15, 0, 0, 0), (14, .iconst 0, 1, 0, 0, 0, 0), (15, .ireturn, 1, 0, 1, 0, 0)]
/-- TypeForms2Model.isWider(II)Z -/
def kM_22 : List (Nat × ai_I) := [(0, .iload_n 0, 1, 0, 0, 0, 0), (1, .ifCond .le 23, 3, 24, 0, 0, 0), (4, .iload_n 1, 1, 1, 0, 0, 0), (5, .iload_n 0, 1, 0, 0, 0, 0), (6, .if_icmp .le 18, 3, 24, 0, 0, 0), (9, .iload_n 1, 1, 1, 0, 0, 0), (10, .bipush 8, 2, 0, 0, 0, 8), (12, .if_icmp .ge 12, 3, 24, 0, 0, 0), (15, .iload_n 1, 1, 1, 0, 0, 0), (16, .iconst 3, 1, 0, 0, 0, 3), (17, .if_icmp .eq 7, 3, 24, 0, 0, 0), (20, .iconst 1, 1, 0, 0, 0, 1), (21, .goto 4, 3, 25, 0, 0, 0), (24, .iconst 0, 1, 0, 0, 0, 0), (25, .ireturn, 1, 0, 1, 0, 0)]
/-- TypeForms2Model.atOnce(II)I -/
def kM_23 : List (Nat × ai_I) := [(0, .iload_n 1, 1, 1, 0, 0, 0), (1, .iload_n 2, 1, 2, 0, 0, 0), (2, .if_icmp .ne 5, 3, 7, 0, 0, 0), (5, .iconst 1, 1, 0, 0, 0, 1), (6, .ireturn, 1, 0, 0, 0, 0), (7, .aload_n 0, 1, 0, 0, 0, 0), (8, .iload_n 1, 1, 1, 0, 0, 0), (9, .invokevirtual 212, 3, 21, 1, 1021, 0), (12, .ifCond .ne 11, 3, 23, 0, 0, 0), (15, .aload_n 0, 1, 0, 0, 0, 0), (16, .iload_n 2, 1, 2, 0, 0, 0), (17, .invokevirtual 212, 3, 21, 1, 1021, 0), (20, .ifCond .eq 49, 3, 69, 0, 0, 0), (23, .iload_n 1, 1, 1, 0, 0, 0), (24, .bipush 9, 2, 0, 0, 0, 9), (26, .if_icmp .ne 17, 3, 43, 0, 0, 0), (29, .aload_n 0, 1, 0, 0, 0, 0), (30, .iload_n 2, 1, 2, 0, 0, 0), (31, .invokevirtual 212, 3, 21, 1, 1021, 0), (34, .ifCond .eq 7, 3, 41, 0, 0, 0), (37, .iconst 0, 1, 0, 0, 0, 0), (38, .goto 4, 3, 42, 0, 0, 0), (41, .iconst 1, 1, 0, 0, 0, 1), (42, .ireturn, 1, 0, 0, 0, 0), (43, .iload_n 1, 1, 1, 0, 0, 0), (44, .bipush 8, 2, 0, 0, 0, 8), (46, .if_icmp .ge 21, 3, 67, 0, 0, 0), (49, .iload_n 2, 1, 2, 0, 0, 0), (50, .bipush 8, 2, 0, 0, 0, 8), (52, .if_icmp .ge 15, 3, 67, 0, 0, 0), (55, .iload_n 1, 1, 1, 0, 0, 0), (56, .iload_n 2, 1, 2, 0, 0, 0), (57, .invokestatic 215, 3, 22, 2, 1081, 0), (60, .ifCond .eq 7, 3, 67, 0, 0, 0), (63, .iconst 1, 1, 0, 0, 0, 1), (64, .goto 4, 3, 68, 0, 0, 0), (67, .iconst 0, 1, 0, 0, 0, 0), (68, .ireturn, 1, 0, 0, 0, 0), (69, .iload_n 2, 1, 2, 0, 0, 0), (70, .bipush 10, 2, 0, 0, 0, 10), (72, .if_icmp .ne 5, 3, 77, 0, 0, 0), (75, .iconst 1, 1, 0, 0, 0, 1), (76, .ireturn, 1, 0, 0, 0, 0), (77, .aload_n 0, 1, 0, 0, 0, 0), (78, .getfield 7, 3, 8, 2, 791, 0), (81, .iload_n 1, 1, 1, 0, 0, 0), (82, .iaload, 1, 0, 0, 0, 0), (83, .iconst 3, 1, 0, 0, 0, 3), (84, .if_icmp .ne 44, 3, 128, 0, 0, 0), (87, .aload_n 0, 1, 0, 0, 0, 0), (88, .getfield 59, 3, 8, 19, 808, 0), (91, .iconst 3, 1, 0, 0, 0, 3), (92, .aload_n 0, 1, 0, 0, 0, 0), (93, .getfield 13, 3, 8, 3, 792, 0), (96, .iload_n 1, 1, 1, 0, 0, 0), (97, .iaload, 1, 0, 0, 0, 0), (98, .imul, 1, 0, 0, 0, 0), (99, .aload_n 0, 1, 0, 0, 0, 0), (100, .getfield 16, 3, 8, 4, 793, 0), (103, .iload_n 1, 1, 1, 0, 0, 0), (104, .iaload, 1, 0, 0, 0, 0), (105, .iadd, 1, 0, 0, 0, 0), (106, .iaload, 1, 0, 0, 0, 0), (107, .ifCond .le 7, 3, 114, 0, 0, 0), (110, .iconst (-1), 1, 0, 0, 0, (-1)), (111, .goto 16, 3, 127, 0, 0, 0), (114, .aload_n 0, 1, 0, 0, 0, 0), (115, .iload_n 2, 1, 2, 0, 0, 0), (116, .invokevirtual 218, 3, 24, 1, 1084, 0), (119, .ifCond .eq 7, 3, 126, 0, 0, 0), (122, .iconst 1, 1, 0, 0, 0, 1), (123, .goto 4, 3, 127, 0, 0, 0), (126, .iconst 0, 1, 0, 0, 0, 0), (127, .ireturn, 1, 0, 0, 0, 0), (128, .aload_n 0, 1, 0, 0, 0, 0), (129, .getfield 7, 3, 8, 2, 791, 0), (132, .iload_n 1, 1, 1, 0, 0, 0), (133, .iaload, 1, 0, 0, 0, 0), (134, .iconst 4, 1, 0, 0, 0, 4), (135, .if_icmp .ne 68, 3, 203, 0, 0, 0), (138, .aload_n 0, 1, 0, 0, 0, 0), (139, .getfield 7, 3, 8, 2, 791, 0), (142, .iload_n 2, 1, 2, 0, 0, 0), (143, .iaload, 1, 0, 0, 0, 0), (144, .iconst 4, 1, 0, 0, 0, 4), (145, .if_icmp .eq 7, 3, 152, 0, 0, 0), (148, .iconst 0, 1, 0, 0, 0, 0), (149, .goto 53, 3, 202, 0, 0, 0), (152, .aload_n 0, 1, 0, 0, 0, 0), (153, .aload_n 0, 1, 0, 0, 0, 0), (154, .getfield 19, 3, 8, 5, 794, 0), (157, .iload_n 1, 1, 1, 0, 0, 0), (158, .iaload, 1, 0, 0, 0, 0), (159, .invokevirtual 212, 3, 21, 1, 1021, 0), (162, .ifCond .ne 16, 3, 178, 0, 0, 0), (165, .aload_n 0, 1, 0, 0, 0, 0), (166, .aload_n 0, 1, 0, 0, 0, 0), (167, .getfield 19, 3, 8, 5, 794, 0), (170, .iload_n 2, 1, 2, 0, 0, 0), (171, .iaload, 1, 0, 0, 0, 0), (172, .invokevirtual 212, 3, 21, 1, 1021, 0), (175, .ifCond .eq 26, 3, 201, 0, 0, 0), (178, .aload_n 0, 1, 0, 0, 0, 0), (179, .getfield 19, 3, 8, 5, 794, 0), (182, .iload_n 1, 1, 1, 0, 0, 0), (183, .iaload, 1, 0, 0, 0, 0), (184, .aload_n 0, 1, 0, 0, 0, 0), (185, .getfield 19, 3, 8, 5, 794, 0), (188, .iload_n 2, 1, 2, 0, 0, 0), (189, .iaload, 1, 0, 0, 0, 0), (190, .if_icmp .ne 7, 3, 197, 0, 0, 0), (193, .iconst 1, 1, 0, 0, 0, 1), (194, .goto 8, 3, 202, 0, 0, 0), (197, .iconst 0, 1, 0, 0, 0, 0), (198, .goto 4, 3, 202, 0, 0, 0), (201, .iconst (-1), 1, 0, 0, 0, (-1)), (202, .ireturn, 1, 0, 0, 0, 0), (203, .aload_n 0, 1, 0, 0, 0, 0), (204, .getfield 7, 3, 8, 2, 791, 0), (207, .iload_n 2, 1, 2, 0, 0, 0), (208, .iaload, 1, 0, 0, 0, 0), (209, .iconst 5, 1, 0, 0, 0, 5), (210, .if_icmp .eq 5, 3, 215, 0, 0, 0), (213, .iconst 0, 1, 0, 0, 0, 0), (214, .ireturn, 1, 0, 0, 0, 0), (215, .iconst (-1), 1, 0, 0, 0, (-1)), (216, .ireturn, 1, 0, 0, 0, 0)]
/-- TypeForms2Model.isObject(I)Z -/
def kM_24 : List (Nat × ai_I) := [(0, .iload_n 1, 1, 1, 0, 0, 0), (1, .bipush 10, 2, 0, 0, 0, 10), (3, .if_icmp .ne 7, 3, 10, 0, 0, 0), (6, .iconst 1, 1, 0, 0, 0, 1), (7, .goto 4, 3, 11, 0, 0, 0), (10, .iconst 0, 1, 0, 0, 0, 0), (11, .ireturn, 1, 0, 1, 0, 0)]
/-- TypeForms2Model.belowOf(II)I -/
def kM_25 : List (Nat × ai_I) := [(0, .iconst 0, 1, 0, 0, 0, 0), (1, .istore_n 3, 1, 3, 0, 0, 0), (2, .aload_n 0, 1, 0, 0, 0, 0), (3, .getfield 86, 3, 8, 34, 823, 0), (6, .iconst 0, 1, 0, 0, 0, 0), (7, .iload_n 1, 1, 1, 0, 0, 0), (8, .iastore, 1, 0, 0, 0, 0), (9, .aload_n 0, 1, 0, 0, 0, 0), (10, .getfield 89, 3, 8, 35, 824, 0), (13, .iconst 0, 1, 0, 0, 0, 0), (14, .iload_n 2, 1, 2, 0, 0, 0), (15, .iastore, 1, 0, 0, 0, 0), (16, .aload_n 0, 1, 0, 0, 0, 0), (17, .getfield 92, 3, 8, 36, 825, 0), (20, .iconst 0, 1, 0, 0, 0, 0), (21, .iconst (-1), 1, 0, 0, 0, (-1)), (22, .iastore, 1, 0, 0, 0, 0), (23, .iconst (-1), 1, 0, 0, 0, (-1)), (24, .istore 4, 2, 4, 0, 0, 0), (26, .iload_n 3, 1, 3, 0, 0, 0), (27, .ifCond .lt 234, 3, 261, 0, 0, 0), (30, .aload_n 0, 1, 0, 0, 0, 0), (31, .getfield 86, 3, 8, 34, 823, 0), (34, .iload_n 3, 1, 3, 0, 0, 0), (35, .iaload, 1, 0, 0, 0, 0), (36, .istore 5, 2, 5, 0, 0, 0), (38, .aload_n 0, 1, 0, 0, 0, 0), (39, .getfield 89, 3, 8, 35, 824, 0), (42, .iload_n 3, 1, 3, 0, 0, 0), (43, .iaload, 1, 0, 0, 0, 0), (44, .istore 6, 2, 6, 0, 0, 0), (46, .aload_n 0, 1, 0, 0, 0, 0), (47, .getfield 92, 3, 8, 36, 825, 0), (50, .iload_n 3, 1, 3, 0, 0, 0), (51, .iaload, 1, 0, 0, 0, 0), (52, .iconst (-1), 1, 0, 0, 0, (-1)), (53, .if_icmp .ne 174, 3, 227, 0, 0, 0), (56, .iload_n 3, 1, 3, 0, 0, 0), (57, .iconst 5, 1, 0, 0, 0, 5), (58, .if_icmp .ne 7, 3, 65, 0, 0, 0), (61, .iconst 0, 1, 0, 0, 0, 0), (62, .goto 11, 3, 73, 0, 0, 0), (65, .aload_n 0, 1, 0, 0, 0, 0), (66, .iload 5, 2, 5, 0, 0, 0), (68, .iload 6, 2, 6, 0, 0, 0), (70, .invokevirtual 221, 3, 23, 2, 1077, 0), (73, .istore 4, 2, 4, 0, 0, 0), (75, .iload 4, 2, 4, 0, 0, 0), (77, .iconst (-1), 1, 0, 0, 0, (-1)), (78, .if_icmp .ne 123, 3, 201, 0, 0, 0), (81, .aload_n 0, 1, 0, 0, 0, 0), (82, .getfield 7, 3, 8, 2, 791, 0), (85, .iload 5, 2, 5, 0, 0, 0), (87, .iaload, 1, 0, 0, 0, 0), (88, .iconst 5, 1, 0, 0, 0, 5), (89, .if_icmp .ne 112, 3, 201, 0, 0, 0), (92, .aload_n 0, 1, 0, 0, 0, 0), (93, .iload 5, 2, 5, 0, 0, 0), (95, .aload_n 0, 1, 0, 0, 0, 0), (96, .getfield 13, 3, 8, 3, 792, 0), (99, .iload 6, 2, 6, 0, 0, 0), (101, .iaload, 1, 0, 0, 0, 0), (102, .invokevirtual 224, 3, 20, 2, 1088, 0), (105, .istore 7, 2, 7, 0, 0, 0), (107, .iload 7, 2, 7, 0, 0, 0), (109, .ifCond .lt 24, 3, 133, 0, 0, 0), (112, .aload_n 0, 1, 0, 0, 0, 0), (113, .getfield 22, 3, 8, 6, 795, 0), (116, .iload 7, 2, 7, 0, 0, 0), (118, .iaload, 1, 0, 0, 0, 0), (119, .aload_n 0, 1, 0, 0, 0, 0), (120, .getfield 22, 3, 8, 6, 795, 0), (123, .iload 6, 2, 6, 0, 0, 0), (125, .iaload, 1, 0, 0, 0, 0), (126, .if_icmp .ne 7, 3, 133, 0, 0, 0), (129, .iconst 1, 1, 0, 0, 0, 1), (130, .goto 4, 3, 134, 0, 0, 0), (133, .iconst 0, 1, 0, 0, 0, 0), (134, .istore 8, 2, 8, 0, 0, 0), (136, .iload 7, 2, 7, 0, 0, 0), (138, .ifCond .ge 7, 3, 145, 0, 0, 0), (141, .iconst 0, 1, 0, 0, 0, 0), (142, .goto 39, 3, 181, 0, 0, 0), (145, .aload_n 0, 1, 0, 0, 0, 0), (146, .iload 6, 2, 6, 0, 0, 0), (148, .invokevirtual 188, 3, 12, 1, 1033, 0), (151, .ifCond .eq 7, 3, 158, 0, 0, 0), (154, .iconst 1, 1, 0, 0, 0, 1), (155, .goto 26, 3, 181, 0, 0, 0), (158, .aload_n 0, 1, 0, 0, 0, 0), (159, .iload 7, 2, 7, 0, 0, 0), (161, .invokevirtual 188, 3, 12, 1, 1033, 0), (164, .ifCond .eq 7, 3, 171, 0, 0, 0), (167, .iconst 2, 1, 0, 0, 0, 2), (168, .goto 13, 3, 181, 0, 0, 0), (171, .iload 8, 2, 8, 0, 0, 0), (173, .ifCond .ne 7, 3, 180, 0, 0, 0), (176, .iconst 0, 1, 0, 0, 0, 0), (177, .goto 4, 3, 181, 0, 0, 0), (180, .iconst (-1), 1, 0, 0, 0, (-1)), (181, .istore 4, 2, 4, 0, 0, 0), (183, .aload_n 0, 1, 0, 0, 0, 0), (184, .getfield 86, 3, 8, 34, 823, 0), (187, .iload_n 3, 1, 3, 0, 0, 0), (188, .iload 7, 2, 7, 0, 0, 0), (190, .ifCond .ge 8, 3, 198, 0, 0, 0), (193, .iload 5, 2, 5, 0, 0, 0), (195, .goto 5, 3, 200, 0, 0, 0), (198, .iload 7, 2, 7, 0, 0, 0), (200, .iastore, 1, 0, 0, 0, 0), (201, .iload 4, 2, 4, 0, 0, 0), (203, .iconst (-1), 1, 0, 0, 0, (-1)), (204, .if_icmp .eq 9, 3, 213, 0, 0, 0), (207, .iinc 3 (-1), 3, 3, 0, 0, (-1)), (210, .goto (-184), 3, 26, 0, 0, 0), (213, .aload_n 0, 1, 0, 0, 0, 0), (214, .getfield 92, 3, 8, 36, 825, 0), (217, .iload_n 3, 1, 3, 0, 0, 0), (218, .iconst 0, 1, 0, 0, 0, 0), (219, .iastore, 1, 0, 0, 0, 0), (220, .aload_n 0, 1, 0, 0, 0, 0), (221, .getfield 95, 3, 8, 37, 826, 0), (224, .iload_n 3, 1, 3, 0, 0, 0), (225, .iconst 1, 1, 0, 0, 0, 1), (226, .iastore, 1, 0, 0, 0, 0), (227, .aload_n 0, 1, 0, 0, 0, 0), (228, .iload_n 3, 1, 3, 0, 0, 0), (229, .iload 4, 2, 4, 0, 0, 0), (231, .invokevirtual 227, 3, 26, 2, 1096, 0), (234, .istore 4, 2, 4, 0, 0, 0), (236, .iload 4, 2, 4, 0, 0, 0), (238, .iconst (-1), 1, 0, 0, 0, (-1)), (239, .if_icmp .ne 16, 3, 255, 0, 0, 0), (242, .iinc 3 1, 3, 3, 0, 0, 1), (245, .aload_n 0, 1, 0, 0, 0, 0), (246, .getfield 92, 3, 8, 36, 825, 0), (249, .iload_n 3, 1, 3, 0, 0, 0), (250, .iconst (-1), 1, 0, 0, 0, (-1)), (251, .iastore, 1, 0, 0, 0, 0), (252, .goto 6, 3, 258, 0, 0, 0), (255, .iinc 3 (-1), 3, 3, 0, 0, (-1)), (258, .goto (-232), 3, 26, 0, 0, 0), (261, .iload 4, 2, 4, 0, 0, 0), (263, .ireturn, 1, 0, 0, 0, 0)]
/-- TypeForms2Model.goOn(II)I -/
def kM_26 : List (Nat × ai_I) := [(0, .aload_n 0, 1, 0, 0, 0, 0), (1, .getfield 86, 3, 8, 34, 823, 0), (4, .iload_n 1, 1, 1, 0, 0, 0), (5, .iaload, 1, 0, 0, 0, 0), (6, .istore_n 3, 1, 3, 0, 0, 0), (7, .aload_n 0, 1, 0, 0, 0, 0), (8, .getfield 89, 3, 8, 35, 824, 0), (11, .iload_n 1, 1, 1, 0, 0, 0), (12, .iaload, 1, 0, 0, 0, 0), (13, .istore 4, 2, 4, 0, 0, 0), (15, .aload_n 0, 1, 0, 0, 0, 0), (16, .getfield 7, 3, 8, 2, 791, 0), (19, .iload_n 3, 1, 3, 0, 0, 0), (20, .iaload, 1, 0, 0, 0, 0), (21, .iconst 3, 1, 0, 0, 0, 3), (22, .if_icmp .ne 69, 3, 91, 0, 0, 0), (25, .iconst 3, 1, 0, 0, 0, 3), (26, .aload_n 0, 1, 0, 0, 0, 0), (27, .getfield 13, 3, 8, 3, 792, 0), (30, .iload_n 3, 1, 3, 0, 0, 0), (31, .iaload, 1, 0, 0, 0, 0), (32, .imul, 1, 0, 0, 0, 0), (33, .aload_n 0, 1, 0, 0, 0, 0), (34, .getfield 16, 3, 8, 4, 793, 0), (37, .iload_n 3, 1, 3, 0, 0, 0), (38, .iaload, 1, 0, 0, 0, 0), (39, .iadd, 1, 0, 0, 0, 0), (40, .istore 5, 2, 5, 0, 0, 0), (42, .iload_n 2, 1, 2, 0, 0, 0), (43, .ifCond .le 5, 3, 48, 0, 0, 0), (46, .iload_n 2, 1, 2, 0, 0, 0), (47, .ireturn, 1, 0, 0, 0, 0), (48, .aload_n 0, 1, 0, 0, 0, 0), (49, .getfield 92, 3, 8, 36, 825, 0), (52, .iload_n 1, 1, 1, 0, 0, 0), (53, .iaload, 1, 0, 0, 0, 0), (54, .aload_n 0, 1, 0, 0, 0, 0), (55, .getfield 59, 3, 8, 19, 808, 0), (58, .iload 5, 2, 5, 0, 0, 0), (60, .iaload, 1, 0, 0, 0, 0), (61, .if_icmp .ne 5, 3, 66, 0, 0, 0), (64, .iconst 0, 1, 0, 0, 0, 0), (65, .ireturn, 1, 0, 0, 0, 0), (66, .aload_n 0, 1, 0, 0, 0, 0), (67, .iload_n 1, 1, 1, 0, 0, 0), (68, .aload_n 0, 1, 0, 0, 0, 0), (69, .getfield 62, 3, 8, 20, 809, 0), (72, .iconst 3, 1, 0, 0, 0, 3), (73, .iload 5, 2, 5, 0, 0, 0), (75, .imul, 1, 0, 0, 0, 0), (76, .aload_n 0, 1, 0, 0, 0, 0), (77, .getfield 92, 3, 8, 36, 825, 0), (80, .iload_n 1, 1, 1, 0, 0, 0), (81, .iaload, 1, 0, 0, 0, 0), (82, .iadd, 1, 0, 0, 0, 0), (83, .iaload, 1, 0, 0, 0, 0), (84, .iload 4, 2, 4, 0, 0, 0), (86, .invokevirtual 230, 3, 27, 3, 1100, 0), (89, .iconst (-1), 1, 0, 0, 0, (-1)), (90, .ireturn, 1, 0, 0, 0, 0), (91, .aload_n 0, 1, 0, 0, 0, 0), (92, .getfield 7, 3, 8, 2, 791, 0), (95, .iload_n 3, 1, 3, 0, 0, 0), (96, .iaload, 1, 0, 0, 0, 0), (97, .iconst 4, 1, 0, 0, 0, 4), (98, .if_icmp .ne 30, 3, 128, 0, 0, 0), (101, .iload_n 2, 1, 2, 0, 0, 0), (102, .iconst (-1), 1, 0, 0, 0, (-1)), (103, .if_icmp .eq 5, 3, 108, 0, 0, 0), (106, .iload_n 2, 1, 2, 0, 0, 0), (107, .ireturn, 1, 0, 0, 0, 0), (108, .aload_n 0, 1, 0, 0, 0, 0), (109, .iload_n 1, 1, 1, 0, 0, 0), (110, .aload_n 0, 1, 0, 0, 0, 0), (111, .getfield 19, 3, 8, 5, 794, 0), (114, .iload_n 3, 1, 3, 0, 0, 0), (115, .iaload, 1, 0, 0, 0, 0), (116, .aload_n 0, 1, 0, 0, 0, 0), (117, .getfield 19, 3, 8, 5, 794, 0), (120, .iload 4, 2, 4, 0, 0, 0), (122, .iaload, 1, 0, 0, 0, 0), (123, .invokevirtual 230, 3, 27, 3, 1100, 0), (126, .iconst (-1), 1, 0, 0, 0, (-1)), (127, .ireturn, 1, 0, 0, 0, 0), (128, .iload_n 2, 1, 2, 0, 0, 0), (129, .ifCond .ne 5, 3, 134, 0, 0, 0), (132, .iconst 0, 1, 0, 0, 0, 0), (133, .ireturn, 1, 0, 0, 0, 0), (134, .aload_n 0, 1, 0, 0, 0, 0), (135, .getfield 95, 3, 8, 37, 826, 0), (138, .iload_n 1, 1, 1, 0, 0, 0), (139, .iload_n 2, 1, 2, 0, 0, 0), (140, .iconst 2, 1, 0, 0, 0, 2), (141, .if_icmp .ne 7, 3, 148, 0, 0, 0), (144, .iconst 2, 1, 0, 0, 0, 2), (145, .goto 9, 3, 154, 0, 0, 0), (148, .aload_n 0, 1, 0, 0, 0, 0), (149, .getfield 95, 3, 8, 37, 826, 0), (152, .iload_n 1, 1, 1, 0, 0, 0), (153, .iaload, 1, 0, 0, 0, 0), (154, .iastore, 1, 0, 0, 0, 0), (155, .aload_n 0, 1, 0, 0, 0, 0), (156, .getfield 92, 3, 8, 36, 825, 0), (159, .iload_n 1, 1, 1, 0, 0, 0), (160, .iaload, 1, 0, 0, 0, 0), (161, .aload_n 0, 1, 0, 0, 0, 0), (162, .getfield 25, 3, 8, 7, 796, 0), (165, .iload 4, 2, 4, 0, 0, 0), (167, .iaload, 1, 0, 0, 0, 0), (168, .if_icmp .ge 203, 3, 371, 0, 0, 0), (171, .iconst 3, 1, 0, 0, 0, 3), (172, .iload_n 3, 1, 3, 0, 0, 0), (173, .imul, 1, 0, 0, 0, 0), (174, .aload_n 0, 1, 0, 0, 0, 0), (175, .getfield 92, 3, 8, 36, 825, 0), (178, .iload_n 1, 1, 1, 0, 0, 0), (179, .iaload, 1, 0, 0, 0, 0), (180, .iadd, 1, 0, 0, 0, 0), (181, .istore 5, 2, 5, 0, 0, 0), (183, .iconst 3, 1, 0, 0, 0, 3), (184, .iload 4, 2, 4, 0, 0, 0), (186, .imul, 1, 0, 0, 0, 0), (187, .aload_n 0, 1, 0, 0, 0, 0), (188, .getfield 92, 3, 8, 36, 825, 0), (191, .iload_n 1, 1, 1, 0, 0, 0), (192, .iaload, 1, 0, 0, 0, 0), (193, .iadd, 1, 0, 0, 0, 0), (194, .istore 6, 2, 6, 0, 0, 0), (196, .aload_n 0, 1, 0, 0, 0, 0), (197, .getfield 31, 3, 8, 9, 798, 0), (200, .iload 6, 2, 6, 0, 0, 0), (202, .iaload, 1, 0, 0, 0, 0), (203, .ifCond .ne 30, 3, 233, 0, 0, 0), (206, .aload_n 0, 1, 0, 0, 0, 0), (207, .getfield 31, 3, 8, 9, 798, 0), (210, .iload 5, 2, 5, 0, 0, 0), (212, .iaload, 1, 0, 0, 0, 0), (213, .ifCond .ne 58, 3, 271, 0, 0, 0), (216, .aload_n 0, 1, 0, 0, 0, 0), (217, .getfield 34, 3, 8, 10, 799, 0), (220, .iload 5, 2, 5, 0, 0, 0), (222, .iaload, 1, 0, 0, 0, 0), (223, .aload_n 0, 1, 0, 0, 0, 0), (224, .getfield 34, 3, 8, 10, 799, 0), (227, .iload 6, 2, 6, 0, 0, 0), (229, .iaload, 1, 0, 0, 0, 0), (230, .if_icmp .ne 41, 3, 271, 0, 0, 0), (233, .aload_n 0, 1, 0, 0, 0, 0), (234, .getfield 31, 3, 8, 9, 798, 0), (237, .iload 6, 2, 6, 0, 0, 0), (239, .iaload, 1, 0, 0, 0, 0), (240, .iconst 3, 1, 0, 0, 0, 3), (241, .if_icmp .eq 32, 3, 273, 0, 0, 0), (244, .aload_n 0, 1, 0, 0, 0, 0), (245, .getfield 31, 3, 8, 9, 798, 0), (248, .iload 5, 2, 5, 0, 0, 0), (250, .iaload, 1, 0, 0, 0, 0), (251, .ifCond .eq 22, 3, 273, 0, 0, 0), (254, .aload_n 0, 1, 0, 0, 0, 0), (255, .getfield 31, 3, 8, 9, 798, 0), (258, .iload 5, 2, 5, 0, 0, 0), (260, .iaload, 1, 0, 0, 0, 0), (261, .aload_n 0, 1, 0, 0, 0, 0), (262, .getfield 31, 3, 8, 9, 798, 0), (265, .iload 6, 2, 6, 0, 0, 0), (267, .iaload, 1, 0, 0, 0, 0), (268, .if_icmp .eq 5, 3, 273, 0, 0, 0), (271, .iconst 0, 1, 0, 0, 0, 0), (272, .ireturn, 1, 0, 0, 0, 0), (273, .aload_n 0, 1, 0, 0, 0, 0), (274, .getfield 31, 3, 8, 9, 798, 0), (277, .iload 6, 2, 6, 0, 0, 0), (279, .iaload, 1, 0, 0, 0, 0), (280, .iconst 1, 1, 0, 0, 0, 1), (281, .if_icmp .eq 14, 3, 295, 0, 0, 0), (284, .aload_n 0, 1, 0, 0, 0, 0), (285, .getfield 31, 3, 8, 9, 798, 0), (288, .iload 6, 2, 6, 0, 0, 0), (290, .iaload, 1, 0, 0, 0, 0), (291, .iconst 2, 1, 0, 0, 0, 2), (292, .if_icmp .ne 66, 3, 358, 0, 0, 0), (295, .aload_n 0, 1, 0, 0, 0, 0), (296, .iload_n 1, 1, 1, 0, 0, 0), (297, .aload_n 0, 1, 0, 0, 0, 0), (298, .getfield 31, 3, 8, 9, 798, 0), (301, .iload 6, 2, 6, 0, 0, 0), (303, .iaload, 1, 0, 0, 0, 0), (304, .iconst 1, 1, 0, 0, 0, 1), (305, .if_icmp .ne 13, 3, 318, 0, 0, 0), (308, .aload_n 0, 1, 0, 0, 0, 0), (309, .getfield 34, 3, 8, 10, 799, 0), (312, .iload 5, 2, 5, 0, 0, 0), (314, .iaload, 1, 0, 0, 0, 0), (315, .goto 10, 3, 325, 0, 0, 0), (318, .aload_n 0, 1, 0, 0, 0, 0), (319, .getfield 34, 3, 8, 10, 799, 0), (322, .iload 6, 2, 6, 0, 0, 0), (324, .iaload, 1, 0, 0, 0, 0), (325, .aload_n 0, 1, 0, 0, 0, 0), (326, .getfield 31, 3, 8, 9, 798, 0), (329, .iload 6, 2, 6, 0, 0, 0), (331, .iaload, 1, 0, 0, 0, 0), (332, .iconst 1, 1, 0, 0, 0, 1), (333, .if_icmp .ne 13, 3, 346, 0, 0, 0), (336, .aload_n 0, 1, 0, 0, 0, 0), (337, .getfield 34, 3, 8, 10, 799, 0), (340, .iload 6, 2, 6, 0, 0, 0), (342, .iaload, 1, 0, 0, 0, 0), (343, .goto 10, 3, 353, 0, 0, 0), (346, .aload_n 0, 1, 0, 0, 0, 0), (347, .getfield 34, 3, 8, 10, 799, 0), (350, .iload 5, 2, 5, 0, 0, 0), (352, .iaload, 1, 0, 0, 0, 0), (353, .invokevirtual 230, 3, 27, 3, 1100, 0), (356, .iconst (-1), 1, 0, 0, 0, (-1)), (357, .ireturn, 1, 0, 0, 0, 0), (358, .aload_n 0, 1, 0, 0, 0, 0), (359, .getfield 92, 3, 8, 36, 825, 0), (362, .iload_n 1, 1, 1, 0, 0, 0), (363, .dup2, 1, 0, 0, 0, 0), (364, .iaload, 1, 0, 0, 0, 0), (365, .iconst 1, 1, 0, 0, 0, 1), (366, .iadd, 1, 0, 0, 0, 0), (367, .iastore, 1, 0, 0, 0, 0), (368, .goto (-213), 3, 155, 0, 0, 0), (371, .aload_n 0, 1, 0, 0, 0, 0), (372, .getfield 95, 3, 8, 37, 826, 0), (375, .iload_n 1, 1, 1, 0, 0, 0), (376, .iaload, 1, 0, 0, 0, 0), (377, .ireturn, 1, 0, 0, 0, 0)]
/-- TypeForms2Model.ask(III)V -/
def kM_27 : List (Nat × ai_I) := [(0, .aload_n 0, 1, 0, 0, 0, 0), (1, .getfield 92, 3, 8, 36, 825, 0), (4, .iload_n 1, 1, 1, 0, 0, 0), (5, .dup2, 1, 0, 0, 0, 0), (6, .iaload, 1, 0, 0, 0, 0), (7, .iconst 1, 1, 0, 0, 0, 1), (8, .iadd, 1, 0, 0, 0, 0), (9, .iastore, 1, 0, 0, 0, 0), (10, .aload_n 0, 1, 0, 0, 0, 0), (11, .getfield 86, 3, 8, 34, 823, 0), (14, .iload_n 1, 1, 1, 0, 0, 0), (15, .iconst 1, 1, 0, 0, 0, 1), (16, .iadd, 1, 0, 0, 0, 0), (17, .iload_n 2, 1, 2, 0, 0, 0), (18, .iastore, 1, 0, 0, 0, 0), (19, .aload_n 0, 1, 0, 0, 0, 0), (20, .getfield 89, 3, 8, 35, 824, 0), (23, .iload_n 1, 1, 1, 0, 0, 0), (24, .iconst 1, 1, 0, 0, 0, 1), (25, .iadd, 1, 0, 0, 0, 0), (26, .iload_n 3, 1, 3, 0, 0, 0), (27, .iastore, 1, 0, 0, 0, 0), (28, .return_, 1, 0, 0, 0, 0)]
/-- TypeForms2Model.part(II)I -/
def kM_28 : List (Nat × ai_I) := [(0, .aload_n 0, 1, 0, 0, 0, 0), (1, .getfield 7, 3, 8, 2, 791, 0), (4, .iload_n 1, 1, 1, 0, 0, 0), (5, .iaload, 1, 0, 0, 0, 0), (6, .iconst 4, 1, 0, 0, 0, 4), (7, .if_icmp .ne 19, 3, 26, 0, 0, 0), (10, .iload_n 2, 1, 2, 0, 0, 0), (11, .ifCond .ne 12, 3, 23, 0, 0, 0), (14, .aload_n 0, 1, 0, 0, 0, 0), (15, .getfield 19, 3, 8, 5, 794, 0), (18, .iload_n 1, 1, 1, 0, 0, 0), (19, .iaload, 1, 0, 0, 0, 0), (20, .goto 5, 3, 25, 0, 0, 0), (23, .bipush (-2), 2, 0, 0, 0, (-2)), (25, .ireturn, 1, 0, 0, 0, 0), (26, .aload_n 0, 1, 0, 0, 0, 0), (27, .getfield 7, 3, 8, 2, 791, 0), (30, .iload_n 1, 1, 1, 0, 0, 0), (31, .iaload, 1, 0, 0, 0, 0), (32, .iconst 5, 1, 0, 0, 0, 5), (33, .if_icmp .ne 13, 3, 46, 0, 0, 0), (36, .iload_n 2, 1, 2, 0, 0, 0), (37, .aload_n 0, 1, 0, 0, 0, 0), (38, .getfield 25, 3, 8, 7, 796, 0), (41, .iload_n 1, 1, 1, 0, 0, 0), (42, .iaload, 1, 0, 0, 0, 0), (43, .if_icmp .le 6, 3, 49, 0, 0, 0), (46, .bipush (-2), 2, 0, 0, 0, (-2)), (48, .ireturn, 1, 0, 0, 0, 0), (49, .iload_n 2, 1, 2, 0, 0, 0), (50, .ifCond .ne 12, 3, 62, 0, 0, 0), (53, .aload_n 0, 1, 0, 0, 0, 0), (54, .getfield 22, 3, 8, 6, 795, 0), (57, .iload_n 1, 1, 1, 0, 0, 0), (58, .iaload, 1, 0, 0, 0, 0), (59, .goto 35, 3, 94, 0, 0, 0), (62, .aload_n 0, 1, 0, 0, 0, 0), (63, .getfield 31, 3, 8, 9, 798, 0), (66, .iconst 3, 1, 0, 0, 0, 3), (67, .iload_n 1, 1, 1, 0, 0, 0), (68, .imul, 1, 0, 0, 0, 0), (69, .iload_n 2, 1, 2, 0, 0, 0), (70, .iadd, 1, 0, 0, 0, 0), (71, .iconst 1, 1, 0, 0, 0, 1), (72, .isub, 1, 0, 0, 0, 0), (73, .iaload, 1, 0, 0, 0, 0), (74, .iconst 3, 1, 0, 0, 0, 3), (75, .if_icmp .ne 7, 3, 82, 0, 0, 0), (78, .iconst (-1), 1, 0, 0, 0, (-1)), (79, .goto 15, 3, 94, 0, 0, 0), (82, .aload_n 0, 1, 0, 0, 0, 0), (83, .getfield 34, 3, 8, 10, 799, 0), (86, .iconst 3, 1, 0, 0, 0, 3), (87, .iload_n 1, 1, 1, 0, 0, 0), (88, .imul, 1, 0, 0, 0, 0), (89, .iload_n 2, 1, 2, 0, 0, 0), (90, .iadd, 1, 0, 0, 0, 0), (91, .iconst 1, 1, 0, 0, 0, 1), (92, .isub, 1, 0, 0, 0, 0), (93, .iaload, 1, 0, 0, 0, 0), (94, .ireturn, 1, 0, 0, 0, 0)]
/-- TypeForms2Model.told(I)I -/
def kM_29 : List (Nat × ai_I) := [(0, .iload_n 1, 1, 1, 0, 0, 0), (1, .sipush 256, 3, 0, 0, 0, 256), (4, .if_icmp .ge 12, 3, 16, 0, 0, 0), (7, .aload_n 0, 1, 0, 0, 0, 0), (8, .sipush 256, 3, 0, 0, 0, 256), (11, .putfield 138, 3, 8, 1, 790, 0), (14, .iload_n 1, 1, 1, 0, 0, 0), (15, .ireturn, 1, 0, 0, 0, 0), (16, .aload_n 0, 1, 0, 0, 0, 0), (17, .iload_n 1, 1, 1, 0, 0, 0), (18, .invokevirtual 164, 3, 10, 1, 1001, 0), (21, .iconst 0, 1, 0, 0, 0, 0), (22, .istore_n 2, 1, 2, 0, 0, 0), (23, .sipush 256, 3, 0, 0, 0, 256), (26, .istore_n 3, 1, 3, 0, 0, 0), (27, .iload_n 3, 1, 3, 0, 0, 0), (28, .iload_n 1, 1, 1, 0, 0, 0), (29, .if_icmp .gt 33, 3, 62, 0, 0, 0), (32, .iload_n 2, 1, 2, 0, 0, 0), (33, .aload_n 0, 1, 0, 0, 0, 0), (34, .getfield 37, 3, 8, 11, 800, 0), (37, .iload_n 3, 1, 3, 0, 0, 0), (38, .baload, 1, 0, 0, 0, 0), (39, .ifCond .eq 7, 3, 46, 0, 0, 0), (42, .iconst 1, 1, 0, 0, 0, 1), (43, .goto 4, 3, 47, 0, 0, 0), (46, .iconst 0, 1, 0, 0, 0, 0), (47, .iadd, 1, 0, 0, 0, 0), (48, .istore_n 2, 1, 2, 0, 0, 0), (49, .aload_n 0, 1, 0, 0, 0, 0), (50, .getfield 41, 3, 8, 12, 801, 0), (53, .iload_n 3, 1, 3, 0, 0, 0), (54, .iconst (-1), 1, 0, 0, 0, (-1)), (55, .iastore, 1, 0, 0, 0, 0), (56, .iinc 3 1, 3, 3, 0, 0, 1), (59, .goto (-32), 3, 27, 0, 0, 0), (62, .aload_n 0, 1, 0, 0, 0, 0), (63, .getfield 131, 3, 8, 0, 789, 0), (66, .iload_n 2, 1, 2, 0, 0, 0), (67, .iadd, 1, 0, 0, 0, 0), (68, .sipush 200, 3, 0, 0, 0, 200), (71, .if_icmp .gt 14, 3, 85, 0, 0, 0), (74, .aload_n 0, 1, 0, 0, 0, 0), (75, .getfield 28, 3, 8, 8, 797, 0), (78, .iload_n 1, 1, 1, 0, 0, 0), (79, .iaload, 1, 0, 0, 0, 0), (80, .bipush 60, 2, 0, 0, 0, 60), (82, .if_icmp .le 13, 3, 95, 0, 0, 0), (85, .aload_n 0, 1, 0, 0, 0, 0), (86, .sipush 256, 3, 0, 0, 0, 256), (89, .putfield 138, 3, 8, 1, 790, 0), (92, .bipush (-5), 2, 0, 0, 0, (-5)), (94, .ireturn, 1, 0, 0, 0, 0), (95, .iconst 0, 1, 0, 0, 0, 0), (96, .istore_n 3, 1, 3, 0, 0, 0), (97, .aload_n 0, 1, 0, 0, 0, 0), (98, .getfield 98, 3, 8, 38, 827, 0), (101, .iconst 0, 1, 0, 0, 0, 0), (102, .iload_n 1, 1, 1, 0, 0, 0), (103, .iastore, 1, 0, 0, 0, 0), (104, .aload_n 0, 1, 0, 0, 0, 0), (105, .getfield 101, 3, 8, 39, 828, 0), (108, .iconst 0, 1, 0, 0, 0, 0), (109, .iconst 0, 1, 0, 0, 0, 0), (110, .iastore, 1, 0, 0, 0, 0), (111, .iload_n 3, 1, 3, 0, 0, 0), (112, .ifCond .lt 121, 3, 233, 0, 0, 0), (115, .aload_n 0, 1, 0, 0, 0, 0), (116, .getfield 98, 3, 8, 38, 827, 0), (119, .iload_n 3, 1, 3, 0, 0, 0), (120, .iaload, 1, 0, 0, 0, 0), (121, .istore 4, 2, 4, 0, 0, 0), (123, .aload_n 0, 1, 0, 0, 0, 0), (124, .getfield 41, 3, 8, 12, 801, 0), (127, .iload 4, 2, 4, 0, 0, 0), (129, .iaload, 1, 0, 0, 0, 0), (130, .iconst (-1), 1, 0, 0, 0, (-1)), (131, .if_icmp .ne 18, 3, 149, 0, 0, 0), (134, .aload_n 0, 1, 0, 0, 0, 0), (135, .iload 4, 2, 4, 0, 0, 0), (137, .aload_n 0, 1, 0, 0, 0, 0), (138, .getfield 101, 3, 8, 39, 828, 0), (141, .iload_n 3, 1, 3, 0, 0, 0), (142, .iaload, 1, 0, 0, 0, 0), (143, .invokevirtual 234, 3, 28, 2, 1108, 0), (146, .goto 5, 3, 151, 0, 0, 0), (149, .bipush (-2), 2, 0, 0, 0, (-2)), (151, .istore 5, 2, 5, 0, 0, 0), (153, .aload_n 0, 1, 0, 0, 0, 0), (154, .getfield 101, 3, 8, 39, 828, 0), (157, .iload_n 3, 1, 3, 0, 0, 0), (158, .dup2, 1, 0, 0, 0, 0), (159, .iaload, 1, 0, 0, 0, 0), (160, .iconst 1, 1, 0, 0, 0, 1), (161, .iadd, 1, 0, 0, 0, 0), (162, .iastore, 1, 0, 0, 0, 0), (163, .iload 5, 2, 5, 0, 0, 0), (165, .sipush 256, 3, 0, 0, 0, 256), (168, .if_icmp .lt 35, 3, 203, 0, 0, 0), (171, .aload_n 0, 1, 0, 0, 0, 0), (172, .getfield 41, 3, 8, 12, 801, 0), (175, .iload 5, 2, 5, 0, 0, 0), (177, .iaload, 1, 0, 0, 0, 0), (178, .iconst (-1), 1, 0, 0, 0, (-1)), (179, .if_icmp .ne 24, 3, 203, 0, 0, 0), (182, .iinc 3 1, 3, 3, 0, 0, 1), (185, .aload_n 0, 1, 0, 0, 0, 0), (186, .getfield 98, 3, 8, 38, 827, 0), (189, .iload_n 3, 1, 3, 0, 0, 0), (190, .iload 5, 2, 5, 0, 0, 0), (192, .iastore, 1, 0, 0, 0, 0), (193, .aload_n 0, 1, 0, 0, 0, 0), (194, .getfield 101, 3, 8, 39, 828, 0), (197, .iload_n 3, 1, 3, 0, 0, 0), (198, .iconst 0, 1, 0, 0, 0, 0), (199, .iastore, 1, 0, 0, 0, 0), (200, .goto 30, 3, 230, 0, 0, 0), (203, .iload 5, 2, 5, 0, 0, 0), (205, .bipush (-2), 2, 0, 0, 0, (-2)), (207, .if_icmp .ne 23, 3, 230, 0, 0, 0), (210, .aload_n 0, 1, 0, 0, 0, 0), (211, .getfield 41, 3, 8, 12, 801, 0), (214, .iload 4, 2, 4, 0, 0, 0), (216, .iaload, 1, 0, 0, 0, 0), (217, .iconst (-1), 1, 0, 0, 0, (-1)), (218, .if_icmp .ne 9, 3, 227, 0, 0, 0), (221, .aload_n 0, 1, 0, 0, 0, 0), (222, .iload 4, 2, 4, 0, 0, 0), (224, .invokevirtual 237, 3, 31, 1, 1112, 0), (227, .iinc 3 (-1), 3, 3, 0, 0, (-1)), (230, .goto (-119), 3, 111, 0, 0, 0), (233, .aload_n 0, 1, 0, 0, 0, 0), (234, .sipush 256, 3, 0, 0, 0, 256), (237, .putfield 138, 3, 8, 1, 790, 0), (240, .aload_n 0, 1, 0, 0, 0, 0), (241, .getfield 41, 3, 8, 12, 801, 0), (244, .iload_n 1, 1, 1, 0, 0, 0), (245, .iaload, 1, 0, 0, 0, 0), (246, .ireturn, 1, 0, 0, 0, 0)]
/-- TypeForms2Model.real(I)I -/
def kM_30 : List (Nat × ai_I) := [(0, .iload_n 1, 1, 1, 0, 0, 0), (1, .sipush 256, 3, 0, 0, 0, 256), (4, .if_icmp .lt 12, 3, 16, 0, 0, 0), (7, .aload_n 0, 1, 0, 0, 0, 0), (8, .getfield 41, 3, 8, 12, 801, 0), (11, .iload_n 1, 1, 1, 0, 0, 0), (12, .iaload, 1, 0, 0, 0, 0), (13, .goto 4, 3, 17, 0, 0, 0), (16, .iload_n 1, 1, 1, 0, 0, 0), (17, .ireturn, 1, 0, 0, 0, 0)]
/-- TypeForms2Model.copy(I)V -/
def kM_31 : List (Nat × ai_I) := [(0, .aload_n 0, 1, 0, 0, 0, 0), (1, .aload_n 0, 1, 0, 0, 0, 0), (2, .getfield 7, 3, 8, 2, 791, 0), (5, .iload_n 1, 1, 1, 0, 0, 0), (6, .iaload, 1, 0, 0, 0, 0), (7, .iconst 5, 1, 0, 0, 0, 5), (8, .if_icmp .ne 12, 3, 20, 0, 0, 0), (11, .aload_n 0, 1, 0, 0, 0, 0), (12, .getfield 25, 3, 8, 7, 796, 0), (15, .iload_n 1, 1, 1, 0, 0, 0), (16, .iaload, 1, 0, 0, 0, 0), (17, .goto 4, 3, 21, 0, 0, 0), (20, .iconst 0, 1, 0, 0, 0, 0), (21, .putfield 145, 3, 8, 24, 813, 0), (24, .iconst 0, 1, 0, 0, 0, 0), (25, .istore_n 2, 1, 2, 0, 0, 0), (26, .iload_n 2, 1, 2, 0, 0, 0), (27, .aload_n 0, 1, 0, 0, 0, 0), (28, .getfield 145, 3, 8, 24, 813, 0), (31, .if_icmp .ge 59, 3, 90, 0, 0, 0), (34, .aload_n 0, 1, 0, 0, 0, 0), (35, .getfield 71, 3, 8, 25, 814, 0), (38, .iload_n 2, 1, 2, 0, 0, 0), (39, .aload_n 0, 1, 0, 0, 0, 0), (40, .getfield 31, 3, 8, 9, 798, 0), (43, .iconst 3, 1, 0, 0, 0, 3), (44, .iload_n 1, 1, 1, 0, 0, 0), (45, .imul, 1, 0, 0, 0, 0), (46, .iload_n 2, 1, 2, 0, 0, 0), (47, .iadd, 1, 0, 0, 0, 0), (48, .iaload, 1, 0, 0, 0, 0), (49, .iastore, 1, 0, 0, 0, 0), (50, .aload_n 0, 1, 0, 0, 0, 0), (51, .getfield 74, 3, 8, 26, 815, 0), (54, .iload_n 2, 1, 2, 0, 0, 0), (55, .aload_n 0, 1, 0, 0, 0, 0), (56, .getfield 71, 3, 8, 25, 814, 0), (59, .iload_n 2, 1, 2, 0, 0, 0), (60, .iaload, 1, 0, 0, 0, 0), (61, .iconst 3, 1, 0, 0, 0, 3), (62, .if_icmp .ne 7, 3, 69, 0, 0, 0), (65, .iconst (-1), 1, 0, 0, 0, (-1)), (66, .goto 17, 3, 83, 0, 0, 0), (69, .aload_n 0, 1, 0, 0, 0, 0), (70, .aload_n 0, 1, 0, 0, 0, 0), (71, .getfield 34, 3, 8, 10, 799, 0), (74, .iconst 3, 1, 0, 0, 0, 3), (75, .iload_n 1, 1, 1, 0, 0, 0), (76, .imul, 1, 0, 0, 0, 0), (77, .iload_n 2, 1, 2, 0, 0, 0), (78, .iadd, 1, 0, 0, 0, 0), (79, .iaload, 1, 0, 0, 0, 0), (80, .invokevirtual 240, 3, 30, 1, 1116, 0), (83, .iastore, 1, 0, 0, 0, 0), (84, .iinc 2 1, 3, 2, 0, 0, 1), (87, .goto (-61), 3, 26, 0, 0, 0), (90, .aload_n 0, 1, 0, 0, 0, 0), (91, .aload_n 0, 1, 0, 0, 0, 0), (92, .getfield 131, 3, 8, 0, 789, 0), (95, .aload_n 0, 1, 0, 0, 0, 0), (96, .getfield 7, 3, 8, 2, 791, 0), (99, .iload_n 1, 1, 1, 0, 0, 0), (100, .iaload, 1, 0, 0, 0, 0), (101, .aload_n 0, 1, 0, 0, 0, 0), (102, .getfield 13, 3, 8, 3, 792, 0), (105, .iload_n 1, 1, 1, 0, 0, 0), (106, .iaload, 1, 0, 0, 0, 0), (107, .aload_n 0, 1, 0, 0, 0, 0), (108, .getfield 16, 3, 8, 4, 793, 0), (111, .iload_n 1, 1, 1, 0, 0, 0), (112, .iaload, 1, 0, 0, 0, 0), (113, .aload_n 0, 1, 0, 0, 0, 0), (114, .getfield 7, 3, 8, 2, 791, 0), (117, .iload_n 1, 1, 1, 0, 0, 0), (118, .iaload, 1, 0, 0, 0, 0), (119, .iconst 4, 1, 0, 0, 0, 4), (120, .if_icmp .ne 16, 3, 136, 0, 0, 0), (123, .aload_n 0, 1, 0, 0, 0, 0), (124, .aload_n 0, 1, 0, 0, 0, 0), (125, .getfield 19, 3, 8, 5, 794, 0), (128, .iload_n 1, 1, 1, 0, 0, 0), (129, .iaload, 1, 0, 0, 0, 0), (130, .invokevirtual 240, 3, 30, 1, 1116, 0), (133, .goto 4, 3, 137, 0, 0, 0), (136, .iconst (-1), 1, 0, 0, 0, (-1)), (137, .aload_n 0, 1, 0, 0, 0, 0), (138, .getfield 7, 3, 8, 2, 791, 0), (141, .iload_n 1, 1, 1, 0, 0, 0), (142, .iaload, 1, 0, 0, 0, 0), (143, .iconst 5, 1, 0, 0, 0, 5), (144, .if_icmp .ne 25, 3, 169, 0, 0, 0), (147, .aload_n 0, 1, 0, 0, 0, 0), (148, .getfield 22, 3, 8, 6, 795, 0), (151, .iload_n 1, 1, 1, 0, 0, 0), (152, .iaload, 1, 0, 0, 0, 0), (153, .ifCond .lt 16, 3, 169, 0, 0, 0), (156, .aload_n 0, 1, 0, 0, 0, 0), (157, .aload_n 0, 1, 0, 0, 0, 0), (158, .getfield 22, 3, 8, 6, 795, 0), (161, .iload_n 1, 1, 1, 0, 0, 0), (162, .iaload, 1, 0, 0, 0, 0), (163, .invokevirtual 240, 3, 30, 1, 1116, 0), (166, .goto 4, 3, 170, 0, 0, 0), (169, .iconst (-1), 1, 0, 0, 0, (-1)), (170, .invokevirtual 152, 3, 4, 6, 969, 0), (173, .aload_n 0, 1, 0, 0, 0, 0), (174, .getfield 41, 3, 8, 12, 801, 0), (177, .iload_n 1, 1, 1, 0, 0, 0), (178, .aload_n 0, 1, 0, 0, 0, 0), (179, .getfield 131, 3, 8, 0, 789, 0), (182, .iastore, 1, 0, 0, 0, 0), (183, .aload_n 0, 1, 0, 0, 0, 0), (184, .dup, 1, 0, 0, 0, 0), (185, .getfield 131, 3, 8, 0, 789, 0), (188, .iconst 1, 1, 0, 0, 0, 1), (189, .iadd, 1, 0, 0, 0, 0), (190, .putfield 131, 3, 8, 0, 789, 0), (193, .return_, 1, 0, 0, 0, 0)]
/-- TypeForms2Model.declare(III)I -/
def kM_32 : List (Nat × ai_I) := [(0, .iload_n 3, 1, 3, 0, 0, 0), (1, .iconst (-1), 1, 0, 0, 0, (-1)), (2, .if_icmp .eq 14, 3, 16, 0, 0, 0), (5, .aload_n 0, 1, 0, 0, 0, 0), (6, .iload_n 3, 1, 3, 0, 0, 0), (7, .invokevirtual 243, 3, 2, 1, 962, 0), (10, .ifCond .ne 6, 3, 16, 0, 0, 0), (13, .bipush (-2), 2, 0, 0, 0, (-2)), (15, .ireturn, 1, 0, 0, 0, 0), (16, .iload_n 1, 1, 1, 0, 0, 0), (17, .iconst 0, 1, 0, 0, 0, 0), (18, .iconst 2, 1, 0, 0, 0, 2), (19, .invokestatic 141, 3, 0, 3, 966, 0), (22, .ifCond .eq 12, 3, 34, 0, 0, 0), (25, .iload_n 2, 1, 2, 0, 0, 0), (26, .iconst 0, 1, 0, 0, 0, 0), (27, .iconst 3, 1, 0, 0, 0, 3), (28, .invokestatic 141, 3, 0, 3, 966, 0), (31, .ifCond .ne 6, 3, 37, 0, 0, 0), (34, .bipush (-3), 2, 0, 0, 0, (-3)), (36, .ireturn, 1, 0, 0, 0, 0), (37, .iload_n 1, 1, 1, 0, 0, 0), (38, .iconst 2, 1, 0, 0, 0, 2), (39, .if_icmp .ne 10, 3, 49, 0, 0, 0), (42, .iload_n 2, 1, 2, 0, 0, 0), (43, .ifCond .le 6, 3, 49, 0, 0, 0), (46, .bipush (-101), 2, 0, 0, 0, (-101)), (48, .ireturn, 1, 0, 0, 0, 0), (49, .aload_n 0, 1, 0, 0, 0, 0), (50, .getfield 135, 3, 8, 13, 802, 0), (53, .bipush 12, 2, 0, 0, 0, 12), (55, .if_icmp .eq 15, 3, 70, 0, 0, 0), (58, .aload_n 0, 1, 0, 0, 0, 0), (59, .getfield 131, 3, 8, 0, 789, 0), (62, .iload_n 2, 1, 2, 0, 0, 0), (63, .iadd, 1, 0, 0, 0, 0), (64, .sipush 200, 3, 0, 0, 0, 200), (67, .if_icmp .le 6, 3, 73, 0, 0, 0), (70, .bipush (-5), 2, 0, 0, 0, (-5)), (72, .ireturn, 1, 0, 0, 0, 0), (73, .aload_n 0, 1, 0, 0, 0, 0), (74, .getfield 135, 3, 8, 13, 802, 0), (77, .istore 4, 2, 4, 0, 0, 0), (79, .aload_n 0, 1, 0, 0, 0, 0), (80, .dup, 1, 0, 0, 0, 0), (81, .getfield 135, 3, 8, 13, 802, 0), (84, .iconst 1, 1, 0, 0, 0, 1), (85, .iadd, 1, 0, 0, 0, 0), (86, .putfield 135, 3, 8, 13, 802, 0), (89, .aload_n 0, 1, 0, 0, 0, 0), (90, .getfield 44, 3, 8, 14, 803, 0), (93, .iload 4, 2, 4, 0, 0, 0), (95, .iload_n 1, 1, 1, 0, 0, 0), (96, .iastore, 1, 0, 0, 0, 0), (97, .aload_n 0, 1, 0, 0, 0, 0), (98, .getfield 47, 3, 8, 15, 804, 0), (101, .iload 4, 2, 4, 0, 0, 0), (103, .iload_n 2, 1, 2, 0, 0, 0), (104, .iastore, 1, 0, 0, 0, 0), (105, .aload_n 0, 1, 0, 0, 0, 0), (106, .getfield 50, 3, 8, 16, 805, 0), (109, .iload 4, 2, 4, 0, 0, 0), (111, .iload_n 3, 1, 3, 0, 0, 0), (112, .iastore, 1, 0, 0, 0, 0), (113, .aload_n 0, 1, 0, 0, 0, 0), (114, .iconst 0, 1, 0, 0, 0, 0), (115, .putfield 145, 3, 8, 24, 813, 0), (118, .iconst 0, 1, 0, 0, 0, 0), (119, .istore 5, 2, 5, 0, 0, 0), (121, .iload 5, 2, 5, 0, 0, 0), (123, .iload_n 2, 1, 2, 0, 0, 0), (124, .if_icmp .ge 34, 3, 158, 0, 0, 0), (127, .aload_n 0, 1, 0, 0, 0, 0), (128, .aload_n 0, 1, 0, 0, 0, 0), (129, .getfield 131, 3, 8, 0, 789, 0), (132, .iconst 3, 1, 0, 0, 0, 3), (133, .iload 4, 2, 4, 0, 0, 0), (135, .iload 5, 2, 5, 0, 0, 0), (137, .iconst (-1), 1, 0, 0, 0, (-1)), (138, .iconst (-1), 1, 0, 0, 0, (-1)), (139, .invokevirtual 152, 3, 4, 6, 969, 0), (142, .aload_n 0, 1, 0, 0, 0, 0), (143, .dup, 1, 0, 0, 0, 0), (144, .getfield 131, 3, 8, 0, 789, 0), (147, .iconst 1, 1, 0, 0, 0, 1), (148, .iadd, 1, 0, 0, 0, 0), (149, .putfield 131, 3, 8, 0, 789, 0), (152, .iinc 5 1, 3, 5, 0, 0, 1), (155, .goto (-34), 3, 121, 0, 0, 0), (158, .iload 4, 2, 4, 0, 0, 0), (160, .ireturn, 1, 0, 0, 0, 0)]
/-- TypeForms2Model.variable(II)I -/
def kM_33 : List (Nat × ai_I) := [(0, .aload_n 0, 1, 0, 0, 0, 0), (1, .iload_n 1, 1, 1, 0, 0, 0), (2, .invokevirtual 243, 3, 2, 1, 962, 0), (5, .ifCond .eq 19, 3, 24, 0, 0, 0), (8, .iload_n 2, 1, 2, 0, 0, 0), (9, .iconst 0, 1, 0, 0, 0, 0), (10, .aload_n 0, 1, 0, 0, 0, 0), (11, .getfield 47, 3, 8, 15, 804, 0), (14, .iload_n 1, 1, 1, 0, 0, 0), (15, .iaload, 1, 0, 0, 0, 0), (16, .iconst 1, 1, 0, 0, 0, 1), (17, .isub, 1, 0, 0, 0, 0), (18, .invokestatic 141, 3, 0, 3, 966, 0), (21, .ifCond .ne 6, 3, 27, 0, 0, 0), (24, .bipush (-2), 2, 0, 0, 0, (-2)), (26, .ireturn, 1, 0, 0, 0, 0), (27, .aload_n 0, 1, 0, 0, 0, 0), (28, .iconst 3, 1, 0, 0, 0, 3), (29, .iload_n 1, 1, 1, 0, 0, 0), (30, .iload_n 2, 1, 2, 0, 0, 0), (31, .iconst (-1), 1, 0, 0, 0, (-1)), (32, .iconst (-1), 1, 0, 0, 0, (-1)), (33, .invokevirtual 156, 3, 5, 5, 977, 0), (36, .istore_n 3, 1, 3, 0, 0, 0), (37, .aload_n 0, 1, 0, 0, 0, 0), (38, .sipush 256, 3, 0, 0, 0, 256), (41, .putfield 138, 3, 8, 1, 790, 0), (44, .iload_n 3, 1, 3, 0, 0, 0), (45, .ireturn, 1, 0, 0, 0, 0)]
/-- TypeForms2Model.isTellable(II)Z -/
def kM_34 : List (Nat × ai_I) := [(0, .aload_n 0, 1, 0, 0, 0, 0), (1, .getfield 7, 3, 8, 2, 791, 0), (4, .iload_n 2, 1, 2, 0, 0, 0), (5, .iaload, 1, 0, 0, 0, 0), (6, .iconst 5, 1, 0, 0, 0, 5), (7, .if_icmp .ne 29, 3, 36, 0, 0, 0), (10, .aload_n 0, 1, 0, 0, 0, 0), (11, .getfield 22, 3, 8, 6, 795, 0), (14, .iload_n 2, 1, 2, 0, 0, 0), (15, .iaload, 1, 0, 0, 0, 0), (16, .ifCond .lt 16, 3, 32, 0, 0, 0), (19, .aload_n 0, 1, 0, 0, 0, 0), (20, .aload_n 0, 1, 0, 0, 0, 0), (21, .getfield 22, 3, 8, 6, 795, 0), (24, .iload_n 2, 1, 2, 0, 0, 0), (25, .iaload, 1, 0, 0, 0, 0), (26, .invokevirtual 246, 3, 11, 1, 997, 0), (29, .ifCond .ne 7, 3, 36, 0, 0, 0), (32, .iconst 1, 1, 0, 0, 0, 1), (33, .goto 4, 3, 37, 0, 0, 0), (36, .iconst 0, 1, 0, 0, 0, 0), (37, .istore_n 3, 1, 3, 0, 0, 0), (38, .iconst 0, 1, 0, 0, 0, 0), (39, .istore 4, 2, 4, 0, 0, 0), (41, .iload_n 3, 1, 3, 0, 0, 0), (42, .ifCond .eq 111, 3, 153, 0, 0, 0), (45, .iload 4, 2, 4, 0, 0, 0), (47, .aload_n 0, 1, 0, 0, 0, 0), (48, .getfield 25, 3, 8, 7, 796, 0), (51, .iload_n 2, 1, 2, 0, 0, 0), (52, .iaload, 1, 0, 0, 0, 0), (53, .if_icmp .ge 100, 3, 153, 0, 0, 0), (56, .aload_n 0, 1, 0, 0, 0, 0), (57, .getfield 34, 3, 8, 10, 799, 0), (60, .iconst 3, 1, 0, 0, 0, 3), (61, .iload_n 2, 1, 2, 0, 0, 0), (62, .imul, 1, 0, 0, 0, 0), (63, .iload 4, 2, 4, 0, 0, 0), (65, .iadd, 1, 0, 0, 0, 0), (66, .iaload, 1, 0, 0, 0, 0), (67, .istore 5, 2, 5, 0, 0, 0), (69, .aload_n 0, 1, 0, 0, 0, 0), (70, .getfield 31, 3, 8, 9, 798, 0), (73, .iconst 3, 1, 0, 0, 0, 3), (74, .iload_n 2, 1, 2, 0, 0, 0), (75, .imul, 1, 0, 0, 0, 0), (76, .iload 4, 2, 4, 0, 0, 0), (78, .iadd, 1, 0, 0, 0, 0), (79, .iaload, 1, 0, 0, 0, 0), (80, .ifCond .ne 29, 3, 109, 0, 0, 0), (83, .aload_n 0, 1, 0, 0, 0, 0), (84, .getfield 7, 3, 8, 2, 791, 0), (87, .iload 5, 2, 5, 0, 0, 0), (89, .iaload, 1, 0, 0, 0, 0), (90, .iconst 3, 1, 0, 0, 0, 3), (91, .if_icmp .ne 18, 3, 109, 0, 0, 0), (94, .aload_n 0, 1, 0, 0, 0, 0), (95, .getfield 13, 3, 8, 3, 792, 0), (98, .iload 5, 2, 5, 0, 0, 0), (100, .iaload, 1, 0, 0, 0, 0), (101, .iload_n 1, 1, 1, 0, 0, 0), (102, .if_icmp .ne 7, 3, 109, 0, 0, 0), (105, .iconst 1, 1, 0, 0, 0, 1), (106, .goto 4, 3, 110, 0, 0, 0), (109, .iconst 0, 1, 0, 0, 0, 0), (110, .istore 6, 2, 6, 0, 0, 0), (112, .aload_n 0, 1, 0, 0, 0, 0), (113, .getfield 31, 3, 8, 9, 798, 0), (116, .iconst 3, 1, 0, 0, 0, 3), (117, .iload_n 2, 1, 2, 0, 0, 0), (118, .imul, 1, 0, 0, 0, 0), (119, .iload 4, 2, 4, 0, 0, 0), (121, .iadd, 1, 0, 0, 0, 0), (122, .iaload, 1, 0, 0, 0, 0), (123, .iconst 3, 1, 0, 0, 0, 3), (124, .if_icmp .eq 17, 3, 141, 0, 0, 0), (127, .iload 6, 2, 6, 0, 0, 0), (129, .ifCond .ne 12, 3, 141, 0, 0, 0), (132, .aload_n 0, 1, 0, 0, 0, 0), (133, .iload 5, 2, 5, 0, 0, 0), (135, .invokevirtual 246, 3, 11, 1, 997, 0), (138, .ifCond .ne 7, 3, 145, 0, 0, 0), (141, .iconst 1, 1, 0, 0, 0, 1), (142, .goto 4, 3, 146, 0, 0, 0), (145, .iconst 0, 1, 0, 0, 0, 0), (146, .istore_n 3, 1, 3, 0, 0, 0), (147, .iinc 4 1, 3, 4, 0, 0, 1), (150, .goto (-109), 3, 41, 0, 0, 0), (153, .iload_n 3, 1, 3, 0, 0, 0), (154, .ireturn, 1, 0, 1, 0, 0)]
/-- TypeForms2Model.bound(III)I -/
def kM_35 : List (Nat × ai_I) := [(0, .aload_n 0, 1, 0, 0, 0, 0), (1, .iload_n 1, 1, 1, 0, 0, 0), (2, .invokevirtual 243, 3, 2, 1, 962, 0), (5, .ifCond .eq 27, 3, 32, 0, 0, 0), (8, .iload_n 2, 1, 2, 0, 0, 0), (9, .iconst 0, 1, 0, 0, 0, 0), (10, .aload_n 0, 1, 0, 0, 0, 0), (11, .getfield 47, 3, 8, 15, 804, 0), (14, .iload_n 1, 1, 1, 0, 0, 0), (15, .iaload, 1, 0, 0, 0, 0), (16, .iconst 1, 1, 0, 0, 0, 1), (17, .isub, 1, 0, 0, 0, 0), (18, .invokestatic 141, 3, 0, 3, 966, 0), (21, .ifCond .eq 11, 3, 32, 0, 0, 0), (24, .aload_n 0, 1, 0, 0, 0, 0), (25, .iload_n 3, 1, 3, 0, 0, 0), (26, .invokevirtual 249, 3, 1, 1, 989, 0), (29, .ifCond .ne 6, 3, 35, 0, 0, 0), (32, .bipush (-2), 2, 0, 0, 0, (-2)), (34, .ireturn, 1, 0, 0, 0, 0), (35, .iconst 3, 1, 0, 0, 0, 3), (36, .iload_n 1, 1, 1, 0, 0, 0), (37, .imul, 1, 0, 0, 0, 0), (38, .iload_n 2, 1, 2, 0, 0, 0), (39, .iadd, 1, 0, 0, 0, 0), (40, .istore 4, 2, 4, 0, 0, 0), (42, .aload_n 0, 1, 0, 0, 0, 0), (43, .getfield 7, 3, 8, 2, 791, 0), (46, .iload_n 3, 1, 3, 0, 0, 0), (47, .iaload, 1, 0, 0, 0, 0), (48, .iconst 3, 1, 0, 0, 0, 3), (49, .if_icmp .ne 7, 3, 56, 0, 0, 0), (52, .iconst 1, 1, 0, 0, 0, 1), (53, .goto 4, 3, 57, 0, 0, 0), (56, .iconst 0, 1, 0, 0, 0, 0), (57, .istore 5, 2, 5, 0, 0, 0), (59, .iload 5, 2, 5, 0, 0, 0), (61, .ifCond .eq 16, 3, 77, 0, 0, 0), (64, .aload_n 0, 1, 0, 0, 0, 0), (65, .getfield 13, 3, 8, 3, 792, 0), (68, .iload_n 3, 1, 3, 0, 0, 0), (69, .iaload, 1, 0, 0, 0, 0), (70, .iload_n 1, 1, 1, 0, 0, 0), (71, .if_icmp .eq 18, 3, 89, 0, 0, 0), (74, .goto 12, 3, 86, 0, 0, 0), (77, .aload_n 0, 1, 0, 0, 0, 0), (78, .iload_n 1, 1, 1, 0, 0, 0), (79, .iload_n 3, 1, 3, 0, 0, 0), (80, .invokevirtual 252, 3, 34, 2, 993, 0), (83, .ifCond .ne 6, 3, 89, 0, 0, 0), (86, .bipush (-102), 2, 0, 0, 0, (-102)), (88, .ireturn, 1, 0, 0, 0, 0), (89, .aload_n 0, 1, 0, 0, 0, 0), (90, .getfield 59, 3, 8, 19, 808, 0), (93, .iload 4, 2, 4, 0, 0, 0), (95, .iaload, 1, 0, 0, 0, 0), (96, .ifCond .le 29, 3, 125, 0, 0, 0), (99, .iload 5, 2, 5, 0, 0, 0), (101, .ifCond .ne 21, 3, 122, 0, 0, 0), (104, .aload_n 0, 1, 0, 0, 0, 0), (105, .getfield 7, 3, 8, 2, 791, 0), (108, .aload_n 0, 1, 0, 0, 0, 0), (109, .getfield 62, 3, 8, 20, 809, 0), (112, .iconst 3, 1, 0, 0, 0, 3), (113, .iload 4, 2, 4, 0, 0, 0), (115, .imul, 1, 0, 0, 0, 0), (116, .iaload, 1, 0, 0, 0, 0), (117, .iaload, 1, 0, 0, 0, 0), (118, .iconst 3, 1, 0, 0, 0, 3), (119, .if_icmp .ne 6, 3, 125, 0, 0, 0), (122, .bipush (-104), 2, 0, 0, 0, (-104)), (124, .ireturn, 1, 0, 0, 0, 0), (125, .aload_n 0, 1, 0, 0, 0, 0), (126, .getfield 59, 3, 8, 19, 808, 0), (129, .iload 4, 2, 4, 0, 0, 0), (131, .iaload, 1, 0, 0, 0, 0), (132, .ifCond .le 21, 3, 153, 0, 0, 0), (135, .aload_n 0, 1, 0, 0, 0, 0), (136, .getfield 44, 3, 8, 14, 803, 0), (139, .aload_n 0, 1, 0, 0, 0, 0), (140, .getfield 13, 3, 8, 3, 792, 0), (143, .iload_n 3, 1, 3, 0, 0, 0), (144, .iaload, 1, 0, 0, 0, 0), (145, .iaload, 1, 0, 0, 0, 0), (146, .iconst 1, 1, 0, 0, 0, 1), (147, .if_icmp .eq 6, 3, 153, 0, 0, 0), (150, .bipush (-105), 2, 0, 0, 0, (-105)), (152, .ireturn, 1, 0, 0, 0, 0), (153, .iload 5, 2, 5, 0, 0, 0), (155, .ifCond .eq 16, 3, 171, 0, 0, 0), (158, .aload_n 0, 1, 0, 0, 0, 0), (159, .iload_n 3, 1, 3, 0, 0, 0), (160, .iload 4, 2, 4, 0, 0, 0), (162, .invokevirtual 255, 3, 36, 2, 1009, 0), (165, .ifCond .eq 6, 3, 171, 0, 0, 0), (168, .bipush (-106), 2, 0, 0, 0, (-106)), (170, .ireturn, 1, 0, 0, 0, 0), (171, .aload_n 0, 1, 0, 0, 0, 0), (172, .getfield 59, 3, 8, 19, 808, 0), (175, .iload 4, 2, 4, 0, 0, 0), (177, .iaload, 1, 0, 0, 0, 0), (178, .iconst 3, 1, 0, 0, 0, 3), (179, .if_icmp .ne 6, 3, 185, 0, 0, 0), (182, .bipush (-5), 2, 0, 0, 0, (-5)), (184, .ireturn, 1, 0, 0, 0, 0), (185, .aload_n 0, 1, 0, 0, 0, 0), (186, .getfield 62, 3, 8, 20, 809, 0), (189, .iconst 3, 1, 0, 0, 0, 3), (190, .iload 4, 2, 4, 0, 0, 0), (192, .imul, 1, 0, 0, 0, 0), (193, .aload_n 0, 1, 0, 0, 0, 0), (194, .getfield 59, 3, 8, 19, 808, 0), (197, .iload 4, 2, 4, 0, 0, 0), (199, .iaload, 1, 0, 0, 0, 0), (200, .iadd, 1, 0, 0, 0, 0), (201, .iload_n 3, 1, 3, 0, 0, 0), (202, .iastore, 1, 0, 0, 0, 0), (203, .aload_n 0, 1, 0, 0, 0, 0), (204, .getfield 59, 3, 8, 19, 808, 0), (207, .iload 4, 2, 4, 0, 0, 0), (209, .dup2, 1, 0, 0, 0, 0), (210, .iaload, 1, 0, 0, 0, 0), (211, .iconst 1, 1, 0, 0, 0, 1), (212, .iadd, 1, 0, 0, 0, 0), (213, .iastore, 1, 0, 0, 0, 0), (214, .aload_n 0, 1, 0, 0, 0, 0), (215, .getfield 59, 3, 8, 19, 808, 0), (218, .iload 4, 2, 4, 0, 0, 0), (220, .iaload, 1, 0, 0, 0, 0), (221, .ireturn, 1, 0, 0, 0, 0)]
/-- TypeForms2Model.leadsTo(II)Z -/
def kM_36 : List (Nat × ai_I) := [(0, .iload_n 1, 1, 1, 0, 0, 0), (1, .istore_n 3, 1, 3, 0, 0, 0), (2, .aload_n 0, 1, 0, 0, 0, 0), (3, .getfield 7, 3, 8, 2, 791, 0), (6, .iload_n 3, 1, 3, 0, 0, 0), (7, .iaload, 1, 0, 0, 0, 0), (8, .iconst 3, 1, 0, 0, 0, 3), (9, .if_icmp .ne 56, 3, 65, 0, 0, 0), (12, .iconst 3, 1, 0, 0, 0, 3), (13, .aload_n 0, 1, 0, 0, 0, 0), (14, .getfield 13, 3, 8, 3, 792, 0), (17, .iload_n 3, 1, 3, 0, 0, 0), (18, .iaload, 1, 0, 0, 0, 0), (19, .imul, 1, 0, 0, 0, 0), (20, .aload_n 0, 1, 0, 0, 0, 0), (21, .getfield 16, 3, 8, 4, 793, 0), (24, .iload_n 3, 1, 3, 0, 0, 0), (25, .iaload, 1, 0, 0, 0, 0), (26, .iadd, 1, 0, 0, 0, 0), (27, .istore 4, 2, 4, 0, 0, 0), (29, .iload 4, 2, 4, 0, 0, 0), (31, .iload_n 2, 1, 2, 0, 0, 0), (32, .if_icmp .ne 5, 3, 37, 0, 0, 0), (35, .iconst 1, 1, 0, 0, 0, 1), (36, .ireturn, 1, 0, 1, 0, 0), (37, .aload_n 0, 1, 0, 0, 0, 0), (38, .getfield 59, 3, 8, 19, 808, 0), (41, .iload 4, 2, 4, 0, 0, 0), (43, .iaload, 1, 0, 0, 0, 0), (44, .ifCond .le 15, 3, 59, 0, 0, 0), (47, .aload_n 0, 1, 0, 0, 0, 0), (48, .getfield 62, 3, 8, 20, 809, 0), (51, .iconst 3, 1, 0, 0, 0, 3), (52, .iload 4, 2, 4, 0, 0, 0), (54, .imul, 1, 0, 0, 0, 0), (55, .iaload, 1, 0, 0, 0, 0), (56, .goto 5, 3, 61, 0, 0, 0), (59, .bipush 10, 2, 0, 0, 0, 10), (61, .istore_n 3, 1, 3, 0, 0, 0), (62, .goto (-60), 3, 2, 0, 0, 0), (65, .iconst 0, 1, 0, 0, 0, 0), (66, .ireturn, 1, 0, 1, 0, 0)]
/-- TypeForms2Model.parent(II)I -/
def kM_37 : List (Nat × ai_I) := [(0, .iload_n 1, 1, 1, 0, 0, 0), (1, .iconst 1, 1, 0, 0, 0, 1), (2, .aload_n 0, 1, 0, 0, 0, 0), (3, .getfield 135, 3, 8, 13, 802, 0), (6, .iconst 1, 1, 0, 0, 0, 1), (7, .isub, 1, 0, 0, 0, 0), (8, .invokestatic 141, 3, 0, 3, 966, 0), (11, .ifCond .eq 11, 3, 22, 0, 0, 0), (14, .aload_n 0, 1, 0, 0, 0, 0), (15, .iload_n 2, 1, 2, 0, 0, 0), (16, .invokevirtual 249, 3, 1, 1, 989, 0), (19, .ifCond .ne 6, 3, 25, 0, 0, 0), (22, .bipush (-2), 2, 0, 0, 0, (-2)), (24, .ireturn, 1, 0, 0, 0, 0), (25, .aload_n 0, 1, 0, 0, 0, 0), (26, .iload_n 1, 1, 1, 0, 0, 0), (27, .iload_n 2, 1, 2, 0, 0, 0), (28, .invokevirtual 252, 3, 34, 2, 993, 0), (31, .ifCond .ne 6, 3, 37, 0, 0, 0), (34, .bipush (-102), 2, 0, 0, 0, (-102)), (36, .ireturn, 1, 0, 0, 0, 0), (37, .aload_n 0, 1, 0, 0, 0, 0), (38, .getfield 13, 3, 8, 3, 792, 0), (41, .iload_n 2, 1, 2, 0, 0, 0), (42, .iaload, 1, 0, 0, 0, 0), (43, .iload_n 1, 1, 1, 0, 0, 0), (44, .if_icmp .lt 6, 3, 50, 0, 0, 0), (47, .bipush (-107), 2, 0, 0, 0, (-107)), (49, .ireturn, 1, 0, 0, 0, 0), (50, .aload_n 0, 1, 0, 0, 0, 0), (51, .getfield 44, 3, 8, 14, 803, 0), (54, .iload_n 1, 1, 1, 0, 0, 0), (55, .iaload, 1, 0, 0, 0, 0), (56, .iconst 1, 1, 0, 0, 0, 1), (57, .if_icmp .eq 12, 3, 69, 0, 0, 0), (60, .aload_n 0, 1, 0, 0, 0, 0), (61, .getfield 53, 3, 8, 17, 806, 0), (64, .iload_n 1, 1, 1, 0, 0, 0), (65, .iaload, 1, 0, 0, 0, 0), (66, .ifCond .le 21, 3, 87, 0, 0, 0), (69, .aload_n 0, 1, 0, 0, 0, 0), (70, .getfield 44, 3, 8, 14, 803, 0), (73, .aload_n 0, 1, 0, 0, 0, 0), (74, .getfield 13, 3, 8, 3, 792, 0), (77, .iload_n 2, 1, 2, 0, 0, 0), (78, .iaload, 1, 0, 0, 0, 0), (79, .iaload, 1, 0, 0, 0, 0), (80, .iconst 1, 1, 0, 0, 0, 1), (81, .if_icmp .eq 6, 3, 87, 0, 0, 0), (84, .bipush (-108), 2, 0, 0, 0, (-108)), (86, .ireturn, 1, 0, 0, 0, 0), (87, .aload_n 0, 1, 0, 0, 0, 0), (88, .getfield 53, 3, 8, 17, 806, 0), (91, .iload_n 1, 1, 1, 0, 0, 0), (92, .iaload, 1, 0, 0, 0, 0), (93, .iconst 3, 1, 0, 0, 0, 3), (94, .if_icmp .ne 6, 3, 100, 0, 0, 0), (97, .bipush (-5), 2, 0, 0, 0, (-5)), (99, .ireturn, 1, 0, 0, 0, 0), (100, .aload_n 0, 1, 0, 0, 0, 0), (101, .getfield 56, 3, 8, 18, 807, 0), (104, .iconst 3, 1, 0, 0, 0, 3), (105, .iload_n 1, 1, 1, 0, 0, 0), (106, .imul, 1, 0, 0, 0, 0), (107, .aload_n 0, 1, 0, 0, 0, 0), (108, .getfield 53, 3, 8, 17, 806, 0), (111, .iload_n 1, 1, 1, 0, 0, 0), (112, .iaload, 1, 0, 0, 0, 0), (113, .iadd, 1, 0, 0, 0, 0), (114, .iload_n 2, 1, 2, 0, 0, 0), (115, .iastore, 1, 0, 0, 0, 0), (116, .aload_n 0, 1, 0, 0, 0, 0), (117, .getfield 53, 3, 8, 17, 806, 0), (120, .iload_n 1, 1, 1, 0, 0, 0), (121, .dup2, 1, 0, 0, 0, 0), (122, .iaload, 1, 0, 0, 0, 0), (123, .iconst 1, 1, 0, 0, 0, 1), (124, .iadd, 1, 0, 0, 0, 0), (125, .iastore, 1, 0, 0, 0, 0), (126, .aload_n 0, 1, 0, 0, 0, 0), (127, .getfield 53, 3, 8, 17, 806, 0), (130, .iload_n 1, 1, 1, 0, 0, 0), (131, .iaload, 1, 0, 0, 0, 0), (132, .ireturn, 1, 0, 0, 0, 0)]
/-- TypeForms2Model.argument(II)I -/
def kM_38 : List (Nat × ai_I) := [(0, .iload_n 1, 1, 1, 0, 0, 0), (1, .iconst 3, 1, 0, 0, 0, 3), (2, .if_icmp .eq 14, 3, 16, 0, 0, 0), (5, .aload_n 0, 1, 0, 0, 0, 0), (6, .iload_n 2, 1, 2, 0, 0, 0), (7, .invokevirtual 249, 3, 1, 1, 989, 0), (10, .ifCond .ne 6, 3, 16, 0, 0, 0), (13, .bipush (-2), 2, 0, 0, 0, (-2)), (15, .ireturn, 1, 0, 0, 0, 0), (16, .iload_n 1, 1, 1, 0, 0, 0), (17, .iconst 0, 1, 0, 0, 0, 0), (18, .iconst 3, 1, 0, 0, 0, 3), (19, .invokestatic 141, 3, 0, 3, 966, 0), (22, .ifCond .ne 6, 3, 28, 0, 0, 0), (25, .bipush (-3), 2, 0, 0, 0, (-3)), (27, .ireturn, 1, 0, 0, 0, 0), (28, .iload_n 1, 1, 1, 0, 0, 0), (29, .iconst 3, 1, 0, 0, 0, 3), (30, .if_icmp .eq 14, 3, 44, 0, 0, 0), (33, .aload_n 0, 1, 0, 0, 0, 0), (34, .iload_n 2, 1, 2, 0, 0, 0), (35, .invokevirtual 212, 3, 21, 1, 1021, 0), (38, .ifCond .eq 6, 3, 44, 0, 0, 0), (41, .bipush (-109), 2, 0, 0, 0, (-109)), (43, .ireturn, 1, 0, 0, 0, 0), (44, .aload_n 0, 1, 0, 0, 0, 0), (45, .getfield 258, 3, 8, 21, 810, 0), (48, .iconst 3, 1, 0, 0, 0, 3), (49, .if_icmp .ne 6, 3, 55, 0, 0, 0), (52, .bipush (-5), 2, 0, 0, 0, (-5)), (54, .ireturn, 1, 0, 0, 0, 0), (55, .aload_n 0, 1, 0, 0, 0, 0), (56, .getfield 65, 3, 8, 22, 811, 0), (59, .aload_n 0, 1, 0, 0, 0, 0), (60, .getfield 258, 3, 8, 21, 810, 0), (63, .iload_n 1, 1, 1, 0, 0, 0), (64, .iastore, 1, 0, 0, 0, 0), (65, .aload_n 0, 1, 0, 0, 0, 0), (66, .getfield 68, 3, 8, 23, 812, 0), (69, .aload_n 0, 1, 0, 0, 0, 0), (70, .getfield 258, 3, 8, 21, 810, 0), (73, .iload_n 1, 1, 1, 0, 0, 0), (74, .iconst 3, 1, 0, 0, 0, 3), (75, .if_icmp .ne 7, 3, 82, 0, 0, 0), (78, .iconst (-1), 1, 0, 0, 0, (-1)), (79, .goto 4, 3, 83, 0, 0, 0), (82, .iload_n 2, 1, 2, 0, 0, 0), (83, .iastore, 1, 0, 0, 0, 0), (84, .aload_n 0, 1, 0, 0, 0, 0), (85, .dup, 1, 0, 0, 0, 0), (86, .getfield 258, 3, 8, 21, 810, 0), (89, .iconst 1, 1, 0, 0, 0, 1), (90, .iadd, 1, 0, 0, 0, 0), (91, .putfield 258, 3, 8, 21, 810, 0), (94, .aload_n 0, 1, 0, 0, 0, 0), (95, .getfield 258, 3, 8, 21, 810, 0), (98, .ireturn, 1, 0, 0, 0, 0)]
/-- TypeForms2Model.wrong(III[I[II)I -/
def kM_39 : List (Nat × ai_I) := [(0, .iload_n 3, 1, 3, 0, 0, 0), (1, .ifCond .le 16, 3, 17, 0, 0, 0), (4, .iload_n 3, 1, 3, 0, 0, 0), (5, .aload_n 0, 1, 0, 0, 0, 0), (6, .getfield 47, 3, 8, 15, 804, 0), (9, .iload_n 1, 1, 1, 0, 0, 0), (10, .iaload, 1, 0, 0, 0, 0), (11, .if_icmp .eq 6, 3, 17, 0, 0, 0), (14, .bipush (-110), 2, 0, 0, 0, (-110)), (16, .ireturn, 1, 0, 0, 0, 0), (17, .aload_n 0, 1, 0, 0, 0, 0), (18, .getfield 50, 3, 8, 16, 805, 0), (21, .iload_n 1, 1, 1, 0, 0, 0), (22, .iaload, 1, 0, 0, 0, 0), (23, .iconst (-1), 1, 0, 0, 0, (-1)), (24, .if_icmp .ne 11, 3, 35, 0, 0, 0), (27, .iload_n 2, 1, 2, 0, 0, 0), (28, .iconst (-1), 1, 0, 0, 0, (-1)), (29, .if_icmp .eq 39, 3, 68, 0, 0, 0), (32, .goto 33, 3, 65, 0, 0, 0), (35, .iload_n 2, 1, 2, 0, 0, 0), (36, .iconst (-1), 1, 0, 0, 0, (-1)), (37, .if_icmp .eq 28, 3, 65, 0, 0, 0), (40, .aload_n 0, 1, 0, 0, 0, 0), (41, .getfield 7, 3, 8, 2, 791, 0), (44, .iload_n 2, 1, 2, 0, 0, 0), (45, .iaload, 1, 0, 0, 0, 0), (46, .iconst 5, 1, 0, 0, 0, 5), (47, .if_icmp .ne 18, 3, 65, 0, 0, 0), (50, .aload_n 0, 1, 0, 0, 0, 0), (51, .getfield 13, 3, 8, 3, 792, 0), (54, .iload_n 2, 1, 2, 0, 0, 0), (55, .iaload, 1, 0, 0, 0, 0), (56, .aload_n 0, 1, 0, 0, 0, 0), (57, .getfield 50, 3, 8, 16, 805, 0), (60, .iload_n 1, 1, 1, 0, 0, 0), (61, .iaload, 1, 0, 0, 0, 0), (62, .if_icmp .eq 6, 3, 68, 0, 0, 0), (65, .bipush (-111), 2, 0, 0, 0, (-111)), (67, .ireturn, 1, 0, 0, 0, 0), (68, .iload_n 3, 1, 3, 0, 0, 0), (69, .ifCond .le 19, 3, 88, 0, 0, 0), (72, .iload_n 2, 1, 2, 0, 0, 0), (73, .iconst (-1), 1, 0, 0, 0, (-1)), (74, .if_icmp .eq 14, 3, 88, 0, 0, 0), (77, .aload_n 0, 1, 0, 0, 0, 0), (78, .iload_n 2, 1, 2, 0, 0, 0), (79, .invokevirtual 188, 3, 12, 1, 1033, 0), (82, .ifCond .eq 6, 3, 88, 0, 0, 0), (85, .bipush (-112), 2, 0, 0, 0, (-112)), (87, .ireturn, 1, 0, 0, 0, 0), (88, .iconst 0, 1, 0, 0, 0, 0), (89, .istore 7, 2, 7, 0, 0, 0), (91, .iload 7, 2, 7, 0, 0, 0), (93, .iload_n 3, 1, 3, 0, 0, 0), (94, .if_icmp .ge 39, 3, 133, 0, 0, 0), (97, .aload_n 0, 1, 0, 0, 0, 0), (98, .getfield 71, 3, 8, 25, 814, 0), (101, .iload 7, 2, 7, 0, 0, 0), (103, .aload 4, 2, 4, 0, 0, 0), (105, .iload 6, 2, 6, 0, 0, 0), (107, .iload 7, 2, 7, 0, 0, 0), (109, .iadd, 1, 0, 0, 0, 0), (110, .iaload, 1, 0, 0, 0, 0), (111, .iastore, 1, 0, 0, 0, 0), (112, .aload_n 0, 1, 0, 0, 0, 0), (113, .getfield 74, 3, 8, 26, 815, 0), (116, .iload 7, 2, 7, 0, 0, 0), (118, .aload 5, 2, 5, 0, 0, 0), (120, .iload 6, 2, 6, 0, 0, 0), (122, .iload 7, 2, 7, 0, 0, 0), (124, .iadd, 1, 0, 0, 0, 0), (125, .iaload, 1, 0, 0, 0, 0), (126, .iastore, 1, 0, 0, 0, 0), (127, .iinc 7 1, 3, 7, 0, 0, 1), (130, .goto (-39), 3, 91, 0, 0, 0), (133, .aload_n 0, 1, 0, 0, 0, 0), (134, .iload_n 3, 1, 3, 0, 0, 0), (135, .putfield 145, 3, 8, 24, 813, 0), (138, .aload_n 0, 1, 0, 0, 0, 0), (139, .iconst 5, 1, 0, 0, 0, 5), (140, .iload_n 1, 1, 1, 0, 0, 0), (141, .iconst (-1), 1, 0, 0, 0, (-1)), (142, .iconst (-1), 1, 0, 0, 0, (-1)), (143, .iload_n 2, 1, 2, 0, 0, 0), (144, .invokevirtual 156, 3, 5, 5, 977, 0), (147, .istore 7, 2, 7, 0, 0, 0), (149, .iconst 0, 1, 0, 0, 0, 0), (150, .istore 8, 2, 8, 0, 0, 0), (152, .iload 8, 2, 8, 0, 0, 0), (154, .iload_n 3, 1, 3, 0, 0, 0), (155, .if_icmp .ge 93, 3, 248, 0, 0, 0), (158, .iconst 3, 1, 0, 0, 0, 3), (159, .iload_n 1, 1, 1, 0, 0, 0), (160, .imul, 1, 0, 0, 0, 0), (161, .iload 8, 2, 8, 0, 0, 0), (163, .iadd, 1, 0, 0, 0, 0), (164, .istore 9, 2, 9, 0, 0, 0), (166, .iconst 0, 1, 0, 0, 0, 0), (167, .istore 10, 2, 10, 0, 0, 0), (169, .iload 10, 2, 10, 0, 0, 0), (171, .aload_n 0, 1, 0, 0, 0, 0), (172, .getfield 59, 3, 8, 19, 808, 0), (175, .iload 9, 2, 9, 0, 0, 0), (177, .iaload, 1, 0, 0, 0, 0), (178, .if_icmp .ge 64, 3, 242, 0, 0, 0), (181, .aload_n 0, 1, 0, 0, 0, 0), (182, .getfield 31, 3, 8, 9, 798, 0), (185, .iconst 3, 1, 0, 0, 0, 3), (186, .iload 7, 2, 7, 0, 0, 0), (188, .imul, 1, 0, 0, 0, 0), (189, .iload 8, 2, 8, 0, 0, 0), (191, .iadd, 1, 0, 0, 0, 0), (192, .iaload, 1, 0, 0, 0, 0), (193, .ifCond .ne 49, 3, 242, 0, 0, 0), (196, .aload_n 0, 1, 0, 0, 0, 0), (197, .aload_n 0, 1, 0, 0, 0, 0), (198, .getfield 34, 3, 8, 10, 799, 0), (201, .iconst 3, 1, 0, 0, 0, 3), (202, .iload 7, 2, 7, 0, 0, 0), (204, .imul, 1, 0, 0, 0, 0), (205, .iload 8, 2, 8, 0, 0, 0), (207, .iadd, 1, 0, 0, 0, 0), (208, .iaload, 1, 0, 0, 0, 0), (209, .aload_n 0, 1, 0, 0, 0, 0), (210, .aload_n 0, 1, 0, 0, 0, 0), (211, .getfield 62, 3, 8, 20, 809, 0), (214, .iconst 3, 1, 0, 0, 0, 3), (215, .iload 9, 2, 9, 0, 0, 0), (217, .imul, 1, 0, 0, 0, 0), (218, .iload 10, 2, 10, 0, 0, 0), (220, .iadd, 1, 0, 0, 0, 0), (221, .iaload, 1, 0, 0, 0, 0), (222, .iload 7, 2, 7, 0, 0, 0), (224, .invokevirtual 209, 3, 17, 2, 1037, 0), (227, .invokevirtual 261, 3, 25, 2, 1073, 0), (230, .ifCond .ne 6, 3, 236, 0, 0, 0), (233, .bipush (-113), 2, 0, 0, 0, (-113)), (235, .ireturn, 1, 0, 0, 0, 0), (236, .iinc 10 1, 3, 10, 0, 0, 1), (239, .goto (-70), 3, 169, 0, 0, 0), (242, .iinc 8 1, 3, 8, 0, 0, 1), (245, .goto (-93), 3, 152, 0, 0, 0), (248, .aload_n 0, 1, 0, 0, 0, 0), (249, .iload 7, 2, 7, 0, 0, 0), (251, .putfield 264, 3, 8, 40, 829, 0), (254, .iconst 0, 1, 0, 0, 0, 0), (255, .ireturn, 1, 0, 0, 0, 0)]
/-- TypeForms2Model.make(II)I -/
def kM_40 : List (Nat × ai_I) := [(0, .aload_n 0, 1, 0, 0, 0, 0), (1, .getfield 258, 3, 8, 21, 810, 0), (4, .istore_n 3, 1, 3, 0, 0, 0), (5, .aload_n 0, 1, 0, 0, 0, 0), (6, .iconst 0, 1, 0, 0, 0, 0), (7, .putfield 258, 3, 8, 21, 810, 0), (10, .aload_n 0, 1, 0, 0, 0, 0), (11, .iload_n 1, 1, 1, 0, 0, 0), (12, .invokevirtual 243, 3, 2, 1, 962, 0), (15, .ifCond .eq 16, 3, 31, 0, 0, 0), (18, .iload_n 2, 1, 2, 0, 0, 0), (19, .iconst (-1), 1, 0, 0, 0, (-1)), (20, .if_icmp .eq 14, 3, 34, 0, 0, 0), (23, .aload_n 0, 1, 0, 0, 0, 0), (24, .iload_n 2, 1, 2, 0, 0, 0), (25, .invokevirtual 249, 3, 1, 1, 989, 0), (28, .ifCond .ne 6, 3, 34, 0, 0, 0), (31, .bipush (-2), 2, 0, 0, 0, (-2)), (33, .ireturn, 1, 0, 0, 0, 0), (34, .aload_n 0, 1, 0, 0, 0, 0), (35, .iload_n 1, 1, 1, 0, 0, 0), (36, .iload_n 2, 1, 2, 0, 0, 0), (37, .iload_n 3, 1, 3, 0, 0, 0), (38, .aload_n 0, 1, 0, 0, 0, 0), (39, .getfield 65, 3, 8, 22, 811, 0), (42, .aload_n 0, 1, 0, 0, 0, 0), (43, .getfield 68, 3, 8, 23, 812, 0), (46, .iconst 0, 1, 0, 0, 0, 0), (47, .invokevirtual 267, 3, 39, 6, 1029, 0), (50, .istore 4, 2, 4, 0, 0, 0), (52, .iload 4, 2, 4, 0, 0, 0), (54, .ifCond .eq 13, 3, 67, 0, 0, 0), (57, .aload_n 0, 1, 0, 0, 0, 0), (58, .sipush 256, 3, 0, 0, 0, 256), (61, .putfield 138, 3, 8, 1, 790, 0), (64, .iload 4, 2, 4, 0, 0, 0), (66, .ireturn, 1, 0, 0, 0, 0), (67, .aload_n 0, 1, 0, 0, 0, 0), (68, .aload_n 0, 1, 0, 0, 0, 0), (69, .getfield 264, 3, 8, 40, 829, 0), (72, .invokevirtual 271, 3, 29, 1, 1104, 0), (75, .ireturn, 1, 0, 0, 0, 0)]
/-- TypeForms2Model.array(I)I -/
def kM_41 : List (Nat × ai_I) := [(0, .aload_n 0, 1, 0, 0, 0, 0), (1, .iload_n 1, 1, 1, 0, 0, 0), (2, .invokevirtual 249, 3, 1, 1, 989, 0), (5, .ifCond .ne 6, 3, 11, 0, 0, 0), (8, .bipush (-2), 2, 0, 0, 0, (-2)), (10, .ireturn, 1, 0, 0, 0, 0), (11, .iload_n 1, 1, 1, 0, 0, 0), (12, .bipush 8, 2, 0, 0, 0, 8), (14, .if_icmp .eq 9, 3, 23, 0, 0, 0), (17, .iload_n 1, 1, 1, 0, 0, 0), (18, .bipush 9, 2, 0, 0, 0, 9), (20, .if_icmp .ne 8, 3, 28, 0, 0, 0), (23, .bipush (-114), 2, 0, 0, 0, (-114)), (25, .goto 12, 3, 37, 0, 0, 0), (28, .aload_n 0, 1, 0, 0, 0, 0), (29, .aload_n 0, 1, 0, 0, 0, 0), (30, .iload_n 1, 1, 1, 0, 0, 0), (31, .invokevirtual 172, 3, 6, 1, 1049, 0), (34, .invokevirtual 271, 3, 29, 1, 1104, 0), (37, .ireturn, 1, 0, 0, 0, 0)]
/-- TypeForms2Model.about(II)I -/
def kM_42 : List (Nat × ai_I) := [(0, .aload_n 0, 1, 0, 0, 0, 0), (1, .iload_n 1, 1, 1, 0, 0, 0), (2, .invokevirtual 249, 3, 1, 1, 989, 0), (5, .ifCond .eq 13, 3, 18, 0, 0, 0), (8, .iload_n 2, 1, 2, 0, 0, 0), (9, .iconst 0, 1, 0, 0, 0, 0), (10, .bipush 12, 2, 0, 0, 0, 12), (12, .invokestatic 141, 3, 0, 3, 966, 0), (15, .ifCond .ne 6, 3, 21, 0, 0, 0), (18, .bipush (-2), 2, 0, 0, 0, (-2)), (20, .ireturn, 1, 0, 0, 0, 0), (21, .aload_n 0, 1, 0, 0, 0, 0), (22, .getfield 7, 3, 8, 2, 791, 0), (25, .iload_n 1, 1, 1, 0, 0, 0), (26, .iaload, 1, 0, 0, 0, 0), (27, .iconst 5, 1, 0, 0, 0, 5), (28, .if_icmp .ne 7, 3, 35, 0, 0, 0), (31, .iconst 1, 1, 0, 0, 0, 1), (32, .goto 4, 3, 36, 0, 0, 0), (35, .iconst 0, 1, 0, 0, 0, 0), (36, .istore_n 3, 1, 3, 0, 0, 0), (37, .iload_n 2, 1, 2, 0, 0, 0), (38, .bipush 9, 2, 0, 0, 0, 9), (40, .if_icmp .ge 10, 3, 50, 0, 0, 0), (43, .iload_n 2, 1, 2, 0, 0, 0), (44, .bipush 6, 2, 0, 0, 0, 6), (46, .isub, 1, 0, 0, 0, 0), (47, .goto 7, 3, 54, 0, 0, 0), (50, .iload_n 2, 1, 2, 0, 0, 0), (51, .bipush 9, 2, 0, 0, 0, 9), (53, .isub, 1, 0, 0, 0, 0), (54, .istore 4, 2, 4, 0, 0, 0), (56, .iload_n 2, 1, 2, 0, 0, 0), (57, .tableswitch 189 0 12 #[67, 74, 99, 120, 141, 156, 189, 189, 189, 189, 189, 189, 171], 67, 0, 0, 0, 0), (124, .aload_n 0, 1, 0, 0, 0, 0), (125, .getfield 7, 3, 8, 2, 791, 0), (128, .iload_n 1, 1, 1, 0, 0, 0), (129, .iaload, 1, 0, 0, 0, 0), (130, .ireturn, 1, 0, 0, 0, 0), (131, .iload_n 3, 1, 3, 0, 0, 0), (132, .ifCond .ne 13, 3, 145, 0, 0, 0), (135, .aload_n 0, 1, 0, 0, 0, 0), (136, .getfield 7, 3, 8, 2, 791, 0), (139, .iload_n 1, 1, 1, 0, 0, 0), (140, .iaload, 1, 0, 0, 0, 0), (141, .iconst 3, 1, 0, 0, 0, 3), (142, .if_icmp .ne 12, 3, 154, 0, 0, 0), (145, .aload_n 0, 1, 0, 0, 0, 0), (146, .getfield 13, 3, 8, 3, 792, 0), (149, .iload_n 1, 1, 1, 0, 0, 0), (150, .iaload, 1, 0, 0, 0, 0), (151, .goto 4, 3, 155, 0, 0, 0), (154, .iconst (-1), 1, 0, 0, 0, (-1)), (155, .ireturn, 1, 0, 0, 0, 0), (156, .aload_n 0, 1, 0, 0, 0, 0), (157, .getfield 7, 3, 8, 2, 791, 0), (160, .iload_n 1, 1, 1, 0, 0, 0), (161, .iaload, 1, 0, 0, 0, 0), (162, .iconst 3, 1, 0, 0, 0, 3), (163, .if_icmp .ne 12, 3, 175, 0, 0, 0), (166, .aload_n 0, 1, 0, 0, 0, 0), (167, .getfield 16, 3, 8, 4, 793, 0), (170, .iload_n 1, 1, 1, 0, 0, 0), (171, .iaload, 1, 0, 0, 0, 0), (172, .goto 4, 3, 176, 0, 0, 0), (175, .iconst (-1), 1, 0, 0, 0, (-1)), (176, .ireturn, 1, 0, 0, 0, 0), (177, .aload_n 0, 1, 0, 0, 0, 0), (178, .getfield 7, 3, 8, 2, 791, 0), (181, .iload_n 1, 1, 1, 0, 0, 0), (182, .iaload, 1, 0, 0, 0, 0), (183, .iconst 4, 1, 0, 0, 0, 4), (184, .if_icmp .ne 12, 3, 196, 0, 0, 0), (187, .aload_n 0, 1, 0, 0, 0, 0), (188, .getfield 19, 3, 8, 5, 794, 0), (191, .iload_n 1, 1, 1, 0, 0, 0), (192, .iaload, 1, 0, 0, 0, 0), (193, .goto 4, 3, 197, 0, 0, 0), (196, .iconst (-1), 1, 0, 0, 0, (-1)), (197, .ireturn, 1, 0, 0, 0, 0), (198, .iload_n 3, 1, 3, 0, 0, 0), (199, .ifCond .eq 12, 3, 211, 0, 0, 0), (202, .aload_n 0, 1, 0, 0, 0, 0), (203, .getfield 22, 3, 8, 6, 795, 0), (206, .iload_n 1, 1, 1, 0, 0, 0), (207, .iaload, 1, 0, 0, 0, 0), (208, .goto 4, 3, 212, 0, 0, 0), (211, .iconst (-1), 1, 0, 0, 0, (-1)), (212, .ireturn, 1, 0, 0, 0, 0), (213, .iload_n 3, 1, 3, 0, 0, 0), (214, .ifCond .eq 12, 3, 226, 0, 0, 0), (217, .aload_n 0, 1, 0, 0, 0, 0), (218, .getfield 25, 3, 8, 7, 796, 0), (221, .iload_n 1, 1, 1, 0, 0, 0), (222, .iaload, 1, 0, 0, 0, 0), (223, .goto 4, 3, 227, 0, 0, 0), (226, .iconst 0, 1, 0, 0, 0, 0), (227, .ireturn, 1, 0, 0, 0, 0), (228, .iload_n 3, 1, 3, 0, 0, 0), (229, .ifCond .eq 15, 3, 244, 0, 0, 0), (232, .aload_n 0, 1, 0, 0, 0, 0), (233, .iload_n 1, 1, 1, 0, 0, 0), (234, .invokevirtual 188, 3, 12, 1, 1033, 0), (237, .ifCond .eq 7, 3, 244, 0, 0, 0), (240, .iconst 1, 1, 0, 0, 0, 1), (241, .goto 4, 3, 245, 0, 0, 0), (244, .iconst 0, 1, 0, 0, 0, 0), (245, .ireturn, 1, 0, 0, 0, 0), (246, .iload_n 3, 1, 3, 0, 0, 0), (247, .ifCond .eq 14, 3, 261, 0, 0, 0), (250, .iload 4, 2, 4, 0, 0, 0), (252, .aload_n 0, 1, 0, 0, 0, 0), (253, .getfield 25, 3, 8, 7, 796, 0), (256, .iload_n 1, 1, 1, 0, 0, 0), (257, .iaload, 1, 0, 0, 0, 0), (258, .if_icmp .lt 7, 3, 265, 0, 0, 0), (261, .iconst (-1), 1, 0, 0, 0, (-1)), (262, .goto 34, 3, 296, 0, 0, 0), (265, .iload_n 2, 1, 2, 0, 0, 0), (266, .bipush 9, 2, 0, 0, 0, 9), (268, .if_icmp .ge 17, 3, 285, 0, 0, 0), (271, .aload_n 0, 1, 0, 0, 0, 0), (272, .getfield 31, 3, 8, 9, 798, 0), (275, .iconst 3, 1, 0, 0, 0, 3), (276, .iload_n 1, 1, 1, 0, 0, 0), (277, .imul, 1, 0, 0, 0, 0), (278, .iload 4, 2, 4, 0, 0, 0), (280, .iadd, 1, 0, 0, 0, 0), (281, .iaload, 1, 0, 0, 0, 0), (282, .goto 14, 3, 296, 0, 0, 0), (285, .aload_n 0, 1, 0, 0, 0, 0), (286, .getfield 34, 3, 8, 10, 799, 0), (289, .iconst 3, 1, 0, 0, 0, 3), (290, .iload_n 1, 1, 1, 0, 0, 0), (291, .imul, 1, 0, 0, 0, 0), (292, .iload 4, 2, 4, 0, 0, 0), (294, .iadd, 1, 0, 0, 0, 0), (295, .iaload, 1, 0, 0, 0, 0), (296, .ireturn, 1, 0, 0, 0, 0)]
/-- TypeForms2Model.below(II)I -/
def kM_43 : List (Nat × ai_I) := [(0, .aload_n 0, 1, 0, 0, 0, 0), (1, .iload_n 1, 1, 1, 0, 0, 0), (2, .invokevirtual 249, 3, 1, 1, 989, 0), (5, .ifCond .eq 11, 3, 16, 0, 0, 0), (8, .aload_n 0, 1, 0, 0, 0, 0), (9, .iload_n 2, 1, 2, 0, 0, 0), (10, .invokevirtual 249, 3, 1, 1, 989, 0), (13, .ifCond .ne 6, 3, 19, 0, 0, 0), (16, .bipush (-2), 2, 0, 0, 0, (-2)), (18, .ireturn, 1, 0, 0, 0, 0), (19, .aload_n 0, 1, 0, 0, 0, 0), (20, .iload_n 1, 1, 1, 0, 0, 0), (21, .iload_n 2, 1, 2, 0, 0, 0), (22, .invokevirtual 261, 3, 25, 2, 1073, 0), (25, .istore_n 3, 1, 3, 0, 0, 0), (26, .aload_n 0, 1, 0, 0, 0, 0), (27, .sipush 256, 3, 0, 0, 0, 256), (30, .putfield 138, 3, 8, 1, 790, 0), (33, .iload_n 3, 1, 3, 0, 0, 0), (34, .ireturn, 1, 0, 0, 0, 0)]
/-- TypeForms2Model.erased(I)I -/
def kM_44 : List (Nat × ai_I) := [(0, .aload_n 0, 1, 0, 0, 0, 0), (1, .iload_n 1, 1, 1, 0, 0, 0), (2, .invokevirtual 249, 3, 1, 1, 989, 0), (5, .ifCond .eq 15, 3, 20, 0, 0, 0), (8, .aload_n 0, 1, 0, 0, 0, 0), (9, .aload_n 0, 1, 0, 0, 0, 0), (10, .iload_n 1, 1, 1, 0, 0, 0), (11, .invokevirtual 185, 3, 13, 1, 1041, 0), (14, .invokevirtual 271, 3, 29, 1, 1104, 0), (17, .goto 5, 3, 22, 0, 0, 0), (20, .bipush (-2), 2, 0, 0, 0, (-2)), (22, .ireturn, 1, 0, 0, 0, 0)]
/-- TypeForms2Model.whole(I)I -/
def kM_45 : List (Nat × ai_I) := [(0, .aload_n 0, 1, 0, 0, 0, 0), (1, .iload_n 1, 1, 1, 0, 0, 0), (2, .invokevirtual 249, 3, 1, 1, 989, 0), (5, .ifCond .ne 6, 3, 11, 0, 0, 0), (8, .bipush (-2), 2, 0, 0, 0, (-2)), (10, .ireturn, 1, 0, 0, 0, 0), (11, .iload_n 1, 1, 1, 0, 0, 0), (12, .istore_n 2, 1, 2, 0, 0, 0), (13, .aload_n 0, 1, 0, 0, 0, 0), (14, .getfield 7, 3, 8, 2, 791, 0), (17, .iload_n 2, 1, 2, 0, 0, 0), (18, .iaload, 1, 0, 0, 0, 0), (19, .iconst 4, 1, 0, 0, 0, 4), (20, .if_icmp .ne 13, 3, 33, 0, 0, 0), (23, .aload_n 0, 1, 0, 0, 0, 0), (24, .getfield 19, 3, 8, 5, 794, 0), (27, .iload_n 2, 1, 2, 0, 0, 0), (28, .iaload, 1, 0, 0, 0, 0), (29, .istore_n 2, 1, 2, 0, 0, 0), (30, .goto (-17), 3, 13, 0, 0, 0), (33, .aload_n 0, 1, 0, 0, 0, 0), (34, .getfield 7, 3, 8, 2, 791, 0), (37, .iload_n 2, 1, 2, 0, 0, 0), (38, .iaload, 1, 0, 0, 0, 0), (39, .iconst 5, 1, 0, 0, 0, 5), (40, .if_icmp .ne 11, 3, 51, 0, 0, 0), (43, .aload_n 0, 1, 0, 0, 0, 0), (44, .iload_n 2, 1, 2, 0, 0, 0), (45, .invokevirtual 188, 3, 12, 1, 1033, 0), (48, .ifCond .eq 19, 3, 67, 0, 0, 0), (51, .aload_n 0, 1, 0, 0, 0, 0), (52, .getfield 7, 3, 8, 2, 791, 0), (55, .iload_n 2, 1, 2, 0, 0, 0), (56, .iaload, 1, 0, 0, 0, 0), (57, .iconst 3, 1, 0, 0, 0, 3), (58, .if_icmp .ne 7, 3, 65, 0, 0, 0), (61, .iconst 0, 1, 0, 0, 0, 0), (62, .goto 4, 3, 66, 0, 0, 0), (65, .iconst 1, 1, 0, 0, 0, 1), (66, .ireturn, 1, 0, 0, 0, 0), (67, .iconst 1, 1, 0, 0, 0, 1), (68, .istore_n 3, 1, 3, 0, 0, 0), (69, .iload_n 2, 1, 2, 0, 0, 0), (70, .ifCond .lt 58, 3, 128, 0, 0, 0), (73, .iconst 0, 1, 0, 0, 0, 0), (74, .istore 4, 2, 4, 0, 0, 0), (76, .iload 4, 2, 4, 0, 0, 0), (78, .aload_n 0, 1, 0, 0, 0, 0), (79, .getfield 25, 3, 8, 7, 796, 0), (82, .iload_n 2, 1, 2, 0, 0, 0), (83, .iaload, 1, 0, 0, 0, 0), (84, .if_icmp .ge 34, 3, 118, 0, 0, 0), (87, .iload_n 3, 1, 3, 0, 0, 0), (88, .ifCond .eq 22, 3, 110, 0, 0, 0), (91, .aload_n 0, 1, 0, 0, 0, 0), (92, .getfield 31, 3, 8, 9, 798, 0), (95, .iconst 3, 1, 0, 0, 0, 3), (96, .iload_n 2, 1, 2, 0, 0, 0), (97, .imul, 1, 0, 0, 0, 0), (98, .iload 4, 2, 4, 0, 0, 0), (100, .iadd, 1, 0, 0, 0, 0), (101, .iaload, 1, 0, 0, 0, 0), (102, .iconst 3, 1, 0, 0, 0, 3), (103, .if_icmp .ne 7, 3, 110, 0, 0, 0), (106, .iconst 1, 1, 0, 0, 0, 1), (107, .goto 4, 3, 111, 0, 0, 0), (110, .iconst 0, 1, 0, 0, 0, 0), (111, .istore_n 3, 1, 3, 0, 0, 0), (112, .iinc 4 1, 3, 4, 0, 0, 1), (115, .goto (-39), 3, 76, 0, 0, 0), (118, .aload_n 0, 1, 0, 0, 0, 0), (119, .getfield 22, 3, 8, 6, 795, 0), (122, .iload_n 2, 1, 2, 0, 0, 0), (123, .iaload, 1, 0, 0, 0, 0), (124, .istore_n 2, 1, 2, 0, 0, 0), (125, .goto (-56), 3, 69, 0, 0, 0), (128, .iload_n 3, 1, 3, 0, 0, 0), (129, .ifCond .eq 7, 3, 136, 0, 0, 0), (132, .iconst 1, 1, 0, 0, 0, 1), (133, .goto 4, 3, 137, 0, 0, 0), (136, .iconst 0, 1, 0, 0, 0, 0), (137, .ireturn, 1, 0, 0, 0, 0)]
/-- TypeForms2Model.above(II)I -/
def kM_46 : List (Nat × ai_I) := [(0, .aload_n 0, 1, 0, 0, 0, 0), (1, .iload_n 1, 1, 1, 0, 0, 0), (2, .invokevirtual 249, 3, 1, 1, 989, 0), (5, .ifCond .eq 21, 3, 26, 0, 0, 0), (8, .aload_n 0, 1, 0, 0, 0, 0), (9, .iload_n 2, 1, 2, 0, 0, 0), (10, .invokevirtual 243, 3, 2, 1, 962, 0), (13, .ifCond .eq 13, 3, 26, 0, 0, 0), (16, .aload_n 0, 1, 0, 0, 0, 0), (17, .getfield 7, 3, 8, 2, 791, 0), (20, .iload_n 1, 1, 1, 0, 0, 0), (21, .iaload, 1, 0, 0, 0, 0), (22, .iconst 5, 1, 0, 0, 0, 5), (23, .if_icmp .eq 6, 3, 29, 0, 0, 0), (26, .bipush (-2), 2, 0, 0, 0, (-2)), (28, .ireturn, 1, 0, 0, 0, 0), (29, .aload_n 0, 1, 0, 0, 0, 0), (30, .iload_n 1, 1, 1, 0, 0, 0), (31, .iload_n 2, 1, 2, 0, 0, 0), (32, .invokevirtual 224, 3, 20, 2, 1088, 0), (35, .istore_n 3, 1, 3, 0, 0, 0), (36, .iload_n 3, 1, 3, 0, 0, 0), (37, .ifCond .ge 12, 3, 49, 0, 0, 0), (40, .aload_n 0, 1, 0, 0, 0, 0), (41, .sipush 256, 3, 0, 0, 0, 256), (44, .putfield 138, 3, 8, 1, 790, 0), (47, .iconst (-1), 1, 0, 0, 0, (-1)), (48, .ireturn, 1, 0, 0, 0, 0), (49, .aload_n 0, 1, 0, 0, 0, 0), (50, .iload_n 3, 1, 3, 0, 0, 0), (51, .invokevirtual 271, 3, 29, 1, 1104, 0), (54, .ireturn, 1, 0, 0, 0, 0)]
/-- TypeForms2Model.member(II)I -/
def kM_47 : List (Nat × ai_I) := [(0, .aload_n 0, 1, 0, 0, 0, 0), (1, .iload_n 1, 1, 1, 0, 0, 0), (2, .invokevirtual 249, 3, 1, 1, 989, 0), (5, .ifCond .eq 21, 3, 26, 0, 0, 0), (8, .aload_n 0, 1, 0, 0, 0, 0), (9, .iload_n 2, 1, 2, 0, 0, 0), (10, .invokevirtual 249, 3, 1, 1, 989, 0), (13, .ifCond .eq 13, 3, 26, 0, 0, 0), (16, .aload_n 0, 1, 0, 0, 0, 0), (17, .getfield 7, 3, 8, 2, 791, 0), (20, .iload_n 2, 1, 2, 0, 0, 0), (21, .iaload, 1, 0, 0, 0, 0), (22, .iconst 5, 1, 0, 0, 0, 5), (23, .if_icmp .eq 6, 3, 29, 0, 0, 0), (26, .bipush (-2), 2, 0, 0, 0, (-2)), (28, .ireturn, 1, 0, 0, 0, 0), (29, .aload_n 0, 1, 0, 0, 0, 0), (30, .aload_n 0, 1, 0, 0, 0, 0), (31, .iload_n 1, 1, 1, 0, 0, 0), (32, .iload_n 2, 1, 2, 0, 0, 0), (33, .invokevirtual 209, 3, 17, 2, 1037, 0), (36, .invokevirtual 271, 3, 29, 1, 1104, 0), (39, .ireturn, 1, 0, 0, 0, 0)]
/-- TypeForms2Model.feed(IJ)I -/
def kM_48 : List (Nat × ai_I) := [(0, .iload_n 1, 1, 1, 0, 0, 0), (1, .iconst 1, 1, 0, 0, 0, 1), (2, .bipush 8, 2, 0, 0, 0, 8), (4, .invokestatic 141, 3, 0, 3, 966, 0), (7, .ifCond .ne 6, 3, 13, 0, 0, 0), (10, .bipush (-3), 2, 0, 0, 0, (-3)), (12, .ireturn, 1, 0, 0, 0, 0), (13, .aload_n 0, 1, 0, 0, 0, 0), (14, .getfield 274, 3, 8, 27, 816, 0), (17, .iload_n 1, 1, 1, 0, 0, 0), (18, .iadd, 1, 0, 0, 0, 0), (19, .bipush 100, 2, 0, 0, 0, 100), (21, .if_icmp .le 6, 3, 27, 0, 0, 0), (24, .bipush (-5), 2, 0, 0, 0, (-5)), (26, .ireturn, 1, 0, 0, 0, 0), (27, .iload_n 1, 1, 1, 0, 0, 0), (28, .iconst 1, 1, 0, 0, 0, 1), (29, .isub, 1, 0, 0, 0, 0), (30, .istore 4, 2, 4, 0, 0, 0), (32, .iload 4, 2, 4, 0, 0, 0), (34, .ifCond .lt 40, 3, 74, 0, 0, 0), (37, .aload_n 0, 1, 0, 0, 0, 0), (38, .getfield 77, 3, 8, 28, 817, 0), (41, .aload_n 0, 1, 0, 0, 0, 0), (42, .getfield 274, 3, 8, 27, 816, 0), (45, .lload_n 2, 1, 2, 0, 0, 0), (46, .bipush 8, 2, 0, 0, 0, 8), (48, .iload 4, 2, 4, 0, 0, 0), (50, .imul, 1, 0, 0, 0, 0), (51, .lshr, 1, 0, 0, 0, 0), (52, .l2i, 1, 0, 0, 0, 0), (53, .sipush 255, 3, 0, 0, 0, 255), (56, .iand, 1, 0, 0, 0, 0), (57, .iastore, 1, 0, 0, 0, 0), (58, .aload_n 0, 1, 0, 0, 0, 0), (59, .dup, 1, 0, 0, 0, 0), (60, .getfield 274, 3, 8, 27, 816, 0), (63, .iconst 1, 1, 0, 0, 0, 1), (64, .iadd, 1, 0, 0, 0, 0), (65, .putfield 274, 3, 8, 27, 816, 0), (68, .iinc 4 (-1), 3, 4, 0, 0, (-1)), (71, .goto (-39), 3, 32, 0, 0, 0), (74, .aload_n 0, 1, 0, 0, 0, 0), (75, .getfield 274, 3, 8, 27, 816, 0), (78, .ireturn, 1, 0, 0, 0, 0)]
/-- TypeForms2Model.byteAt(I)I -/
def kM_49 : List (Nat × ai_I) := [(0, .iload_n 1, 1, 1, 0, 0, 0), (1, .aload_n 0, 1, 0, 0, 0, 0), (2, .getfield 274, 3, 8, 27, 816, 0), (5, .if_icmp .ge 12, 3, 17, 0, 0, 0), (8, .aload_n 0, 1, 0, 0, 0, 0), (9, .getfield 77, 3, 8, 28, 817, 0), (12, .iload_n 1, 1, 1, 0, 0, 0), (13, .iaload, 1, 0, 0, 0, 0), (14, .goto 4, 3, 18, 0, 0, 0), (17, .iconst (-1), 1, 0, 0, 0, (-1)), (18, .ireturn, 1, 0, 0, 0, 0)]
/-- TypeForms2Model.faultAt(I)I -/
def kM_50 : List (Nat × ai_I) := [(0, .aload_n 0, 1, 0, 0, 0, 0), (1, .iload_n 1, 1, 1, 0, 0, 0), (2, .putfield 277, 3, 8, 52, 841, 0), (5, .bipush 6, 2, 0, 0, 0, 6), (7, .ireturn, 1, 0, 0, 0, 0)]
/-- TypeForms2Model.readType()I -/
def kM_51 : List (Nat × ai_I) := [(0, .aload_n 0, 1, 0, 0, 0, 0), (1, .aload_n 0, 1, 0, 0, 0, 0), (2, .getfield 280, 3, 8, 49, 838, 0), (5, .invokevirtual 283, 3, 49, 1, 1160, 0), (8, .istore_n 1, 1, 1, 0, 0, 0), (9, .iload_n 1, 1, 1, 0, 0, 0), (10, .bipush 48, 2, 0, 0, 0, 48), (12, .bipush 57, 2, 0, 0, 0, 57), (14, .invokestatic 141, 3, 0, 3, 966, 0), (17, .ifCond .eq 23, 3, 40, 0, 0, 0), (20, .aload_n 0, 1, 0, 0, 0, 0), (21, .iload_n 1, 1, 1, 0, 0, 0), (22, .bipush 48, 2, 0, 0, 0, 48), (24, .isub, 1, 0, 0, 0, 0), (25, .putfield 286, 3, 8, 51, 840, 0), (28, .aload_n 0, 1, 0, 0, 0, 0), (29, .dup, 1, 0, 0, 0, 0), (30, .getfield 280, 3, 8, 49, 838, 0), (33, .iconst 1, 1, 0, 0, 0, 1), (34, .iadd, 1, 0, 0, 0, 0), (35, .putfield 280, 3, 8, 49, 838, 0), (38, .iconst 5, 1, 0, 0, 0, 5), (39, .ireturn, 1, 0, 0, 0, 0), (40, .iload_n 1, 1, 1, 0, 0, 0), (41, .bipush 97, 2, 0, 0, 0, 97), (43, .bipush 108, 2, 0, 0, 0, 108), (45, .invokestatic 141, 3, 0, 3, 966, 0), (48, .ifCond .eq 86, 3, 134, 0, 0, 0), (51, .aload_n 0, 1, 0, 0, 0, 0), (52, .iload_n 1, 1, 1, 0, 0, 0), (53, .bipush 97, 2, 0, 0, 0, 97), (55, .isub, 1, 0, 0, 0, 0), (56, .invokevirtual 243, 3, 2, 1, 962, 0), (59, .ifCond .eq 75, 3, 134, 0, 0, 0), (62, .aload_n 0, 1, 0, 0, 0, 0), (63, .aload_n 0, 1, 0, 0, 0, 0), (64, .getfield 280, 3, 8, 49, 838, 0), (67, .iconst 1, 1, 0, 0, 0, 1), (68, .iadd, 1, 0, 0, 0, 0), (69, .invokevirtual 283, 3, 49, 1, 1160, 0), (72, .bipush 48, 2, 0, 0, 0, 48), (74, .isub, 1, 0, 0, 0, 0), (75, .istore_n 2, 1, 2, 0, 0, 0), (76, .iload_n 2, 1, 2, 0, 0, 0), (77, .iconst 0, 1, 0, 0, 0, 0), (78, .aload_n 0, 1, 0, 0, 0, 0), (79, .getfield 47, 3, 8, 15, 804, 0), (82, .iload_n 1, 1, 1, 0, 0, 0), (83, .bipush 97, 2, 0, 0, 0, 97), (85, .isub, 1, 0, 0, 0, 0), (86, .iaload, 1, 0, 0, 0, 0), (87, .iconst 1, 1, 0, 0, 0, 1), (88, .isub, 1, 0, 0, 0, 0), (89, .invokestatic 141, 3, 0, 3, 966, 0), (92, .ifCond .ne 14, 3, 106, 0, 0, 0), (95, .aload_n 0, 1, 0, 0, 0, 0), (96, .aload_n 0, 1, 0, 0, 0, 0), (97, .getfield 280, 3, 8, 49, 838, 0), (100, .iconst 1, 1, 0, 0, 0, 1), (101, .iadd, 1, 0, 0, 0, 0), (102, .invokevirtual 289, 3, 50, 1, 1164, 0), (105, .ireturn, 1, 0, 0, 0, 0), (106, .aload_n 0, 1, 0, 0, 0, 0), (107, .aload_n 0, 1, 0, 0, 0, 0), (108, .iconst 3, 1, 0, 0, 0, 3), (109, .iload_n 1, 1, 1, 0, 0, 0), (110, .bipush 97, 2, 0, 0, 0, 97), (112, .isub, 1, 0, 0, 0, 0), (113, .iload_n 2, 1, 2, 0, 0, 0), (114, .iconst (-1), 1, 0, 0, 0, (-1)), (115, .iconst (-1), 1, 0, 0, 0, (-1)), (116, .invokevirtual 156, 3, 5, 5, 977, 0), (119, .putfield 286, 3, 8, 51, 840, 0), (122, .aload_n 0, 1, 0, 0, 0, 0), (123, .dup, 1, 0, 0, 0, 0), (124, .getfield 280, 3, 8, 49, 838, 0), (127, .iconst 2, 1, 0, 0, 0, 2), (128, .iadd, 1, 0, 0, 0, 0), (129, .putfield 280, 3, 8, 49, 838, 0), (132, .iconst 5, 1, 0, 0, 0, 5), (133, .ireturn, 1, 0, 0, 0, 0), (134, .aload_n 0, 1, 0, 0, 0, 0), (135, .iconst (-1), 1, 0, 0, 0, (-1)), (136, .invokevirtual 292, 3, 52, 1, 1168, 0), (139, .ireturn, 1, 0, 0, 0, 0)]
/-- TypeForms2Model.readLetter(I)I -/
def kM_52 : List (Nat × ai_I) := [(0, .aload_n 0, 1, 0, 0, 0, 0), (1, .aload_n 0, 1, 0, 0, 0, 0), (2, .getfield 280, 3, 8, 49, 838, 0), (5, .invokevirtual 283, 3, 49, 1, 1160, 0), (8, .istore_n 2, 1, 2, 0, 0, 0), (9, .iload_n 2, 1, 2, 0, 0, 0), (10, .bipush 65, 2, 0, 0, 0, 65), (12, .bipush 76, 2, 0, 0, 0, 76), (14, .invokestatic 141, 3, 0, 3, 966, 0), (17, .ifCond .eq 14, 3, 31, 0, 0, 0), (20, .aload_n 0, 1, 0, 0, 0, 0), (21, .iload_n 2, 1, 2, 0, 0, 0), (22, .bipush 65, 2, 0, 0, 0, 65), (24, .isub, 1, 0, 0, 0, 0), (25, .invokevirtual 243, 3, 2, 1, 962, 0), (28, .ifCond .ne 12, 3, 40, 0, 0, 0), (31, .aload_n 0, 1, 0, 0, 0, 0), (32, .aload_n 0, 1, 0, 0, 0, 0), (33, .getfield 280, 3, 8, 49, 838, 0), (36, .invokevirtual 289, 3, 50, 1, 1164, 0), (39, .ireturn, 1, 0, 0, 0, 0), (40, .aload_n 0, 1, 0, 0, 0, 0), (41, .getfield 104, 3, 8, 41, 830, 0), (44, .aload_n 0, 1, 0, 0, 0, 0), (45, .getfield 295, 3, 8, 50, 839, 0), (48, .iload_n 2, 1, 2, 0, 0, 0), (49, .bipush 65, 2, 0, 0, 0, 65), (51, .isub, 1, 0, 0, 0, 0), (52, .iastore, 1, 0, 0, 0, 0), (53, .aload_n 0, 1, 0, 0, 0, 0), (54, .getfield 107, 3, 8, 42, 831, 0), (57, .aload_n 0, 1, 0, 0, 0, 0), (58, .getfield 295, 3, 8, 50, 839, 0), (61, .aload_n 0, 1, 0, 0, 0, 0), (62, .getfield 280, 3, 8, 49, 838, 0), (65, .iastore, 1, 0, 0, 0, 0), (66, .aload_n 0, 1, 0, 0, 0, 0), (67, .getfield 110, 3, 8, 43, 832, 0), (70, .aload_n 0, 1, 0, 0, 0, 0), (71, .getfield 295, 3, 8, 50, 839, 0), (74, .iload_n 1, 1, 1, 0, 0, 0), (75, .iastore, 1, 0, 0, 0, 0), (76, .aload_n 0, 1, 0, 0, 0, 0), (77, .getfield 113, 3, 8, 44, 833, 0), (80, .aload_n 0, 1, 0, 0, 0, 0), (81, .getfield 295, 3, 8, 50, 839, 0), (84, .iconst 0, 1, 0, 0, 0, 0), (85, .iastore, 1, 0, 0, 0, 0), (86, .aload_n 0, 1, 0, 0, 0, 0), (87, .dup, 1, 0, 0, 0, 0), (88, .getfield 280, 3, 8, 49, 838, 0), (91, .iconst 1, 1, 0, 0, 0, 1), (92, .iadd, 1, 0, 0, 0, 0), (93, .putfield 280, 3, 8, 49, 838, 0), (96, .iconst 1, 1, 0, 0, 0, 1), (97, .ireturn, 1, 0, 0, 0, 0)]
/-- TypeForms2Model.readPart()I -/
def kM_53 : List (Nat × ai_I) := [(0, .aload_n 0, 1, 0, 0, 0, 0), (1, .aload_n 0, 1, 0, 0, 0, 0), (2, .getfield 280, 3, 8, 49, 838, 0), (5, .invokevirtual 283, 3, 49, 1, 1160, 0), (8, .bipush 60, 2, 0, 0, 0, 60), (10, .if_icmp .eq 5, 3, 15, 0, 0, 0), (13, .iconst 4, 1, 0, 0, 0, 4), (14, .ireturn, 1, 0, 0, 0, 0), (15, .aload_n 0, 1, 0, 0, 0, 0), (16, .dup, 1, 0, 0, 0, 0), (17, .getfield 280, 3, 8, 49, 838, 0), (20, .iconst 1, 1, 0, 0, 0, 1), (21, .iadd, 1, 0, 0, 0, 0), (22, .putfield 280, 3, 8, 49, 838, 0), (25, .iconst 2, 1, 0, 0, 0, 2), (26, .ireturn, 1, 0, 0, 0, 0)]
/-- TypeForms2Model.readArgument()I -/
def kM_54 : List (Nat × ai_I) := [(0, .aload_n 0, 1, 0, 0, 0, 0), (1, .aload_n 0, 1, 0, 0, 0, 0), (2, .getfield 280, 3, 8, 49, 838, 0), (5, .invokevirtual 283, 3, 49, 1, 1160, 0), (8, .istore_n 1, 1, 1, 0, 0, 0), (9, .iload_n 1, 1, 1, 0, 0, 0), (10, .bipush 63, 2, 0, 0, 0, 63), (12, .if_icmp .ne 21, 3, 33, 0, 0, 0), (15, .aload_n 0, 1, 0, 0, 0, 0), (16, .dup, 1, 0, 0, 0, 0), (17, .getfield 280, 3, 8, 49, 838, 0), (20, .iconst 1, 1, 0, 0, 0, 1), (21, .iadd, 1, 0, 0, 0, 0), (22, .putfield 280, 3, 8, 49, 838, 0), (25, .aload_n 0, 1, 0, 0, 0, 0), (26, .iconst 3, 1, 0, 0, 0, 3), (27, .iconst (-1), 1, 0, 0, 0, (-1)), (28, .invokevirtual 298, 3, 55, 2, 1180, 0), (31, .iconst 3, 1, 0, 0, 0, 3), (32, .ireturn, 1, 0, 0, 0, 0), (33, .aload_n 0, 1, 0, 0, 0, 0), (34, .getfield 122, 3, 8, 47, 836, 0), (37, .aload_n 0, 1, 0, 0, 0, 0), (38, .getfield 295, 3, 8, 50, 839, 0), (41, .iload_n 1, 1, 1, 0, 0, 0), (42, .bipush 43, 2, 0, 0, 0, 43), (44, .if_icmp .ne 7, 3, 51, 0, 0, 0), (47, .iconst 1, 1, 0, 0, 0, 1), (48, .goto 14, 3, 62, 0, 0, 0), (51, .iload_n 1, 1, 1, 0, 0, 0), (52, .bipush 45, 2, 0, 0, 0, 45), (54, .if_icmp .ne 7, 3, 61, 0, 0, 0), (57, .iconst 2, 1, 0, 0, 0, 2), (58, .goto 4, 3, 62, 0, 0, 0), (61, .iconst 0, 1, 0, 0, 0, 0), (62, .iastore, 1, 0, 0, 0, 0), (63, .aload_n 0, 1, 0, 0, 0, 0), (64, .dup, 1, 0, 0, 0, 0), (65, .getfield 280, 3, 8, 49, 838, 0), (68, .iload_n 1, 1, 1, 0, 0, 0), (69, .bipush 43, 2, 0, 0, 0, 43), (71, .if_icmp .eq 9, 3, 80, 0, 0, 0), (74, .iload_n 1, 1, 1, 0, 0, 0), (75, .bipush 45, 2, 0, 0, 0, 45), (77, .if_icmp .ne 7, 3, 84, 0, 0, 0), (80, .iconst 1, 1, 0, 0, 0, 1), (81, .goto 4, 3, 85, 0, 0, 0), (84, .iconst 0, 1, 0, 0, 0, 0), (85, .iadd, 1, 0, 0, 0, 0), (86, .putfield 280, 3, 8, 49, 838, 0), (89, .aload_n 0, 1, 0, 0, 0, 0), (90, .getfield 125, 3, 8, 48, 837, 0), (93, .aload_n 0, 1, 0, 0, 0, 0), (94, .getfield 295, 3, 8, 50, 839, 0), (97, .aload_n 0, 1, 0, 0, 0, 0), (98, .getfield 280, 3, 8, 49, 838, 0), (101, .iastore, 1, 0, 0, 0, 0), (102, .aload_n 0, 1, 0, 0, 0, 0), (103, .dup, 1, 0, 0, 0, 0), (104, .getfield 295, 3, 8, 50, 839, 0), (107, .iconst 1, 1, 0, 0, 0, 1), (108, .iadd, 1, 0, 0, 0, 0), (109, .putfield 295, 3, 8, 50, 839, 0), (112, .iconst 0, 1, 0, 0, 0, 0), (113, .ireturn, 1, 0, 0, 0, 0)]
/-- TypeForms2Model.keep(II)V -/
def kM_55 : List (Nat × ai_I) := [(0, .aload_n 0, 1, 0, 0, 0, 0), (1, .getfield 113, 3, 8, 44, 833, 0), (4, .aload_n 0, 1, 0, 0, 0, 0), (5, .getfield 295, 3, 8, 50, 839, 0), (8, .iaload, 1, 0, 0, 0, 0), (9, .iconst 3, 1, 0, 0, 0, 3), (10, .if_icmp .ge 47, 3, 57, 0, 0, 0), (13, .aload_n 0, 1, 0, 0, 0, 0), (14, .getfield 116, 3, 8, 45, 834, 0), (17, .iconst 3, 1, 0, 0, 0, 3), (18, .aload_n 0, 1, 0, 0, 0, 0), (19, .getfield 295, 3, 8, 50, 839, 0), (22, .imul, 1, 0, 0, 0, 0), (23, .aload_n 0, 1, 0, 0, 0, 0), (24, .getfield 113, 3, 8, 44, 833, 0), (27, .aload_n 0, 1, 0, 0, 0, 0), (28, .getfield 295, 3, 8, 50, 839, 0), (31, .iaload, 1, 0, 0, 0, 0), (32, .iadd, 1, 0, 0, 0, 0), (33, .iload_n 1, 1, 1, 0, 0, 0), (34, .iastore, 1, 0, 0, 0, 0), (35, .aload_n 0, 1, 0, 0, 0, 0), (36, .getfield 119, 3, 8, 46, 835, 0), (39, .iconst 3, 1, 0, 0, 0, 3), (40, .aload_n 0, 1, 0, 0, 0, 0), (41, .getfield 295, 3, 8, 50, 839, 0), (44, .imul, 1, 0, 0, 0, 0), (45, .aload_n 0, 1, 0, 0, 0, 0), (46, .getfield 113, 3, 8, 44, 833, 0), (49, .aload_n 0, 1, 0, 0, 0, 0), (50, .getfield 295, 3, 8, 50, 839, 0), (53, .iaload, 1, 0, 0, 0, 0), (54, .iadd, 1, 0, 0, 0, 0), (55, .iload_n 2, 1, 2, 0, 0, 0), (56, .iastore, 1, 0, 0, 0, 0), (57, .aload_n 0, 1, 0, 0, 0, 0), (58, .getfield 113, 3, 8, 44, 833, 0), (61, .aload_n 0, 1, 0, 0, 0, 0), (62, .getfield 295, 3, 8, 50, 839, 0), (65, .dup2, 1, 0, 0, 0, 0), (66, .iaload, 1, 0, 0, 0, 0), (67, .iconst 1, 1, 0, 0, 0, 1), (68, .iadd, 1, 0, 0, 0, 0), (69, .iastore, 1, 0, 0, 0, 0), (70, .return_, 1, 0, 0, 0, 0)]
/-- TypeForms2Model.readBehind()I -/
def kM_56 : List (Nat × ai_I) := [(0, .aload_n 0, 1, 0, 0, 0, 0), (1, .aload_n 0, 1, 0, 0, 0, 0), (2, .getfield 280, 3, 8, 49, 838, 0), (5, .invokevirtual 283, 3, 49, 1, 1160, 0), (8, .istore_n 1, 1, 1, 0, 0, 0), (9, .iload_n 1, 1, 1, 0, 0, 0), (10, .bipush 62, 2, 0, 0, 0, 62), (12, .if_icmp .eq 31, 3, 43, 0, 0, 0), (15, .iload_n 1, 1, 1, 0, 0, 0), (16, .bipush 44, 2, 0, 0, 0, 44), (18, .if_icmp .ne 16, 3, 34, 0, 0, 0), (21, .aload_n 0, 1, 0, 0, 0, 0), (22, .getfield 113, 3, 8, 44, 833, 0), (25, .aload_n 0, 1, 0, 0, 0, 0), (26, .getfield 295, 3, 8, 50, 839, 0), (29, .iaload, 1, 0, 0, 0, 0), (30, .iconst 3, 1, 0, 0, 0, 3), (31, .if_icmp .ne 12, 3, 43, 0, 0, 0), (34, .aload_n 0, 1, 0, 0, 0, 0), (35, .aload_n 0, 1, 0, 0, 0, 0), (36, .getfield 280, 3, 8, 49, 838, 0), (39, .invokevirtual 289, 3, 50, 1, 1164, 0), (42, .ireturn, 1, 0, 0, 0, 0), (43, .aload_n 0, 1, 0, 0, 0, 0), (44, .dup, 1, 0, 0, 0, 0), (45, .getfield 280, 3, 8, 49, 838, 0), (48, .iconst 1, 1, 0, 0, 0, 1), (49, .iadd, 1, 0, 0, 0, 0), (50, .putfield 280, 3, 8, 49, 838, 0), (53, .iload_n 1, 1, 1, 0, 0, 0), (54, .bipush 44, 2, 0, 0, 0, 44), (56, .if_icmp .ne 7, 3, 63, 0, 0, 0), (59, .iconst 2, 1, 0, 0, 0, 2), (60, .goto 4, 3, 64, 0, 0, 0), (63, .iconst 4, 1, 0, 0, 0, 4), (64, .ireturn, 1, 0, 0, 0, 0)]
/-- TypeForms2Model.readClosed()I -/
def kM_57 : List (Nat × ai_I) := [(0, .aload_n 0, 1, 0, 0, 0, 0), (1, .aload_n 0, 1, 0, 0, 0, 0), (2, .getfield 104, 3, 8, 41, 830, 0), (5, .aload_n 0, 1, 0, 0, 0, 0), (6, .getfield 295, 3, 8, 50, 839, 0), (9, .iaload, 1, 0, 0, 0, 0), (10, .aload_n 0, 1, 0, 0, 0, 0), (11, .getfield 110, 3, 8, 43, 832, 0), (14, .aload_n 0, 1, 0, 0, 0, 0), (15, .getfield 295, 3, 8, 50, 839, 0), (18, .iaload, 1, 0, 0, 0, 0), (19, .aload_n 0, 1, 0, 0, 0, 0), (20, .getfield 113, 3, 8, 44, 833, 0), (23, .aload_n 0, 1, 0, 0, 0, 0), (24, .getfield 295, 3, 8, 50, 839, 0), (27, .iaload, 1, 0, 0, 0, 0), (28, .aload_n 0, 1, 0, 0, 0, 0), (29, .getfield 116, 3, 8, 45, 834, 0), (32, .aload_n 0, 1, 0, 0, 0, 0), (33, .getfield 119, 3, 8, 46, 835, 0), (36, .iconst 3, 1, 0, 0, 0, 3), (37, .aload_n 0, 1, 0, 0, 0, 0), (38, .getfield 295, 3, 8, 50, 839, 0), (41, .imul, 1, 0, 0, 0, 0), (42, .invokevirtual 267, 3, 39, 6, 1029, 0), (45, .ifCond .eq 17, 3, 62, 0, 0, 0), (48, .aload_n 0, 1, 0, 0, 0, 0), (49, .aload_n 0, 1, 0, 0, 0, 0), (50, .getfield 107, 3, 8, 42, 831, 0), (53, .aload_n 0, 1, 0, 0, 0, 0), (54, .getfield 295, 3, 8, 50, 839, 0), (57, .iaload, 1, 0, 0, 0, 0), (58, .invokevirtual 289, 3, 50, 1, 1164, 0), (61, .ireturn, 1, 0, 0, 0, 0), (62, .aload_n 0, 1, 0, 0, 0, 0), (63, .aload_n 0, 1, 0, 0, 0, 0), (64, .getfield 264, 3, 8, 40, 829, 0), (67, .putfield 286, 3, 8, 51, 840, 0), (70, .aload_n 0, 1, 0, 0, 0, 0), (71, .aload_n 0, 1, 0, 0, 0, 0), (72, .getfield 280, 3, 8, 49, 838, 0), (75, .invokevirtual 283, 3, 49, 1, 1160, 0), (78, .bipush 46, 2, 0, 0, 0, 46), (80, .if_icmp .ne 22, 3, 102, 0, 0, 0), (83, .aload_n 0, 1, 0, 0, 0, 0), (84, .dup, 1, 0, 0, 0, 0), (85, .getfield 280, 3, 8, 49, 838, 0), (88, .iconst 1, 1, 0, 0, 0, 1), (89, .iadd, 1, 0, 0, 0, 0), (90, .putfield 280, 3, 8, 49, 838, 0), (93, .aload_n 0, 1, 0, 0, 0, 0), (94, .aload_n 0, 1, 0, 0, 0, 0), (95, .getfield 286, 3, 8, 51, 840, 0), (98, .invokevirtual 292, 3, 52, 1, 1168, 0), (101, .ireturn, 1, 0, 0, 0, 0), (102, .iconst 5, 1, 0, 0, 0, 5), (103, .ireturn, 1, 0, 0, 0, 0)]
/-- TypeForms2Model.readSuffix()I -/
def kM_58 : List (Nat × ai_I) := [(0, .aload_n 0, 1, 0, 0, 0, 0), (1, .aload_n 0, 1, 0, 0, 0, 0), (2, .getfield 280, 3, 8, 49, 838, 0), (5, .invokevirtual 283, 3, 49, 1, 1160, 0), (8, .bipush 91, 2, 0, 0, 0, 91), (10, .if_icmp .ne 87, 3, 97, 0, 0, 0), (13, .aload_n 0, 1, 0, 0, 0, 0), (14, .getfield 286, 3, 8, 51, 840, 0), (17, .bipush 8, 2, 0, 0, 0, 8), (19, .if_icmp .eq 12, 3, 31, 0, 0, 0), (22, .aload_n 0, 1, 0, 0, 0, 0), (23, .getfield 286, 3, 8, 51, 840, 0), (26, .bipush 9, 2, 0, 0, 0, 9), (28, .if_icmp .ne 12, 3, 40, 0, 0, 0), (31, .aload_n 0, 1, 0, 0, 0, 0), (32, .aload_n 0, 1, 0, 0, 0, 0), (33, .getfield 280, 3, 8, 49, 838, 0), (36, .invokevirtual 289, 3, 50, 1, 1164, 0), (39, .ireturn, 1, 0, 0, 0, 0), (40, .aload_n 0, 1, 0, 0, 0, 0), (41, .dup, 1, 0, 0, 0, 0), (42, .getfield 280, 3, 8, 49, 838, 0), (45, .iconst 1, 1, 0, 0, 0, 1), (46, .iadd, 1, 0, 0, 0, 0), (47, .putfield 280, 3, 8, 49, 838, 0), (50, .aload_n 0, 1, 0, 0, 0, 0), (51, .aload_n 0, 1, 0, 0, 0, 0), (52, .getfield 280, 3, 8, 49, 838, 0), (55, .invokevirtual 283, 3, 49, 1, 1160, 0), (58, .bipush 93, 2, 0, 0, 0, 93), (60, .if_icmp .eq 12, 3, 72, 0, 0, 0), (63, .aload_n 0, 1, 0, 0, 0, 0), (64, .aload_n 0, 1, 0, 0, 0, 0), (65, .getfield 280, 3, 8, 49, 838, 0), (68, .invokevirtual 289, 3, 50, 1, 1164, 0), (71, .ireturn, 1, 0, 0, 0, 0), (72, .aload_n 0, 1, 0, 0, 0, 0), (73, .dup, 1, 0, 0, 0, 0), (74, .getfield 280, 3, 8, 49, 838, 0), (77, .iconst 1, 1, 0, 0, 0, 1), (78, .iadd, 1, 0, 0, 0, 0), (79, .putfield 280, 3, 8, 49, 838, 0), (82, .aload_n 0, 1, 0, 0, 0, 0), (83, .aload_n 0, 1, 0, 0, 0, 0), (84, .aload_n 0, 1, 0, 0, 0, 0), (85, .getfield 286, 3, 8, 51, 840, 0), (88, .invokevirtual 172, 3, 6, 1, 1049, 0), (91, .putfield 286, 3, 8, 51, 840, 0), (94, .goto (-94), 3, 0, 0, 0, 0), (97, .aload_n 0, 1, 0, 0, 0, 0), (98, .getfield 295, 3, 8, 50, 839, 0), (101, .ifCond .ne 28, 3, 129, 0, 0, 0), (104, .aload_n 0, 1, 0, 0, 0, 0), (105, .getfield 280, 3, 8, 49, 838, 0), (108, .aload_n 0, 1, 0, 0, 0, 0), (109, .getfield 274, 3, 8, 27, 816, 0), (112, .if_icmp .ge 14, 3, 126, 0, 0, 0), (115, .aload_n 0, 1, 0, 0, 0, 0), (116, .aload_n 0, 1, 0, 0, 0, 0), (117, .getfield 280, 3, 8, 49, 838, 0), (120, .invokevirtual 289, 3, 50, 1, 1164, 0), (123, .goto 5, 3, 128, 0, 0, 0), (126, .bipush 6, 2, 0, 0, 0, 6), (128, .ireturn, 1, 0, 0, 0, 0), (129, .aload_n 0, 1, 0, 0, 0, 0), (130, .dup, 1, 0, 0, 0, 0), (131, .getfield 295, 3, 8, 50, 839, 0), (134, .iconst 1, 1, 0, 0, 0, 1), (135, .isub, 1, 0, 0, 0, 0), (136, .putfield 295, 3, 8, 50, 839, 0), (139, .aload_n 0, 1, 0, 0, 0, 0), (140, .aload_n 0, 1, 0, 0, 0, 0), (141, .getfield 286, 3, 8, 51, 840, 0), (144, .invokevirtual 212, 3, 21, 1, 1021, 0), (147, .ifCond .eq 17, 3, 164, 0, 0, 0), (150, .aload_n 0, 1, 0, 0, 0, 0), (151, .aload_n 0, 1, 0, 0, 0, 0), (152, .getfield 125, 3, 8, 48, 837, 0), (155, .aload_n 0, 1, 0, 0, 0, 0), (156, .getfield 295, 3, 8, 50, 839, 0), (159, .iaload, 1, 0, 0, 0, 0), (160, .invokevirtual 289, 3, 50, 1, 1164, 0), (163, .ireturn, 1, 0, 0, 0, 0), (164, .aload_n 0, 1, 0, 0, 0, 0), (165, .aload_n 0, 1, 0, 0, 0, 0), (166, .getfield 122, 3, 8, 47, 836, 0), (169, .aload_n 0, 1, 0, 0, 0, 0), (170, .getfield 295, 3, 8, 50, 839, 0), (173, .iaload, 1, 0, 0, 0, 0), (174, .aload_n 0, 1, 0, 0, 0, 0), (175, .getfield 286, 3, 8, 51, 840, 0), (178, .invokevirtual 298, 3, 55, 2, 1180, 0), (181, .iconst 3, 1, 0, 0, 0, 3), (182, .ireturn, 1, 0, 0, 0, 0)]
/-- TypeForms2Model.read()I -/
def kM_59 : List (Nat × ai_I) := [(0, .aload_n 0, 1, 0, 0, 0, 0), (1, .iconst 0, 1, 0, 0, 0, 0), (2, .putfield 280, 3, 8, 49, 838, 0), (5, .aload_n 0, 1, 0, 0, 0, 0), (6, .iconst 0, 1, 0, 0, 0, 0), (7, .putfield 295, 3, 8, 50, 839, 0), (10, .aload_n 0, 1, 0, 0, 0, 0), (11, .iconst (-1), 1, 0, 0, 0, (-1)), (12, .putfield 277, 3, 8, 52, 841, 0), (15, .iconst 0, 1, 0, 0, 0, 0), (16, .istore_n 1, 1, 1, 0, 0, 0), (17, .iload_n 1, 1, 1, 0, 0, 0), (18, .bipush 6, 2, 0, 0, 0, 6), (20, .if_icmp .eq 70, 3, 90, 0, 0, 0), (23, .iload_n 1, 1, 1, 0, 0, 0), (24, .ifCond .ne 10, 3, 34, 0, 0, 0), (27, .aload_n 0, 1, 0, 0, 0, 0), (28, .invokevirtual 301, 3, 51, 0, 1156, 0), (31, .goto 55, 3, 86, 0, 0, 0), (34, .iload_n 1, 1, 1, 0, 0, 0), (35, .iconst 1, 1, 0, 0, 0, 1), (36, .if_icmp .ne 10, 3, 46, 0, 0, 0), (39, .aload_n 0, 1, 0, 0, 0, 0), (40, .invokevirtual 305, 3, 53, 0, 1172, 0), (43, .goto 43, 3, 86, 0, 0, 0), (46, .iload_n 1, 1, 1, 0, 0, 0), (47, .iconst 2, 1, 0, 0, 0, 2), (48, .if_icmp .ne 10, 3, 58, 0, 0, 0), (51, .aload_n 0, 1, 0, 0, 0, 0), (52, .invokevirtual 308, 3, 54, 0, 1176, 0), (55, .goto 31, 3, 86, 0, 0, 0), (58, .iload_n 1, 1, 1, 0, 0, 0), (59, .iconst 3, 1, 0, 0, 0, 3), (60, .if_icmp .ne 10, 3, 70, 0, 0, 0), (63, .aload_n 0, 1, 0, 0, 0, 0), (64, .invokevirtual 311, 3, 56, 0, 1184, 0), (67, .goto 19, 3, 86, 0, 0, 0), (70, .iload_n 1, 1, 1, 0, 0, 0), (71, .iconst 4, 1, 0, 0, 0, 4), (72, .if_icmp .ne 10, 3, 82, 0, 0, 0), (75, .aload_n 0, 1, 0, 0, 0, 0), (76, .invokevirtual 314, 3, 57, 0, 1188, 0), (79, .goto 7, 3, 86, 0, 0, 0), (82, .aload_n 0, 1, 0, 0, 0, 0), (83, .invokevirtual 317, 3, 58, 0, 1192, 0), (86, .istore_n 1, 1, 1, 0, 0, 0), (87, .goto (-70), 3, 17, 0, 0, 0), (90, .aload_n 0, 1, 0, 0, 0, 0), (91, .iconst 0, 1, 0, 0, 0, 0), (92, .putfield 274, 3, 8, 27, 816, 0), (95, .aload_n 0, 1, 0, 0, 0, 0), (96, .getfield 277, 3, 8, 52, 841, 0), (99, .ifCond .lt 18, 3, 117, 0, 0, 0), (102, .aload_n 0, 1, 0, 0, 0, 0), (103, .sipush 256, 3, 0, 0, 0, 256), (106, .putfield 138, 3, 8, 1, 790, 0), (109, .bipush (-10), 2, 0, 0, 0, (-10)), (111, .aload_n 0, 1, 0, 0, 0, 0), (112, .getfield 277, 3, 8, 52, 841, 0), (115, .isub, 1, 0, 0, 0, 0), (116, .ireturn, 1, 0, 0, 0, 0), (117, .aload_n 0, 1, 0, 0, 0, 0), (118, .aload_n 0, 1, 0, 0, 0, 0), (119, .getfield 286, 3, 8, 51, 840, 0), (122, .invokevirtual 271, 3, 29, 1, 1104, 0), (125, .ireturn, 1, 0, 0, 0, 0)]
/-- TypeForms2Model.push(I)V -/
def kM_60 : List (Nat × ai_I) := [(0, .aload_n 0, 1, 0, 0, 0, 0), (1, .getfield 98, 3, 8, 38, 827, 0), (4, .aload_n 0, 1, 0, 0, 0, 0), (5, .getfield 320, 3, 8, 55, 844, 0), (8, .iload_n 1, 1, 1, 0, 0, 0), (9, .iastore, 1, 0, 0, 0, 0), (10, .aload_n 0, 1, 0, 0, 0, 0), (11, .dup, 1, 0, 0, 0, 0), (12, .getfield 320, 3, 8, 55, 844, 0), (15, .iconst 1, 1, 0, 0, 0, 1), (16, .iadd, 1, 0, 0, 0, 0), (17, .putfield 320, 3, 8, 55, 844, 0), (20, .return_, 1, 0, 0, 0, 0)]
/-- TypeForms2Model.pushParts(I)V -/
def kM_61 : List (Nat × ai_I) := [(0, .aload_n 0, 1, 0, 0, 0, 0), (1, .getfield 7, 3, 8, 2, 791, 0), (4, .iload_n 1, 1, 1, 0, 0, 0), (5, .iaload, 1, 0, 0, 0, 0), (6, .iconst 3, 1, 0, 0, 0, 3), (7, .if_icmp .ge 14, 3, 21, 0, 0, 0), (10, .aload_n 0, 1, 0, 0, 0, 0), (11, .bipush (-49), 2, 0, 0, 0, (-49)), (13, .iload_n 1, 1, 1, 0, 0, 0), (14, .isub, 1, 0, 0, 0, 0), (15, .invokevirtual 323, 3, 60, 1, 1200, 0), (18, .goto 224, 3, 242, 0, 0, 0), (21, .aload_n 0, 1, 0, 0, 0, 0), (22, .getfield 7, 3, 8, 2, 791, 0), (25, .iload_n 1, 1, 1, 0, 0, 0), (26, .iaload, 1, 0, 0, 0, 0), (27, .iconst 3, 1, 0, 0, 0, 3), (28, .if_icmp .ne 32, 3, 60, 0, 0, 0), (31, .aload_n 0, 1, 0, 0, 0, 0), (32, .bipush (-49), 2, 0, 0, 0, (-49)), (34, .aload_n 0, 1, 0, 0, 0, 0), (35, .getfield 16, 3, 8, 4, 793, 0), (38, .iload_n 1, 1, 1, 0, 0, 0), (39, .iaload, 1, 0, 0, 0, 0), (40, .isub, 1, 0, 0, 0, 0), (41, .invokevirtual 323, 3, 60, 1, 1200, 0), (44, .aload_n 0, 1, 0, 0, 0, 0), (45, .bipush (-98), 2, 0, 0, 0, (-98)), (47, .aload_n 0, 1, 0, 0, 0, 0), (48, .getfield 13, 3, 8, 3, 792, 0), (51, .iload_n 1, 1, 1, 0, 0, 0), (52, .iaload, 1, 0, 0, 0, 0), (53, .isub, 1, 0, 0, 0, 0), (54, .invokevirtual 323, 3, 60, 1, 1200, 0), (57, .goto 185, 3, 242, 0, 0, 0), (60, .aload_n 0, 1, 0, 0, 0, 0), (61, .getfield 7, 3, 8, 2, 791, 0), (64, .iload_n 1, 1, 1, 0, 0, 0), (65, .iaload, 1, 0, 0, 0, 0), (66, .iconst 4, 1, 0, 0, 0, 4), (67, .if_icmp .ne 28, 3, 95, 0, 0, 0), (70, .aload_n 0, 1, 0, 0, 0, 0), (71, .bipush (-94), 2, 0, 0, 0, (-94)), (73, .invokevirtual 323, 3, 60, 1, 1200, 0), (76, .aload_n 0, 1, 0, 0, 0, 0), (77, .bipush (-92), 2, 0, 0, 0, (-92)), (79, .invokevirtual 323, 3, 60, 1, 1200, 0), (82, .aload_n 0, 1, 0, 0, 0, 0), (83, .aload_n 0, 1, 0, 0, 0, 0), (84, .getfield 19, 3, 8, 5, 794, 0), (87, .iload_n 1, 1, 1, 0, 0, 0), (88, .iaload, 1, 0, 0, 0, 0), (89, .invokevirtual 323, 3, 60, 1, 1200, 0), (92, .goto 150, 3, 242, 0, 0, 0), (95, .aload_n 0, 1, 0, 0, 0, 0), (96, .getfield 25, 3, 8, 7, 796, 0), (99, .iload_n 1, 1, 1, 0, 0, 0), (100, .iaload, 1, 0, 0, 0, 0), (101, .ifCond .le 9, 3, 110, 0, 0, 0), (104, .aload_n 0, 1, 0, 0, 0, 0), (105, .bipush (-63), 2, 0, 0, 0, (-63)), (107, .invokevirtual 323, 3, 60, 1, 1200, 0), (110, .aload_n 0, 1, 0, 0, 0, 0), (111, .getfield 25, 3, 8, 7, 796, 0), (114, .iload_n 1, 1, 1, 0, 0, 0), (115, .iaload, 1, 0, 0, 0, 0), (116, .iconst 1, 1, 0, 0, 0, 1), (117, .isub, 1, 0, 0, 0, 0), (118, .istore_n 2, 1, 2, 0, 0, 0), (119, .iload_n 2, 1, 2, 0, 0, 0), (120, .ifCond .lt 84, 3, 204, 0, 0, 0), (123, .aload_n 0, 1, 0, 0, 0, 0), (124, .getfield 31, 3, 8, 9, 798, 0), (127, .iconst 3, 1, 0, 0, 0, 3), (128, .iload_n 1, 1, 1, 0, 0, 0), (129, .imul, 1, 0, 0, 0, 0), (130, .iload_n 2, 1, 2, 0, 0, 0), (131, .iadd, 1, 0, 0, 0, 0), (132, .iaload, 1, 0, 0, 0, 0), (133, .istore_n 3, 1, 3, 0, 0, 0), (134, .iload_n 3, 1, 3, 0, 0, 0), (135, .iconst 3, 1, 0, 0, 0, 3), (136, .if_icmp .eq 17, 3, 153, 0, 0, 0), (139, .aload_n 0, 1, 0, 0, 0, 0), (140, .aload_n 0, 1, 0, 0, 0, 0), (141, .getfield 34, 3, 8, 10, 799, 0), (144, .iconst 3, 1, 0, 0, 0, 3), (145, .iload_n 1, 1, 1, 0, 0, 0), (146, .imul, 1, 0, 0, 0, 0), (147, .iload_n 2, 1, 2, 0, 0, 0), (148, .iadd, 1, 0, 0, 0, 0), (149, .iaload, 1, 0, 0, 0, 0), (150, .invokevirtual 323, 3, 60, 1, 1200, 0), (153, .iload_n 3, 1, 3, 0, 0, 0), (154, .ifCond .eq 29, 3, 183, 0, 0, 0), (157, .aload_n 0, 1, 0, 0, 0, 0), (158, .iload_n 3, 1, 3, 0, 0, 0), (159, .iconst 1, 1, 0, 0, 0, 1), (160, .if_icmp .ne 8, 3, 168, 0, 0, 0), (163, .bipush (-44), 2, 0, 0, 0, (-44)), (165, .goto 15, 3, 180, 0, 0, 0), (168, .iload_n 3, 1, 3, 0, 0, 0), (169, .iconst 2, 1, 0, 0, 0, 2), (170, .if_icmp .ne 8, 3, 178, 0, 0, 0), (173, .bipush (-46), 2, 0, 0, 0, (-46)), (175, .goto 5, 3, 180, 0, 0, 0), (178, .bipush (-64), 2, 0, 0, 0, (-64)), (180, .invokevirtual 323, 3, 60, 1, 1200, 0), (183, .aload_n 0, 1, 0, 0, 0, 0), (184, .iload_n 2, 1, 2, 0, 0, 0), (185, .ifCond .le 8, 3, 193, 0, 0, 0), (188, .bipush (-45), 2, 0, 0, 0, (-45)), (190, .goto 5, 3, 195, 0, 0, 0), (193, .bipush (-61), 2, 0, 0, 0, (-61)), (195, .invokevirtual 323, 3, 60, 1, 1200, 0), (198, .iinc 2 (-1), 3, 2, 0, 0, (-1)), (201, .goto (-82), 3, 119, 0, 0, 0), (204, .aload_n 0, 1, 0, 0, 0, 0), (205, .bipush (-66), 2, 0, 0, 0, (-66)), (207, .aload_n 0, 1, 0, 0, 0, 0), (208, .getfield 13, 3, 8, 3, 792, 0), (211, .iload_n 1, 1, 1, 0, 0, 0), (212, .iaload, 1, 0, 0, 0, 0), (213, .isub, 1, 0, 0, 0, 0), (214, .invokevirtual 323, 3, 60, 1, 1200, 0), (217, .aload_n 0, 1, 0, 0, 0, 0), (218, .getfield 22, 3, 8, 6, 795, 0), (221, .iload_n 1, 1, 1, 0, 0, 0), (222, .iaload, 1, 0, 0, 0, 0), (223, .ifCond .lt 19, 3, 242, 0, 0, 0), (226, .aload_n 0, 1, 0, 0, 0, 0), (227, .bipush (-47), 2, 0, 0, 0, (-47)), (229, .invokevirtual 323, 3, 60, 1, 1200, 0), (232, .aload_n 0, 1, 0, 0, 0, 0), (233, .aload_n 0, 1, 0, 0, 0, 0), (234, .getfield 22, 3, 8, 6, 795, 0), (237, .iload_n 1, 1, 1, 0, 0, 0), (238, .iaload, 1, 0, 0, 0, 0), (239, .invokevirtual 323, 3, 60, 1, 1200, 0), (242, .return_, 1, 0, 0, 0, 0)]
/-- TypeForms2Model.print(I)I -/
def kM_62 : List (Nat × ai_I) := [(0, .aload_n 0, 1, 0, 0, 0, 0), (1, .iload_n 1, 1, 1, 0, 0, 0), (2, .invokevirtual 249, 3, 1, 1, 989, 0), (5, .ifCond .ne 6, 3, 11, 0, 0, 0), (8, .bipush (-2), 2, 0, 0, 0, (-2)), (10, .ireturn, 1, 0, 0, 0, 0), (11, .aload_n 0, 1, 0, 0, 0, 0), (12, .iconst 0, 1, 0, 0, 0, 0), (13, .putfield 320, 3, 8, 55, 844, 0), (16, .aload_n 0, 1, 0, 0, 0, 0), (17, .iconst 0, 1, 0, 0, 0, 0), (18, .putfield 326, 3, 8, 54, 843, 0), (21, .aload_n 0, 1, 0, 0, 0, 0), (22, .iload_n 1, 1, 1, 0, 0, 0), (23, .invokevirtual 323, 3, 60, 1, 1200, 0), (26, .aload_n 0, 1, 0, 0, 0, 0), (27, .getfield 320, 3, 8, 55, 844, 0), (30, .ifCond .le 70, 3, 100, 0, 0, 0), (33, .aload_n 0, 1, 0, 0, 0, 0), (34, .getfield 326, 3, 8, 54, 843, 0), (37, .sipush 200, 3, 0, 0, 0, 200), (40, .if_icmp .gt 60, 3, 100, 0, 0, 0), (43, .aload_n 0, 1, 0, 0, 0, 0), (44, .dup, 1, 0, 0, 0, 0), (45, .getfield 320, 3, 8, 55, 844, 0), (48, .iconst 1, 1, 0, 0, 0, 1), (49, .isub, 1, 0, 0, 0, 0), (50, .putfield 320, 3, 8, 55, 844, 0), (53, .aload_n 0, 1, 0, 0, 0, 0), (54, .getfield 98, 3, 8, 38, 827, 0), (57, .aload_n 0, 1, 0, 0, 0, 0), (58, .getfield 320, 3, 8, 55, 844, 0), (61, .iaload, 1, 0, 0, 0, 0), (62, .istore_n 2, 1, 2, 0, 0, 0), (63, .iload_n 2, 1, 2, 0, 0, 0), (64, .ifCond .ge 28, 3, 92, 0, 0, 0), (67, .aload_n 0, 1, 0, 0, 0, 0), (68, .getfield 128, 3, 8, 53, 842, 0), (71, .aload_n 0, 1, 0, 0, 0, 0), (72, .getfield 326, 3, 8, 54, 843, 0), (75, .iconst (-1), 1, 0, 0, 0, (-1)), (76, .iload_n 2, 1, 2, 0, 0, 0), (77, .isub, 1, 0, 0, 0, 0), (78, .iastore, 1, 0, 0, 0, 0), (79, .aload_n 0, 1, 0, 0, 0, 0), (80, .dup, 1, 0, 0, 0, 0), (81, .getfield 326, 3, 8, 54, 843, 0), (84, .iconst 1, 1, 0, 0, 0, 1), (85, .iadd, 1, 0, 0, 0, 0), (86, .putfield 326, 3, 8, 54, 843, 0), (89, .goto 8, 3, 97, 0, 0, 0), (92, .aload_n 0, 1, 0, 0, 0, 0), (93, .iload_n 2, 1, 2, 0, 0, 0), (94, .invokevirtual 329, 3, 61, 1, 1204, 0), (97, .goto (-71), 3, 26, 0, 0, 0), (100, .aload_n 0, 1, 0, 0, 0, 0), (101, .getfield 326, 3, 8, 54, 843, 0), (104, .sipush 200, 3, 0, 0, 0, 200), (107, .if_icmp .le 6, 3, 113, 0, 0, 0), (110, .bipush (-5), 2, 0, 0, 0, (-5)), (112, .ireturn, 1, 0, 0, 0, 0), (113, .iconst 0, 1, 0, 0, 0, 0), (114, .istore_n 2, 1, 2, 0, 0, 0), (115, .iload_n 2, 1, 2, 0, 0, 0), (116, .aload_n 0, 1, 0, 0, 0, 0), (117, .getfield 326, 3, 8, 54, 843, 0), (120, .if_icmp .ge 21, 3, 141, 0, 0, 0), (123, .aload_n 0, 1, 0, 0, 0, 0), (124, .getfield 80, 3, 8, 30, 819, 0), (127, .iload_n 2, 1, 2, 0, 0, 0), (128, .aload_n 0, 1, 0, 0, 0, 0), (129, .getfield 128, 3, 8, 53, 842, 0), (132, .iload_n 2, 1, 2, 0, 0, 0), (133, .iaload, 1, 0, 0, 0, 0), (134, .iastore, 1, 0, 0, 0, 0), (135, .iinc 2 1, 3, 2, 0, 0, 1), (138, .goto (-23), 3, 115, 0, 0, 0), (141, .aload_n 0, 1, 0, 0, 0, 0), (142, .aload_n 0, 1, 0, 0, 0, 0), (143, .getfield 326, 3, 8, 54, 843, 0), (146, .putfield 332, 3, 8, 29, 818, 0), (149, .aload_n 0, 1, 0, 0, 0, 0), (150, .getfield 332, 3, 8, 29, 818, 0), (153, .ireturn, 1, 0, 0, 0, 0)]
/-- TypeForms2Model.out(I)I -/
def kM_63 : List (Nat × ai_I) := [(0, .iload_n 1, 1, 1, 0, 0, 0), (1, .iconst 0, 1, 0, 0, 0, 0), (2, .aload_n 0, 1, 0, 0, 0, 0), (3, .getfield 332, 3, 8, 29, 818, 0), (6, .iconst 1, 1, 0, 0, 0, 1), (7, .isub, 1, 0, 0, 0, 0), (8, .invokestatic 141, 3, 0, 3, 966, 0), (11, .ifCond .eq 12, 3, 23, 0, 0, 0), (14, .aload_n 0, 1, 0, 0, 0, 0), (15, .getfield 80, 3, 8, 30, 819, 0), (18, .iload_n 1, 1, 1, 0, 0, 0), (19, .iaload, 1, 0, 0, 0, 0), (20, .goto 4, 3, 24, 0, 0, 0), (23, .iconst (-1), 1, 0, 0, 0, (-1)), (24, .ireturn, 1, 0, 0, 0, 0)]
/-- TypeForms2Model.count(I)I -/
def kM_64 : List (Nat × ai_I) := [(0, .iload_n 1, 1, 1, 0, 0, 0), (1, .bipush 20, 2, 0, 0, 0, 20), (3, .bipush 20, 2, 0, 0, 0, 20), (5, .aload_n 0, 1, 0, 0, 0, 0), (6, .getfield 135, 3, 8, 13, 802, 0), (9, .iadd, 1, 0, 0, 0, 0), (10, .iconst 1, 1, 0, 0, 0, 1), (11, .isub, 1, 0, 0, 0, 0), (12, .invokestatic 141, 3, 0, 3, 966, 0), (15, .ifCond .eq 13, 3, 28, 0, 0, 0), (18, .aload_n 0, 1, 0, 0, 0, 0), (19, .getfield 53, 3, 8, 17, 806, 0), (22, .iload_n 1, 1, 1, 0, 0, 0), (23, .bipush 20, 2, 0, 0, 0, 20), (25, .isub, 1, 0, 0, 0, 0), (26, .iaload, 1, 0, 0, 0, 0), (27, .ireturn, 1, 0, 0, 0, 0), (28, .iload_n 1, 1, 1, 0, 0, 0), (29, .iconst 5, 1, 0, 0, 0, 5), (30, .iconst 5, 1, 0, 0, 0, 5), (31, .aload_n 0, 1, 0, 0, 0, 0), (32, .getfield 135, 3, 8, 13, 802, 0), (35, .iadd, 1, 0, 0, 0, 0), (36, .iconst 1, 1, 0, 0, 0, 1), (37, .isub, 1, 0, 0, 0, 0), (38, .invokestatic 141, 3, 0, 3, 966, 0), (41, .ifCond .eq 35, 3, 76, 0, 0, 0), (44, .iconst 0, 1, 0, 0, 0, 0), (45, .istore_n 2, 1, 2, 0, 0, 0), (46, .iconst 0, 1, 0, 0, 0, 0), (47, .istore_n 3, 1, 3, 0, 0, 0), (48, .iload_n 3, 1, 3, 0, 0, 0), (49, .iconst 3, 1, 0, 0, 0, 3), (50, .if_icmp .ge 24, 3, 74, 0, 0, 0), (53, .iload_n 2, 1, 2, 0, 0, 0), (54, .aload_n 0, 1, 0, 0, 0, 0), (55, .getfield 59, 3, 8, 19, 808, 0), (58, .iconst 3, 1, 0, 0, 0, 3), (59, .iload_n 1, 1, 1, 0, 0, 0), (60, .iconst 5, 1, 0, 0, 0, 5), (61, .isub, 1, 0, 0, 0, 0), (62, .imul, 1, 0, 0, 0, 0), (63, .iload_n 3, 1, 3, 0, 0, 0), (64, .iadd, 1, 0, 0, 0, 0), (65, .iaload, 1, 0, 0, 0, 0), (66, .iadd, 1, 0, 0, 0, 0), (67, .istore_n 2, 1, 2, 0, 0, 0), (68, .iinc 3 1, 3, 3, 0, 0, 1), (71, .goto (-23), 3, 48, 0, 0, 0), (74, .iload_n 2, 1, 2, 0, 0, 0), (75, .ireturn, 1, 0, 0, 0, 0), (76, .iload_n 1, 1, 1, 0, 0, 0), (77, .ifCond .ne 10, 3, 87, 0, 0, 0), (80, .aload_n 0, 1, 0, 0, 0, 0), (81, .getfield 135, 3, 8, 13, 802, 0), (84, .goto 53, 3, 137, 0, 0, 0), (87, .iload_n 1, 1, 1, 0, 0, 0), (88, .iconst 1, 1, 0, 0, 0, 1), (89, .if_icmp .ne 10, 3, 99, 0, 0, 0), (92, .aload_n 0, 1, 0, 0, 0, 0), (93, .getfield 131, 3, 8, 0, 789, 0), (96, .goto 41, 3, 137, 0, 0, 0), (99, .iload_n 1, 1, 1, 0, 0, 0), (100, .iconst 2, 1, 0, 0, 0, 2), (101, .if_icmp .ne 10, 3, 111, 0, 0, 0), (104, .aload_n 0, 1, 0, 0, 0, 0), (105, .getfield 258, 3, 8, 21, 810, 0), (108, .goto 29, 3, 137, 0, 0, 0), (111, .iload_n 1, 1, 1, 0, 0, 0), (112, .iconst 3, 1, 0, 0, 0, 3), (113, .if_icmp .ne 10, 3, 123, 0, 0, 0), (116, .aload_n 0, 1, 0, 0, 0, 0), (117, .getfield 274, 3, 8, 27, 816, 0), (120, .goto 17, 3, 137, 0, 0, 0), (123, .iload_n 1, 1, 1, 0, 0, 0), (124, .iconst 4, 1, 0, 0, 0, 4), (125, .if_icmp .ne 10, 3, 135, 0, 0, 0), (128, .aload_n 0, 1, 0, 0, 0, 0), (129, .getfield 332, 3, 8, 29, 818, 0), (132, .goto 5, 3, 137, 0, 0, 0), (135, .bipush (-2), 2, 0, 0, 0, (-2)), (137, .ireturn, 1, 0, 0, 0, 0)]
def mtML : List ai_Mt := [(yX8_in, cX8_in, 3, some .boolean, 8, true, 3),
  (yX8_isNode, cX8_isNode, 2, some .boolean, 8, false, 1),
  (yX8_isDecl, cX8_isDecl, 2, some .boolean, 8, false, 1),
  (yX8_isSame, cX8_isSame, 9, some .boolean, 8, false, 6),
  (yX8_write, cX8_write, 8, none, 8, false, 6),
  (yX8_type, cX8_type, 7, some .int, 8, false, 5),
  (yX8_arrayOf, cX8_arrayOf, 2, some .int, 8, false, 1),
  (yX8_bare, cX8_bare, 3, some .int, 8, false, 2),
  (yX8_lower, cX8_lower, 2, some .int, 8, false, 1),
  (yX8_higher, cX8_higher, 2, some .int, 8, false, 1),
  (yX8_reach, cX8_reach, 4, none, 8, false, 1),
  (yX8_hasVariable, cX8_hasVariable, 4, some .boolean, 8, false, 1),
  (yX8_isRaw, cX8_isRaw, 4, some .boolean, 8, false, 1),
  (yX8_erasedOf, cX8_erasedOf, 5, some .int, 8, false, 1),
  (yX8_isTold, cX8_isTold, 4, some .boolean, 8, false, 2),
  (yX8_putVariable, cX8_putVariable, 3, some .int, 8, false, 2),
  (yX8_putArgument, cX8_putArgument, 6, none, 8, false, 4),
  (yX8_putIn, cX8_putIn, 4, some .int, 8, false, 2),
  (yX8_putPart, cX8_putPart, 5, none, 8, false, 2),
  (yX8_comesTo, cX8_comesTo, 6, some .boolean, 8, false, 2),
  (yX8_superOf, cX8_superOf, 5, some .int, 8, false, 2),
  (yX8_isPlain, cX8_isPlain, 2, some .boolean, 8, false, 1),
  (yX8_isWider, cX8_isWider, 2, some .boolean, 8, true, 2),
  (yX8_atOnce, cX8_atOnce, 3, some .int, 8, false, 2),
  (yX8_isObject, cX8_isObject, 2, some .boolean, 8, false, 1),
  (yX8_belowOf, cX8_belowOf, 9, some .int, 8, false, 2),
  (yX8_goOn, cX8_goOn, 7, some .int, 8, false, 2),
  (yX8_ask, cX8_ask, 4, none, 8, false, 3),
  (yX8_part, cX8_part, 3, some .int, 8, false, 2),
  (yX8_told, cX8_told, 6, some .int, 8, false, 1),
  (yX8_real, cX8_real, 2, some .int, 8, false, 1),
  (yX8_copy, cX8_copy, 3, none, 8, false, 1),
  (yX8_declare, cX8_declare, 6, some .int, 8, false, 3),
  (yX8_variable, cX8_variable, 4, some .int, 8, false, 2),
  (yX8_isTellable, cX8_isTellable, 7, some .boolean, 8, false, 2),
  (yX8_bound, cX8_bound, 6, some .int, 8, false, 3),
  (yX8_leadsTo, cX8_leadsTo, 5, some .boolean, 8, false, 2),
  (yX8_parent, cX8_parent, 3, some .int, 8, false, 2),
  (yX8_argument, cX8_argument, 3, some .int, 8, false, 2),
  (yX8_wrong, cX8_wrong, 11, some .int, 8, false, 6),
  (yX8_make, cX8_make, 5, some .int, 8, false, 2),
  (yX8_array, cX8_array, 2, some .int, 8, false, 1),
  (yX8_about, cX8_about, 5, some .int, 8, false, 2),
  (yX8_below, cX8_below, 4, some .int, 8, false, 2),
  (yX8_erased, cX8_erased, 2, some .int, 8, false, 1),
  (yX8_whole, cX8_whole, 5, some .int, 8, false, 1),
  (yX8_above, cX8_above, 4, some .int, 8, false, 2),
  (yX8_member, cX8_member, 3, some .int, 8, false, 2),
  (yX8_feed, cX8_feed, 5, some .int, 8, false, 2),
  (yX8_byteAt, cX8_byteAt, 2, some .int, 8, false, 1),
  (yX8_faultAt, cX8_faultAt, 2, some .int, 8, false, 1),
  (yX8_readType, cX8_readType, 3, some .int, 8, false, 0),
  (yX8_readLetter, cX8_readLetter, 3, some .int, 8, false, 1),
  (yX8_readPart, cX8_readPart, 1, some .int, 8, false, 0),
  (yX8_readArgument, cX8_readArgument, 2, some .int, 8, false, 0),
  (yX8_keep, cX8_keep, 3, none, 8, false, 2),
  (yX8_readBehind, cX8_readBehind, 2, some .int, 8, false, 0),
  (yX8_readClosed, cX8_readClosed, 1, some .int, 8, false, 0),
  (yX8_readSuffix, cX8_readSuffix, 1, some .int, 8, false, 0),
  (yX8_read, cX8_read, 2, some .int, 8, false, 0),
  (yX8_push, cX8_push, 2, none, 8, false, 1),
  (yX8_pushParts, cX8_pushParts, 4, none, 8, false, 1),
  (yX8_print, cX8_print, 3, some .int, 8, false, 1),
  (yX8_out, cX8_out, 2, some .int, 8, false, 1),
  (yX8_count, cX8_count, 4, some .int, 8, false, 1)]
def kML : List (List (Nat × ai_I)) := [kM_0, kM_1, kM_2, kM_3, kM_4, kM_5, kM_6, kM_7, kM_8, kM_9, kM_10, kM_11, kM_12, kM_13, kM_14, kM_15, kM_16, kM_17, kM_18, kM_19, kM_20, kM_21, kM_22, kM_23, kM_24, kM_25, kM_26, kM_27, kM_28, kM_29, kM_30, kM_31, kM_32, kM_33, kM_34, kM_35, kM_36, kM_37, kM_38, kM_39, kM_40, kM_41, kM_42, kM_43, kM_44, kM_45, kM_46, kM_47, kM_48, kM_49, kM_50, kM_51, kM_52, kM_53, kM_54, kM_55, kM_56, kM_57, kM_58, kM_59, kM_60, kM_61, kM_62, kM_63, kM_64]
def mtM (i : Nat) : Option ai_Mt := mtML[i]?
def mlM (i : Nat) : Nat := match mtML[i]? with
  | some q => q.2.2.1
  | none => 0
def mciM (i : Nat) : Nat := match mtML[i]? with
  | some q => q.2.2.2.2.1
  | none => 0
def cdM (i : Nat) : Nat → Option ai_I := ai_lu (kML.getD i [])
def CM (d : Nat) : Nat → List Value → ai_H → Option Value → ai_H → Prop := ai_C shM mciM mlM cdM d
def RM (d i : Nat) (Q : Option Value → ai_H → Prop) (pc : Nat) (L : ai_Lc) (S : List Value) (h : ai_H) : Prop := ai_R shM mciM (CM d) (cdM i) Q pc L S h
theorem intM {d i : Nat} {as : List Value} {h : ai_H} {Q : Option Value → ai_H → Prop} (hl : (ai_ent (mlM i) as).length = mlM i) (hR : RM d i Q 0 (ai_ent (mlM i) as) [] h) : ∃ r h2, CM (d + 1) i as h r h2 ∧ Q r h2 := ai_intro hl hR
end
section
def shC : ai_Sh := [.inr (0, [some 1, some 2, some 3, some 4, some 5, some 6, some 7, some 8, some 9, some 10, some 11, none]), .inl (false, 12), .inl (false, 12), .inl (false, 12), .inl (false, 12), .inl (false, 12), .inl (false, 108), .inl (false, 36), .inl (false, 36), .inl (false, 36), .inl (false, 12), .inl (false, 12), .inr (6, [some 0, some 13, some 14, some 15, some 16, some 17, some 18, some 19, some 20, none, none, none, none]), .inl (false, 512), .inl (false, 512), .inl (false, 512), .inl (false, 512), .inl (false, 1536), .inl (false, 512), .inl (true, 512), .inl (true, 512), .inr (1, [some 0, some 12]), .inr (2, [some 0, some 12, some 21]), .inr (5, [some 0, some 12, some 21, some 22]), .inr (4, [some 0, some 12, some 23, some 25, none, none, none]), .inl (false, 100), .inr (3, [some 12, some 27, some 28, none, none]), .inl (false, 200), .inl (false, 200), .inr (7, [some 0, some 12, some 21, some 22, some 23, some 24, some 26, some 30, none]), .inl (false, 3)]
/-- TypeForms2$Declarations.number()I -/
def kC_0 : List (Nat × ai_I) := [(0, .aload_n 0, 1, 0, 0, 0, 0), (1, .getfield 45, 3, 0, 11, 110, 0), (4, .ireturn, 1, 0, 0, 0, 0)]
/-- TypeForms2$Declarations.has(I)Z -/
def kC_1 : List (Nat × ai_I) := [(0, .iload_n 1, 1, 1, 0, 0, 0), (1, .ifCond .lt 15, 3, 16, 0, 0, 0), (4, .iload_n 1, 1, 1, 0, 0, 0), (5, .aload_n 0, 1, 0, 0, 0, 0), (6, .getfield 45, 3, 0, 11, 110, 0), (9, .if_icmp .ge 7, 3, 16, 0, 0, 0), (12, .iconst 1, 1, 0, 0, 0, 1), (13, .goto 4, 3, 17, 0, 0, 0), (16, .iconst 0, 1, 0, 0, 0, 0), (17, .ireturn, 1, 0, 1, 0, 0)]
/-- TypeForms2$Declarations.hasRoom()Z -/
def kC_2 : List (Nat × ai_I) := [(0, .aload_n 0, 1, 0, 0, 0, 0), (1, .getfield 45, 3, 0, 11, 110, 0), (4, .bipush 12, 2, 0, 0, 0, 12), (6, .if_icmp .ge 7, 3, 13, 0, 0, 0), (9, .iconst 1, 1, 0, 0, 0, 1), (10, .goto 4, 3, 14, 0, 0, 0), (13, .iconst 0, 1, 0, 0, 0, 0), (14, .ireturn, 1, 0, 1, 0, 0)]
/-- TypeForms2$Declarations.add(IIII)I -/
def kC_3 : List (Nat × ai_I) := [(0, .aload_n 0, 1, 0, 0, 0, 0), (1, .getfield 45, 3, 0, 11, 110, 0), (4, .bipush 12, 2, 0, 0, 0, 12), (6, .if_icmp .lt 6, 3, 12, 0, 0, 0), (9, .bipush (-5), 2, 0, 0, 0, (-5)), (11, .ireturn, 1, 0, 0, 0, 0), (12, .aload_n 0, 1, 0, 0, 0, 0), (13, .getfield 45, 3, 0, 11, 110, 0), (16, .istore 5, 2, 5, 0, 0, 0), (18, .aload_n 0, 1, 0, 0, 0, 0), (19, .getfield 9, 3, 0, 0, 98, 0), (22, .iload 5, 2, 5, 0, 0, 0), (24, .iload_n 1, 1, 1, 0, 0, 0), (25, .iastore, 1, 0, 0, 0, 0), (26, .aload_n 0, 1, 0, 0, 0, 0), (27, .getfield 15, 3, 0, 1, 99, 0), (30, .iload 5, 2, 5, 0, 0, 0), (32, .iload_n 2, 1, 2, 0, 0, 0), (33, .iastore, 1, 0, 0, 0, 0), (34, .aload_n 0, 1, 0, 0, 0, 0), (35, .getfield 18, 3, 0, 2, 101, 0), (38, .iload 5, 2, 5, 0, 0, 0), (40, .iload_n 3, 1, 3, 0, 0, 0), (41, .iastore, 1, 0, 0, 0, 0), (42, .aload_n 0, 1, 0, 0, 0, 0), (43, .getfield 21, 3, 0, 3, 102, 0), (46, .iload 5, 2, 5, 0, 0, 0), (48, .iconst 1, 1, 0, 0, 0, 1), (49, .iload 5, 2, 5, 0, 0, 0), (51, .ishl, 1, 0, 0, 0, 0), (52, .aload_n 0, 1, 0, 0, 0, 0), (53, .iload_n 3, 1, 3, 0, 0, 0), (54, .invokevirtual 49, 3, 1, 1, 342, 0), (57, .ifCond .eq 12, 3, 69, 0, 0, 0), (60, .aload_n 0, 1, 0, 0, 0, 0), (61, .getfield 21, 3, 0, 3, 102, 0), (64, .iload_n 3, 1, 3, 0, 0, 0), (65, .iaload, 1, 0, 0, 0, 0), (66, .goto 4, 3, 70, 0, 0, 0), (69, .iconst 0, 1, 0, 0, 0, 0), (70, .ior, 1, 0, 0, 0, 0), (71, .iastore, 1, 0, 0, 0, 0), (72, .aload_n 0, 1, 0, 0, 0, 0), (73, .getfield 24, 3, 0, 4, 103, 0), (76, .iload 5, 2, 5, 0, 0, 0), (78, .iload 4, 2, 4, 0, 0, 0), (80, .iastore, 1, 0, 0, 0, 0), (81, .aload_n 0, 1, 0, 0, 0, 0), (82, .dup, 1, 0, 0, 0, 0), (83, .getfield 45, 3, 0, 11, 110, 0), (86, .iconst 1, 1, 0, 0, 0, 1), (87, .iadd, 1, 0, 0, 0, 0), (88, .putfield 45, 3, 0, 11, 110, 0), (91, .iload 5, 2, 5, 0, 0, 0), (93, .ireturn, 1, 0, 0, 0, 0)]
/-- TypeForms2$Declarations.isInterface(I)Z -/
def kC_4 : List (Nat × ai_I) := [(0, .aload_n 0, 1, 0, 0, 0, 0), (1, .iload_n 1, 1, 1, 0, 0, 0), (2, .invokevirtual 49, 3, 1, 1, 342, 0), (5, .ifCond .eq 17, 3, 22, 0, 0, 0), (8, .aload_n 0, 1, 0, 0, 0, 0), (9, .getfield 9, 3, 0, 0, 98, 0), (12, .iload_n 1, 1, 1, 0, 0, 0), (13, .iaload, 1, 0, 0, 0, 0), (14, .iconst 1, 1, 0, 0, 0, 1), (15, .if_icmp .ne 7, 3, 22, 0, 0, 0), (18, .iconst 1, 1, 0, 0, 0, 1), (19, .goto 4, 3, 23, 0, 0, 0), (22, .iconst 0, 1, 0, 0, 0, 0), (23, .ireturn, 1, 0, 1, 0, 0)]
/-- TypeForms2$Declarations.parametersOf(I)I -/
def kC_5 : List (Nat × ai_I) := [(0, .aload_n 0, 1, 0, 0, 0, 0), (1, .iload_n 1, 1, 1, 0, 0, 0), (2, .invokevirtual 49, 3, 1, 1, 342, 0), (5, .ifCond .eq 12, 3, 17, 0, 0, 0), (8, .aload_n 0, 1, 0, 0, 0, 0), (9, .getfield 15, 3, 0, 1, 99, 0), (12, .iload_n 1, 1, 1, 0, 0, 0), (13, .iaload, 1, 0, 0, 0, 0), (14, .goto 4, 3, 18, 0, 0, 0), (17, .iconst 0, 1, 0, 0, 0, 0), (18, .ireturn, 1, 0, 0, 0, 0)]
/-- TypeForms2$Declarations.outerOf(I)I -/
def kC_6 : List (Nat × ai_I) := [(0, .aload_n 0, 1, 0, 0, 0, 0), (1, .iload_n 1, 1, 1, 0, 0, 0), (2, .invokevirtual 49, 3, 1, 1, 342, 0), (5, .ifCond .eq 12, 3, 17, 0, 0, 0), (8, .aload_n 0, 1, 0, 0, 0, 0), (9, .getfield 18, 3, 0, 2, 101, 0), (12, .iload_n 1, 1, 1, 0, 0, 0), (13, .iaload, 1, 0, 0, 0, 0), (14, .goto 4, 3, 18, 0, 0, 0), (17, .iconst (-1), 1, 0, 0, 0, (-1)), (18, .ireturn, 1, 0, 0, 0, 0)]
/-- TypeForms2$Declarations.isWithin(II)Z -/
def kC_7 : List (Nat × ai_I) := [(0, .iload_n 1, 1, 1, 0, 0, 0), (1, .ifCond .lt 29, 3, 30, 0, 0, 0), (4, .iload_n 1, 1, 1, 0, 0, 0), (5, .aload_n 0, 1, 0, 0, 0, 0), (6, .getfield 45, 3, 0, 11, 110, 0), (9, .if_icmp .ge 21, 3, 30, 0, 0, 0), (12, .aload_n 0, 1, 0, 0, 0, 0), (13, .getfield 21, 3, 0, 3, 102, 0), (16, .iload_n 1, 1, 1, 0, 0, 0), (17, .iaload, 1, 0, 0, 0, 0), (18, .iload_n 2, 1, 2, 0, 0, 0), (19, .ishr, 1, 0, 0, 0, 0), (20, .iconst 1, 1, 0, 0, 0, 1), (21, .iand, 1, 0, 0, 0, 0), (22, .iconst 1, 1, 0, 0, 0, 1), (23, .if_icmp .ne 7, 3, 30, 0, 0, 0), (26, .iconst 1, 1, 0, 0, 0, 1), (27, .goto 4, 3, 31, 0, 0, 0), (30, .iconst 0, 1, 0, 0, 0, 0), (31, .ireturn, 1, 0, 1, 0, 0)]
/-- TypeForms2$Declarations.hasPlace(II)Z -/
def kC_8 : List (Nat × ai_I) := [(0, .aload_n 0, 1, 0, 0, 0, 0), (1, .iload_n 1, 1, 1, 0, 0, 0), (2, .invokevirtual 49, 3, 1, 1, 342, 0), (5, .ifCond .eq 21, 3, 26, 0, 0, 0), (8, .iload_n 2, 1, 2, 0, 0, 0), (9, .ifCond .lt 17, 3, 26, 0, 0, 0), (12, .iload_n 2, 1, 2, 0, 0, 0), (13, .aload_n 0, 1, 0, 0, 0, 0), (14, .getfield 15, 3, 0, 1, 99, 0), (17, .iload_n 1, 1, 1, 0, 0, 0), (18, .iaload, 1, 0, 0, 0, 0), (19, .if_icmp .ge 7, 3, 26, 0, 0, 0), (22, .iconst 1, 1, 0, 0, 0, 1), (23, .goto 4, 3, 27, 0, 0, 0), (26, .iconst 0, 1, 0, 0, 0, 0), (27, .ireturn, 1, 0, 1, 0, 0)]
/-- TypeForms2$Declarations.variableAt(II)I -/
def kC_9 : List (Nat × ai_I) := [(0, .aload_n 0, 1, 0, 0, 0, 0), (1, .iload_n 1, 1, 1, 0, 0, 0), (2, .iload_n 2, 1, 2, 0, 0, 0), (3, .invokevirtual 53, 3, 8, 2, 351, 0), (6, .ifCond .eq 14, 3, 20, 0, 0, 0), (9, .aload_n 0, 1, 0, 0, 0, 0), (10, .getfield 24, 3, 0, 4, 103, 0), (13, .iload_n 1, 1, 1, 0, 0, 0), (14, .iaload, 1, 0, 0, 0, 0), (15, .iload_n 2, 1, 2, 0, 0, 0), (16, .iadd, 1, 0, 0, 0, 0), (17, .goto 4, 3, 21, 0, 0, 0), (20, .iconst (-1), 1, 0, 0, 0, (-1)), (21, .ireturn, 1, 0, 0, 0, 0)]
/-- TypeForms2$Declarations.boundsOf(II)I -/
def kC_10 : List (Nat × ai_I) := [(0, .aload_n 0, 1, 0, 0, 0, 0), (1, .iload_n 1, 1, 1, 0, 0, 0), (2, .iload_n 2, 1, 2, 0, 0, 0), (3, .invokevirtual 53, 3, 8, 2, 351, 0), (6, .ifCond .eq 16, 3, 22, 0, 0, 0), (9, .aload_n 0, 1, 0, 0, 0, 0), (10, .getfield 30, 3, 0, 6, 105, 0), (13, .iload_n 1, 1, 1, 0, 0, 0), (14, .iconst 3, 1, 0, 0, 0, 3), (15, .imul, 1, 0, 0, 0, 0), (16, .iload_n 2, 1, 2, 0, 0, 0), (17, .iadd, 1, 0, 0, 0, 0), (18, .iaload, 1, 0, 0, 0, 0), (19, .goto 4, 3, 23, 0, 0, 0), (22, .iconst 0, 1, 0, 0, 0, 0), (23, .ireturn, 1, 0, 0, 0, 0)]
/-- TypeForms2$Declarations.boundAt(III)I -/
def kC_11 : List (Nat × ai_I) := [(0, .iload_n 1, 1, 1, 0, 0, 0), (1, .ifCond .lt 20, 3, 21, 0, 0, 0), (4, .iload_n 1, 1, 1, 0, 0, 0), (5, .aload_n 0, 1, 0, 0, 0, 0), (6, .getfield 45, 3, 0, 11, 110, 0), (9, .if_icmp .ge 12, 3, 21, 0, 0, 0), (12, .iload_n 2, 1, 2, 0, 0, 0), (13, .ifCond .lt 8, 3, 21, 0, 0, 0), (16, .iload_n 2, 1, 2, 0, 0, 0), (17, .iconst 3, 1, 0, 0, 0, 3), (18, .if_icmp .lt 5, 3, 23, 0, 0, 0), (21, .iconst (-1), 1, 0, 0, 0, (-1)), (22, .ireturn, 1, 0, 0, 0, 0), (23, .iload_n 1, 1, 1, 0, 0, 0), (24, .iconst 3, 1, 0, 0, 0, 3), (25, .imul, 1, 0, 0, 0, 0), (26, .iload_n 2, 1, 2, 0, 0, 0), (27, .iadd, 1, 0, 0, 0, 0), (28, .istore 4, 2, 4, 0, 0, 0), (30, .iload_n 3, 1, 3, 0, 0, 0), (31, .ifCond .lt 28, 3, 59, 0, 0, 0), (34, .iload_n 3, 1, 3, 0, 0, 0), (35, .aload_n 0, 1, 0, 0, 0, 0), (36, .getfield 30, 3, 0, 6, 105, 0), (39, .iload 4, 2, 4, 0, 0, 0), (41, .iaload, 1, 0, 0, 0, 0), (42, .if_icmp .ge 17, 3, 59, 0, 0, 0), (45, .aload_n 0, 1, 0, 0, 0, 0), (46, .getfield 27, 3, 0, 5, 104, 0), (49, .iload 4, 2, 4, 0, 0, 0), (51, .iconst 3, 1, 0, 0, 0, 3), (52, .imul, 1, 0, 0, 0, 0), (53, .iload_n 3, 1, 3, 0, 0, 0), (54, .iadd, 1, 0, 0, 0, 0), (55, .iaload, 1, 0, 0, 0, 0), (56, .goto 4, 3, 60, 0, 0, 0), (59, .iconst (-1), 1, 0, 0, 0, (-1)), (60, .ireturn, 1, 0, 0, 0, 0)]
/-- TypeForms2$Declarations.allBoundsOf(I)I -/
def kC_12 : List (Nat × ai_I) := [(0, .iconst 0, 1, 0, 0, 0, 0), (1, .istore_n 2, 1, 2, 0, 0, 0), (2, .iconst 0, 1, 0, 0, 0, 0), (3, .istore_n 3, 1, 3, 0, 0, 0), (4, .iload_n 3, 1, 3, 0, 0, 0), (5, .iconst 3, 1, 0, 0, 0, 3), (6, .if_icmp .ge 18, 3, 24, 0, 0, 0), (9, .iload_n 2, 1, 2, 0, 0, 0), (10, .aload_n 0, 1, 0, 0, 0, 0), (11, .iload_n 1, 1, 1, 0, 0, 0), (12, .iload_n 3, 1, 3, 0, 0, 0), (13, .invokevirtual 57, 3, 10, 2, 423, 0), (16, .iadd, 1, 0, 0, 0, 0), (17, .istore_n 2, 1, 2, 0, 0, 0), (18, .iinc 3 1, 3, 3, 0, 0, 1), (21, .goto (-17), 3, 4, 0, 0, 0), (24, .iload_n 2, 1, 2, 0, 0, 0), (25, .ireturn, 1, 0, 0, 0, 0)]
/-- TypeForms2$Declarations.addBound(III)I -/
def kC_13 : List (Nat × ai_I) := [(0, .aload_n 0, 1, 0, 0, 0, 0), (1, .iload_n 1, 1, 1, 0, 0, 0), (2, .iload_n 2, 1, 2, 0, 0, 0), (3, .invokevirtual 57, 3, 10, 2, 423, 0), (6, .istore 4, 2, 4, 0, 0, 0), (8, .aload_n 0, 1, 0, 0, 0, 0), (9, .iload_n 1, 1, 1, 0, 0, 0), (10, .iload_n 2, 1, 2, 0, 0, 0), (11, .invokevirtual 53, 3, 8, 2, 351, 0), (14, .ifCond .eq 9, 3, 23, 0, 0, 0), (17, .iload 4, 2, 4, 0, 0, 0), (19, .iconst 3, 1, 0, 0, 0, 3), (20, .if_icmp .lt 6, 3, 26, 0, 0, 0), (23, .bipush (-5), 2, 0, 0, 0, (-5)), (25, .ireturn, 1, 0, 0, 0, 0), (26, .iload_n 1, 1, 1, 0, 0, 0), (27, .iconst 3, 1, 0, 0, 0, 3), (28, .imul, 1, 0, 0, 0, 0), (29, .iload_n 2, 1, 2, 0, 0, 0), (30, .iadd, 1, 0, 0, 0, 0), (31, .istore 5, 2, 5, 0, 0, 0), (33, .aload_n 0, 1, 0, 0, 0, 0), (34, .getfield 27, 3, 0, 5, 104, 0), (37, .iload 5, 2, 5, 0, 0, 0), (39, .iconst 3, 1, 0, 0, 0, 3), (40, .imul, 1, 0, 0, 0, 0), (41, .iload 4, 2, 4, 0, 0, 0), (43, .iadd, 1, 0, 0, 0, 0), (44, .iload_n 3, 1, 3, 0, 0, 0), (45, .iastore, 1, 0, 0, 0, 0), (46, .aload_n 0, 1, 0, 0, 0, 0), (47, .getfield 30, 3, 0, 6, 105, 0), (50, .iload 5, 2, 5, 0, 0, 0), (52, .iload 4, 2, 4, 0, 0, 0), (54, .iconst 1, 1, 0, 0, 0, 1), (55, .iadd, 1, 0, 0, 0, 0), (56, .iastore, 1, 0, 0, 0, 0), (57, .iload 4, 2, 4, 0, 0, 0), (59, .iconst 1, 1, 0, 0, 0, 1), (60, .iadd, 1, 0, 0, 0, 0), (61, .ireturn, 1, 0, 0, 0, 0)]
/-- TypeForms2$Declarations.parentsOf(I)I -/
def kC_14 : List (Nat × ai_I) := [(0, .aload_n 0, 1, 0, 0, 0, 0), (1, .iload_n 1, 1, 1, 0, 0, 0), (2, .invokevirtual 49, 3, 1, 1, 342, 0), (5, .ifCond .eq 12, 3, 17, 0, 0, 0), (8, .aload_n 0, 1, 0, 0, 0, 0), (9, .getfield 39, 3, 0, 9, 108, 0), (12, .iload_n 1, 1, 1, 0, 0, 0), (13, .iaload, 1, 0, 0, 0, 0), (14, .goto 4, 3, 18, 0, 0, 0), (17, .iconst 0, 1, 0, 0, 0, 0), (18, .ireturn, 1, 0, 0, 0, 0)]
/-- TypeForms2$Declarations.addParent(III)I -/
def kC_15 : List (Nat × ai_I) := [(0, .aload_n 0, 1, 0, 0, 0, 0), (1, .iload_n 1, 1, 1, 0, 0, 0), (2, .invokevirtual 61, 3, 14, 1, 444, 0), (5, .istore 4, 2, 4, 0, 0, 0), (7, .aload_n 0, 1, 0, 0, 0, 0), (8, .iload_n 1, 1, 1, 0, 0, 0), (9, .invokevirtual 49, 3, 1, 1, 342, 0), (12, .ifCond .eq 17, 3, 29, 0, 0, 0), (15, .aload_n 0, 1, 0, 0, 0, 0), (16, .iload_n 3, 1, 3, 0, 0, 0), (17, .invokevirtual 49, 3, 1, 1, 342, 0), (20, .ifCond .eq 9, 3, 29, 0, 0, 0), (23, .iload 4, 2, 4, 0, 0, 0), (25, .iconst 3, 1, 0, 0, 0, 3), (26, .if_icmp .lt 6, 3, 32, 0, 0, 0), (29, .bipush (-5), 2, 0, 0, 0, (-5)), (31, .ireturn, 1, 0, 0, 0, 0), (32, .aload_n 0, 1, 0, 0, 0, 0), (33, .getfield 33, 3, 0, 7, 106, 0), (36, .iload_n 1, 1, 1, 0, 0, 0), (37, .iconst 3, 1, 0, 0, 0, 3), (38, .imul, 1, 0, 0, 0, 0), (39, .iload 4, 2, 4, 0, 0, 0), (41, .iadd, 1, 0, 0, 0, 0), (42, .iload_n 2, 1, 2, 0, 0, 0), (43, .iastore, 1, 0, 0, 0, 0), (44, .aload_n 0, 1, 0, 0, 0, 0), (45, .getfield 36, 3, 0, 8, 107, 0), (48, .iload_n 1, 1, 1, 0, 0, 0), (49, .iconst 3, 1, 0, 0, 0, 3), (50, .imul, 1, 0, 0, 0, 0), (51, .iload 4, 2, 4, 0, 0, 0), (53, .iadd, 1, 0, 0, 0, 0), (54, .iload_n 3, 1, 3, 0, 0, 0), (55, .iastore, 1, 0, 0, 0, 0), (56, .aload_n 0, 1, 0, 0, 0, 0), (57, .getfield 39, 3, 0, 9, 108, 0), (60, .iload_n 1, 1, 1, 0, 0, 0), (61, .iload 4, 2, 4, 0, 0, 0), (63, .iconst 1, 1, 0, 0, 0, 1), (64, .iadd, 1, 0, 0, 0, 0), (65, .iastore, 1, 0, 0, 0, 0), (66, .aload_n 0, 1, 0, 0, 0, 0), (67, .invokevirtual 65, 3, 16, 0, 445, 0), (70, .iload 4, 2, 4, 0, 0, 0), (72, .iconst 1, 1, 0, 0, 0, 1), (73, .iadd, 1, 0, 0, 0, 0), (74, .ireturn, 1, 0, 0, 0, 0)]
/-- TypeForms2$Declarations.findAncestors()V -/
def kC_16 : List (Nat × ai_I) := [(0, .iconst 0, 1, 0, 0, 0, 0), (1, .istore_n 1, 1, 1, 0, 0, 0), (2, .iload_n 1, 1, 1, 0, 0, 0), (3, .aload_n 0, 1, 0, 0, 0, 0), (4, .getfield 45, 3, 0, 11, 110, 0), (7, .if_icmp .ge 60, 3, 67, 0, 0, 0), (10, .aload_n 0, 1, 0, 0, 0, 0), (11, .getfield 42, 3, 0, 10, 109, 0), (14, .iload_n 1, 1, 1, 0, 0, 0), (15, .iconst 1, 1, 0, 0, 0, 1), (16, .iload_n 1, 1, 1, 0, 0, 0), (17, .ishl, 1, 0, 0, 0, 0), (18, .iastore, 1, 0, 0, 0, 0), (19, .iconst 0, 1, 0, 0, 0, 0), (20, .istore_n 2, 1, 2, 0, 0, 0), (21, .iload_n 2, 1, 2, 0, 0, 0), (22, .aload_n 0, 1, 0, 0, 0, 0), (23, .getfield 39, 3, 0, 9, 108, 0), (26, .iload_n 1, 1, 1, 0, 0, 0), (27, .iaload, 1, 0, 0, 0, 0), (28, .if_icmp .ge 33, 3, 61, 0, 0, 0), (31, .aload_n 0, 1, 0, 0, 0, 0), (32, .getfield 42, 3, 0, 10, 109, 0), (35, .iload_n 1, 1, 1, 0, 0, 0), (36, .dup2, 1, 0, 0, 0, 0), (37, .iaload, 1, 0, 0, 0, 0), (38, .aload_n 0, 1, 0, 0, 0, 0), (39, .getfield 42, 3, 0, 10, 109, 0), (42, .aload_n 0, 1, 0, 0, 0, 0), (43, .getfield 36, 3, 0, 8, 107, 0), (46, .iload_n 1, 1, 1, 0, 0, 0), (47, .iconst 3, 1, 0, 0, 0, 3), (48, .imul, 1, 0, 0, 0, 0), (49, .iload_n 2, 1, 2, 0, 0, 0), (50, .iadd, 1, 0, 0, 0, 0), (51, .iaload, 1, 0, 0, 0, 0), (52, .iaload, 1, 0, 0, 0, 0), (53, .ior, 1, 0, 0, 0, 0), (54, .iastore, 1, 0, 0, 0, 0), (55, .iinc 2 1, 3, 2, 0, 0, 1), (58, .goto (-37), 3, 21, 0, 0, 0), (61, .iinc 1 1, 3, 1, 0, 0, 1), (64, .goto (-62), 3, 2, 0, 0, 0), (67, .return_, 1, 0, 0, 0, 0)]
/-- TypeForms2$Declarations.parentToward(II)I -/
def kC_17 : List (Nat × ai_I) := [(0, .iconst 0, 1, 0, 0, 0, 0), (1, .istore_n 3, 1, 3, 0, 0, 0), (2, .iload_n 3, 1, 3, 0, 0, 0), (3, .aload_n 0, 1, 0, 0, 0, 0), (4, .iload_n 1, 1, 1, 0, 0, 0), (5, .invokevirtual 61, 3, 14, 1, 444, 0), (8, .if_icmp .ge 44, 3, 52, 0, 0, 0), (11, .iload_n 1, 1, 1, 0, 0, 0), (12, .iconst 3, 1, 0, 0, 0, 3), (13, .imul, 1, 0, 0, 0, 0), (14, .iload_n 3, 1, 3, 0, 0, 0), (15, .iadd, 1, 0, 0, 0, 0), (16, .istore 4, 2, 4, 0, 0, 0), (18, .aload_n 0, 1, 0, 0, 0, 0), (19, .getfield 42, 3, 0, 10, 109, 0), (22, .aload_n 0, 1, 0, 0, 0, 0), (23, .getfield 36, 3, 0, 8, 107, 0), (26, .iload 4, 2, 4, 0, 0, 0), (28, .iaload, 1, 0, 0, 0, 0), (29, .iaload, 1, 0, 0, 0, 0), (30, .iload_n 2, 1, 2, 0, 0, 0), (31, .ishr, 1, 0, 0, 0, 0), (32, .iconst 1, 1, 0, 0, 0, 1), (33, .iand, 1, 0, 0, 0, 0), (34, .iconst 1, 1, 0, 0, 0, 1), (35, .if_icmp .ne 11, 3, 46, 0, 0, 0), (38, .aload_n 0, 1, 0, 0, 0, 0), (39, .getfield 33, 3, 0, 7, 106, 0), (42, .iload 4, 2, 4, 0, 0, 0), (44, .iaload, 1, 0, 0, 0, 0), (45, .ireturn, 1, 0, 0, 0, 0), (46, .iinc 3 1, 3, 3, 0, 0, 1), (49, .goto (-47), 3, 2, 0, 0, 0), (52, .iconst (-1), 1, 0, 0, 0, (-1)), (53, .ireturn, 1, 0, 0, 0, 0)]
/-- TypeForms2$Forms.erase(I)I -/
def kC_18 : List (Nat × ai_I) := [(0, .iload_n 1, 1, 1, 0, 0, 0), (1, .istore_n 2, 1, 2, 0, 0, 0), (2, .iconst 0, 1, 0, 0, 0, 0), (3, .istore_n 3, 1, 3, 0, 0, 0), (4, .aload_n 0, 1, 0, 0, 0, 0), (5, .getfield 15, 3, 1, 1, 195, 0), (8, .iload_n 2, 1, 2, 0, 0, 0), (9, .invokevirtual 19, 3, 60, 1, 510, 0), (12, .iconst 4, 1, 0, 0, 0, 4), (13, .if_icmp .ne 25, 3, 38, 0, 0, 0), (16, .iload_n 3, 1, 3, 0, 0, 0), (17, .sipush 512, 3, 0, 0, 0, 512), (20, .if_icmp .ge 18, 3, 38, 0, 0, 0), (23, .aload_n 0, 1, 0, 0, 0, 0), (24, .getfield 15, 3, 1, 1, 195, 0), (27, .iload_n 2, 1, 2, 0, 0, 0), (28, .invokevirtual 25, 3, 63, 1, 511, 0), (31, .istore_n 2, 1, 2, 0, 0, 0), (32, .iinc 3 1, 3, 3, 0, 0, 1), (35, .goto (-31), 3, 4, 0, 0, 0), (38, .iconst 0, 1, 0, 0, 0, 0), (39, .istore 4, 2, 4, 0, 0, 0), (41, .iload 4, 2, 4, 0, 0, 0), (43, .iconst 3, 1, 0, 0, 0, 3), (44, .if_icmp .gt 61, 3, 105, 0, 0, 0), (47, .aload_n 0, 1, 0, 0, 0, 0), (48, .getfield 15, 3, 1, 1, 195, 0), (51, .iload_n 2, 1, 2, 0, 0, 0), (52, .invokevirtual 19, 3, 60, 1, 510, 0), (55, .iconst 3, 1, 0, 0, 0, 3), (56, .if_icmp .ne 49, 3, 105, 0, 0, 0), (59, .aload_n 0, 1, 0, 0, 0, 0), (60, .getfield 9, 3, 1, 0, 194, 0), (63, .aload_n 0, 1, 0, 0, 0, 0), (64, .getfield 15, 3, 1, 1, 195, 0), (67, .iload_n 2, 1, 2, 0, 0, 0), (68, .invokevirtual 28, 3, 61, 1, 515, 0), (71, .aload_n 0, 1, 0, 0, 0, 0), (72, .getfield 15, 3, 1, 1, 195, 0), (75, .iload_n 2, 1, 2, 0, 0, 0), (76, .invokevirtual 31, 3, 62, 1, 516, 0), (79, .iconst 0, 1, 0, 0, 0, 0), (80, .invokevirtual 34, 3, 11, 3, 517, 0), (83, .istore 5, 2, 5, 0, 0, 0), (85, .iload 5, 2, 5, 0, 0, 0), (87, .iconst (-1), 1, 0, 0, 0, (-1)), (88, .if_icmp .ne 8, 3, 96, 0, 0, 0), (91, .bipush 10, 2, 0, 0, 0, 10), (93, .goto 5, 3, 98, 0, 0, 0), (96, .iload 5, 2, 5, 0, 0, 0), (98, .istore_n 2, 1, 2, 0, 0, 0), (99, .iinc 4 1, 3, 4, 0, 0, 1), (102, .goto (-61), 3, 41, 0, 0, 0), (105, .aload_n 0, 1, 0, 0, 0, 0), (106, .getfield 15, 3, 1, 1, 195, 0), (109, .iload_n 2, 1, 2, 0, 0, 0), (110, .invokevirtual 19, 3, 60, 1, 510, 0), (113, .iconst 5, 1, 0, 0, 0, 5), (114, .if_icmp .ne 60, 3, 174, 0, 0, 0), (117, .aload_n 0, 1, 0, 0, 0, 0), (118, .getfield 15, 3, 1, 1, 195, 0), (121, .iload_n 2, 1, 2, 0, 0, 0), (122, .invokevirtual 28, 3, 61, 1, 515, 0), (125, .istore 4, 2, 4, 0, 0, 0), (127, .iconst (-1), 1, 0, 0, 0, (-1)), (128, .istore_n 2, 1, 2, 0, 0, 0), (129, .iconst 0, 1, 0, 0, 0, 0), (130, .istore 5, 2, 5, 0, 0, 0), (132, .iload 5, 2, 5, 0, 0, 0), (134, .iload 4, 2, 4, 0, 0, 0), (136, .if_icmp .gt 38, 3, 174, 0, 0, 0), (139, .aload_n 0, 1, 0, 0, 0, 0), (140, .getfield 9, 3, 1, 0, 194, 0), (143, .iload 4, 2, 4, 0, 0, 0), (145, .iload 5, 2, 5, 0, 0, 0), (147, .invokevirtual 40, 3, 7, 2, 518, 0), (150, .ifCond .eq 18, 3, 168, 0, 0, 0), (153, .aload_n 0, 1, 0, 0, 0, 0), (154, .getfield 15, 3, 1, 1, 195, 0), (157, .iconst 5, 1, 0, 0, 0, 5), (158, .iload 5, 2, 5, 0, 0, 0), (160, .iload_n 2, 1, 2, 0, 0, 0), (161, .iconst (-1), 1, 0, 0, 0, (-1)), (162, .iconst (-1), 1, 0, 0, 0, (-1)), (163, .iconst (-1), 1, 0, 0, 0, (-1)), (164, .invokevirtual 44, 3, 74, 6, 522, 0), (167, .istore_n 2, 1, 2, 0, 0, 0), (168, .iinc 5 1, 3, 5, 0, 0, 1), (171, .goto (-39), 3, 132, 0, 0, 0), (174, .iconst 0, 1, 0, 0, 0, 0), (175, .istore 4, 2, 4, 0, 0, 0), (177, .iload 4, 2, 4, 0, 0, 0), (179, .iload_n 3, 1, 3, 0, 0, 0), (180, .if_icmp .ge 23, 3, 203, 0, 0, 0), (183, .aload_n 0, 1, 0, 0, 0, 0), (184, .getfield 15, 3, 1, 1, 195, 0), (187, .iconst 4, 1, 0, 0, 0, 4), (188, .iconst (-1), 1, 0, 0, 0, (-1)), (189, .iload_n 2, 1, 2, 0, 0, 0), (190, .iconst (-1), 1, 0, 0, 0, (-1)), (191, .iconst (-1), 1, 0, 0, 0, (-1)), (192, .iconst (-1), 1, 0, 0, 0, (-1)), (193, .invokevirtual 44, 3, 74, 6, 522, 0), (196, .istore_n 2, 1, 2, 0, 0, 0), (197, .iinc 4 1, 3, 4, 0, 0, 1), (200, .goto (-23), 3, 177, 0, 0, 0), (203, .iload_n 2, 1, 2, 0, 0, 0), (204, .ireturn, 1, 0, 0, 0, 0)]
/-- TypeForms2$Forms.putIn(III)I -/
def kC_19 : List (Nat × ai_I) := [(0, .aload_n 0, 1, 0, 0, 0, 0), (1, .getfield 15, 3, 1, 1, 195, 0), (4, .iload_n 2, 1, 2, 0, 0, 0), (5, .invokevirtual 48, 3, 67, 1, 505, 0), (8, .ifCond .eq 9, 3, 17, 0, 0, 0), (11, .aload_n 0, 1, 0, 0, 0, 0), (12, .iload_n 1, 1, 1, 0, 0, 0), (13, .invokevirtual 52, 3, 18, 1, 506, 0), (16, .ireturn, 1, 0, 0, 0, 0), (17, .aload_n 0, 1, 0, 0, 0, 0), (18, .getfield 15, 3, 1, 1, 195, 0), (21, .iload_n 1, 1, 1, 0, 0, 0), (22, .invokevirtual 55, 3, 68, 1, 523, 0), (25, .ifCond .eq 9, 3, 34, 0, 0, 0), (28, .iload_n 3, 1, 3, 0, 0, 0), (29, .bipush 64, 2, 0, 0, 0, 64), (31, .if_icmp .le 5, 3, 36, 0, 0, 0), (34, .iload_n 1, 1, 1, 0, 0, 0), (35, .ireturn, 1, 0, 0, 0, 0), (36, .aload_n 0, 1, 0, 0, 0, 0), (37, .getfield 15, 3, 1, 1, 195, 0), (40, .iload_n 1, 1, 1, 0, 0, 0), (41, .invokevirtual 19, 3, 60, 1, 510, 0), (44, .iconst 3, 1, 0, 0, 0, 3), (45, .if_icmp .ne 51, 3, 96, 0, 0, 0), (48, .aload_n 0, 1, 0, 0, 0, 0), (49, .iload_n 1, 1, 1, 0, 0, 0), (50, .iload_n 2, 1, 2, 0, 0, 0), (51, .invokevirtual 58, 3, 21, 2, 524, 0), (54, .istore 4, 2, 4, 0, 0, 0), (56, .iload 4, 2, 4, 0, 0, 0), (58, .invokestatic 62, 3, 97, 1, 530, 0), (61, .istore 5, 2, 5, 0, 0, 0), (63, .iload 4, 2, 4, 0, 0, 0), (65, .iconst (-1), 1, 0, 0, 0, (-1)), (66, .if_icmp .ne 5, 3, 71, 0, 0, 0), (69, .iload_n 1, 1, 1, 0, 0, 0), (70, .ireturn, 1, 0, 0, 0, 0), (71, .iload 5, 2, 5, 0, 0, 0), (73, .ifCond .eq 9, 3, 82, 0, 0, 0), (76, .iload 5, 2, 5, 0, 0, 0), (78, .iconst 1, 1, 0, 0, 0, 1), (79, .if_icmp .ne 11, 3, 90, 0, 0, 0), (82, .iload 4, 2, 4, 0, 0, 0), (84, .invokestatic 65, 3, 98, 1, 531, 0), (87, .goto 8, 3, 95, 0, 0, 0), (90, .aload_n 0, 1, 0, 0, 0, 0), (91, .iload_n 1, 1, 1, 0, 0, 0), (92, .invokevirtual 52, 3, 18, 1, 506, 0), (95, .ireturn, 1, 0, 0, 0, 0), (96, .aload_n 0, 1, 0, 0, 0, 0), (97, .getfield 15, 3, 1, 1, 195, 0), (100, .iload_n 1, 1, 1, 0, 0, 0), (101, .invokevirtual 19, 3, 60, 1, 510, 0), (104, .iconst 4, 1, 0, 0, 0, 4), (105, .if_icmp .ne 36, 3, 141, 0, 0, 0), (108, .aload_n 0, 1, 0, 0, 0, 0), (109, .aload_n 0, 1, 0, 0, 0, 0), (110, .getfield 15, 3, 1, 1, 195, 0), (113, .iload_n 1, 1, 1, 0, 0, 0), (114, .invokevirtual 25, 3, 63, 1, 511, 0), (117, .iload_n 2, 1, 2, 0, 0, 0), (118, .iload_n 3, 1, 3, 0, 0, 0), (119, .iconst 1, 1, 0, 0, 0, 1), (120, .iadd, 1, 0, 0, 0, 0), (121, .invokevirtual 68, 3, 19, 3, 532, 0), (124, .istore 4, 2, 4, 0, 0, 0), (126, .aload_n 0, 1, 0, 0, 0, 0), (127, .getfield 15, 3, 1, 1, 195, 0), (130, .iconst 4, 1, 0, 0, 0, 4), (131, .iconst (-1), 1, 0, 0, 0, (-1)), (132, .iload 4, 2, 4, 0, 0, 0), (134, .iconst (-1), 1, 0, 0, 0, (-1)), (135, .iconst (-1), 1, 0, 0, 0, (-1)), (136, .iconst (-1), 1, 0, 0, 0, (-1)), (137, .invokevirtual 44, 3, 74, 6, 522, 0), (140, .ireturn, 1, 0, 0, 0, 0), (141, .aload_n 0, 1, 0, 0, 0, 0), (142, .aload_n 0, 1, 0, 0, 0, 0), (143, .getfield 15, 3, 1, 1, 195, 0), (146, .iload_n 1, 1, 1, 0, 0, 0), (147, .invokevirtual 71, 3, 64, 1, 529, 0), (150, .iload_n 2, 1, 2, 0, 0, 0), (151, .iload_n 3, 1, 3, 0, 0, 0), (152, .iconst 1, 1, 0, 0, 0, 1), (153, .iadd, 1, 0, 0, 0, 0), (154, .invokevirtual 68, 3, 19, 3, 532, 0), (157, .istore 4, 2, 4, 0, 0, 0), (159, .aload_n 0, 1, 0, 0, 0, 0), (160, .aload_n 0, 1, 0, 0, 0, 0), (161, .getfield 15, 3, 1, 1, 195, 0), (164, .iload_n 1, 1, 1, 0, 0, 0), (165, .iconst 0, 1, 0, 0, 0, 0), (166, .invokevirtual 74, 3, 65, 2, 528, 0), (169, .iload_n 2, 1, 2, 0, 0, 0), (170, .iload_n 3, 1, 3, 0, 0, 0), (171, .invokevirtual 77, 3, 20, 3, 533, 0), (174, .istore 5, 2, 5, 0, 0, 0), (176, .aload_n 0, 1, 0, 0, 0, 0), (177, .aload_n 0, 1, 0, 0, 0, 0), (178, .getfield 15, 3, 1, 1, 195, 0), (181, .iload_n 1, 1, 1, 0, 0, 0), (182, .iconst 1, 1, 0, 0, 0, 1), (183, .invokevirtual 74, 3, 65, 2, 528, 0), (186, .iload_n 2, 1, 2, 0, 0, 0), (187, .iload_n 3, 1, 3, 0, 0, 0), (188, .invokevirtual 77, 3, 20, 3, 533, 0), (191, .istore 6, 2, 6, 0, 0, 0), (193, .aload_n 0, 1, 0, 0, 0, 0), (194, .aload_n 0, 1, 0, 0, 0, 0), (195, .getfield 15, 3, 1, 1, 195, 0), (198, .iload_n 1, 1, 1, 0, 0, 0), (199, .iconst 2, 1, 0, 0, 0, 2), (200, .invokevirtual 74, 3, 65, 2, 528, 0), (203, .iload_n 2, 1, 2, 0, 0, 0), (204, .iload_n 3, 1, 3, 0, 0, 0), (205, .invokevirtual 77, 3, 20, 3, 533, 0), (208, .istore 7, 2, 7, 0, 0, 0), (210, .aload_n 0, 1, 0, 0, 0, 0), (211, .getfield 15, 3, 1, 1, 195, 0), (214, .iconst 5, 1, 0, 0, 0, 5), (215, .aload_n 0, 1, 0, 0, 0, 0), (216, .getfield 15, 3, 1, 1, 195, 0), (219, .iload_n 1, 1, 1, 0, 0, 0), (220, .invokevirtual 28, 3, 61, 1, 515, 0), (223, .iload 4, 2, 4, 0, 0, 0), (225, .iload 5, 2, 5, 0, 0, 0), (227, .iload 6, 2, 6, 0, 0, 0), (229, .iload 7, 2, 7, 0, 0, 0), (231, .invokevirtual 44, 3, 74, 6, 522, 0), (234, .ireturn, 1, 0, 0, 0, 0)]
/-- TypeForms2$Forms.putInArgument(III)I -/
def kC_20 : List (Nat × ai_I) := [(0, .iload_n 1, 1, 1, 0, 0, 0), (1, .invokestatic 65, 3, 98, 1, 531, 0), (4, .istore 4, 2, 4, 0, 0, 0), (6, .iload 4, 2, 4, 0, 0, 0), (8, .iconst (-1), 1, 0, 0, 0, (-1)), (9, .if_icmp .ne 5, 3, 14, 0, 0, 0), (12, .iload_n 1, 1, 1, 0, 0, 0), (13, .ireturn, 1, 0, 0, 0, 0), (14, .aload_n 0, 1, 0, 0, 0, 0), (15, .getfield 15, 3, 1, 1, 195, 0), (18, .iload 4, 2, 4, 0, 0, 0), (20, .invokevirtual 19, 3, 60, 1, 510, 0), (23, .iconst 3, 1, 0, 0, 0, 3), (24, .if_icmp .eq 21, 3, 45, 0, 0, 0), (27, .iload_n 1, 1, 1, 0, 0, 0), (28, .invokestatic 62, 3, 97, 1, 530, 0), (31, .aload_n 0, 1, 0, 0, 0, 0), (32, .iload 4, 2, 4, 0, 0, 0), (34, .iload_n 2, 1, 2, 0, 0, 0), (35, .iload_n 3, 1, 3, 0, 0, 0), (36, .iconst 1, 1, 0, 0, 0, 1), (37, .iadd, 1, 0, 0, 0, 0), (38, .invokevirtual 68, 3, 19, 3, 532, 0), (41, .invokestatic 80, 3, 96, 2, 537, 0), (44, .ireturn, 1, 0, 0, 0, 0), (45, .aload_n 0, 1, 0, 0, 0, 0), (46, .iload 4, 2, 4, 0, 0, 0), (48, .iload_n 2, 1, 2, 0, 0, 0), (49, .invokevirtual 58, 3, 21, 2, 524, 0), (52, .istore 5, 2, 5, 0, 0, 0), (54, .iload 5, 2, 5, 0, 0, 0), (56, .iconst (-1), 1, 0, 0, 0, (-1)), (57, .if_icmp .ne 7, 3, 64, 0, 0, 0), (60, .iload_n 1, 1, 1, 0, 0, 0), (61, .goto 12, 3, 73, 0, 0, 0), (64, .iload_n 1, 1, 1, 0, 0, 0), (65, .invokestatic 62, 3, 97, 1, 530, 0), (68, .iload 5, 2, 5, 0, 0, 0), (70, .invokestatic 83, 3, 22, 2, 538, 0), (73, .ireturn, 1, 0, 0, 0, 0)]
/-- TypeForms2$Forms.tellerOf(II)I -/
def kC_21 : List (Nat × ai_I) := [(0, .iload_n 2, 1, 2, 0, 0, 0), (1, .istore_n 3, 1, 3, 0, 0, 0), (2, .iconst 0, 1, 0, 0, 0, 0), (3, .istore 4, 2, 4, 0, 0, 0), (5, .iload 4, 2, 4, 0, 0, 0), (7, .bipush 12, 2, 0, 0, 0, 12), (9, .if_icmp .ge 59, 3, 68, 0, 0, 0), (12, .iload_n 3, 1, 3, 0, 0, 0), (13, .iconst (-1), 1, 0, 0, 0, (-1)), (14, .if_icmp .eq 54, 3, 68, 0, 0, 0), (17, .aload_n 0, 1, 0, 0, 0, 0), (18, .getfield 15, 3, 1, 1, 195, 0), (21, .iload_n 3, 1, 3, 0, 0, 0), (22, .invokevirtual 28, 3, 61, 1, 515, 0), (25, .aload_n 0, 1, 0, 0, 0, 0), (26, .getfield 15, 3, 1, 1, 195, 0), (29, .iload_n 1, 1, 1, 0, 0, 0), (30, .invokevirtual 28, 3, 61, 1, 515, 0), (33, .if_icmp .ne 20, 3, 53, 0, 0, 0), (36, .aload_n 0, 1, 0, 0, 0, 0), (37, .getfield 15, 3, 1, 1, 195, 0), (40, .iload_n 3, 1, 3, 0, 0, 0), (41, .aload_n 0, 1, 0, 0, 0, 0), (42, .getfield 15, 3, 1, 1, 195, 0), (45, .iload_n 1, 1, 1, 0, 0, 0), (46, .invokevirtual 31, 3, 62, 1, 516, 0), (49, .invokevirtual 74, 3, 65, 2, 528, 0), (52, .ireturn, 1, 0, 0, 0, 0), (53, .aload_n 0, 1, 0, 0, 0, 0), (54, .getfield 15, 3, 1, 1, 195, 0), (57, .iload_n 3, 1, 3, 0, 0, 0), (58, .invokevirtual 71, 3, 64, 1, 529, 0), (61, .istore_n 3, 1, 3, 0, 0, 0), (62, .iinc 4 1, 3, 4, 0, 0, 1), (65, .goto (-60), 3, 5, 0, 0, 0), (68, .iconst (-1), 1, 0, 0, 0, (-1)), (69, .ireturn, 1, 0, 0, 0, 0)]
/-- TypeForms2$Forms.told(II)I -/
def kC_22 : List (Nat × ai_I) := [(0, .iload_n 0, 1, 0, 0, 0, 0), (1, .ifCond .ne 5, 3, 6, 0, 0, 0), (4, .iload_n 1, 1, 1, 0, 0, 0), (5, .ireturn, 1, 0, 0, 0, 0), (6, .iload_n 1, 1, 1, 0, 0, 0), (7, .invokestatic 62, 3, 97, 1, 530, 0), (10, .ifCond .eq 11, 3, 21, 0, 0, 0), (13, .iload_n 1, 1, 1, 0, 0, 0), (14, .invokestatic 62, 3, 97, 1, 530, 0), (17, .iload_n 0, 1, 0, 0, 0, 0), (18, .if_icmp .ne 7, 3, 25, 0, 0, 0), (21, .iconst 1, 1, 0, 0, 0, 1), (22, .goto 4, 3, 26, 0, 0, 0), (25, .iconst 0, 1, 0, 0, 0, 0), (26, .istore_n 2, 1, 2, 0, 0, 0), (27, .iload_n 2, 1, 2, 0, 0, 0), (28, .ifCond .eq 14, 3, 42, 0, 0, 0), (31, .iload_n 0, 1, 0, 0, 0, 0), (32, .iload_n 1, 1, 1, 0, 0, 0), (33, .invokestatic 65, 3, 98, 1, 531, 0), (36, .invokestatic 80, 3, 96, 2, 537, 0), (39, .goto 4, 3, 43, 0, 0, 0), (42, .iconst 3, 1, 0, 0, 0, 3), (43, .ireturn, 1, 0, 0, 0, 0)]
/-- TypeForms2$Forms.superOf(II)I -/
def kC_23 : List (Nat × ai_I) := [(0, .iload_n 1, 1, 1, 0, 0, 0), (1, .istore_n 3, 1, 3, 0, 0, 0), (2, .iconst 0, 1, 0, 0, 0, 0), (3, .istore 4, 2, 4, 0, 0, 0), (5, .iload 4, 2, 4, 0, 0, 0), (7, .bipush 12, 2, 0, 0, 0, 12), (9, .if_icmp .ge 58, 3, 67, 0, 0, 0), (12, .aload_n 0, 1, 0, 0, 0, 0), (13, .getfield 15, 3, 1, 1, 195, 0), (16, .iload_n 3, 1, 3, 0, 0, 0), (17, .invokevirtual 28, 3, 61, 1, 515, 0), (20, .iload_n 2, 1, 2, 0, 0, 0), (21, .if_icmp .ne 5, 3, 26, 0, 0, 0), (24, .iload_n 3, 1, 3, 0, 0, 0), (25, .ireturn, 1, 0, 0, 0, 0), (26, .aload_n 0, 1, 0, 0, 0, 0), (27, .getfield 9, 3, 1, 0, 194, 0), (30, .aload_n 0, 1, 0, 0, 0, 0), (31, .getfield 15, 3, 1, 1, 195, 0), (34, .iload_n 3, 1, 3, 0, 0, 0), (35, .invokevirtual 28, 3, 61, 1, 515, 0), (38, .iload_n 2, 1, 2, 0, 0, 0), (39, .invokevirtual 86, 3, 17, 2, 572, 0), (42, .istore 5, 2, 5, 0, 0, 0), (44, .iload 5, 2, 5, 0, 0, 0), (46, .iconst (-1), 1, 0, 0, 0, (-1)), (47, .if_icmp .ne 5, 3, 52, 0, 0, 0), (50, .iconst (-1), 1, 0, 0, 0, (-1)), (51, .ireturn, 1, 0, 0, 0, 0), (52, .aload_n 0, 1, 0, 0, 0, 0), (53, .iload 5, 2, 5, 0, 0, 0), (55, .iload_n 3, 1, 3, 0, 0, 0), (56, .iconst 0, 1, 0, 0, 0, 0), (57, .invokevirtual 68, 3, 19, 3, 532, 0), (60, .istore_n 3, 1, 3, 0, 0, 0), (61, .iinc 4 1, 3, 4, 0, 0, 1), (64, .goto (-59), 3, 5, 0, 0, 0), (67, .iconst (-1), 1, 0, 0, 0, (-1)), (68, .ireturn, 1, 0, 0, 0, 0)]
/-- TypeForms2$Forms.isWhole(I)Z -/
def kC_24 : List (Nat × ai_I) := [(0, .iload_n 1, 1, 1, 0, 0, 0), (1, .istore_n 2, 1, 2, 0, 0, 0), (2, .iconst 0, 1, 0, 0, 0, 0), (3, .istore_n 3, 1, 3, 0, 0, 0), (4, .iload_n 3, 1, 3, 0, 0, 0), (5, .sipush 512, 3, 0, 0, 0, 512), (8, .if_icmp .ge 30, 3, 38, 0, 0, 0), (11, .aload_n 0, 1, 0, 0, 0, 0), (12, .getfield 15, 3, 1, 1, 195, 0), (15, .iload_n 2, 1, 2, 0, 0, 0), (16, .invokevirtual 19, 3, 60, 1, 510, 0), (19, .iconst 4, 1, 0, 0, 0, 4), (20, .if_icmp .ne 18, 3, 38, 0, 0, 0), (23, .aload_n 0, 1, 0, 0, 0, 0), (24, .getfield 15, 3, 1, 1, 195, 0), (27, .iload_n 2, 1, 2, 0, 0, 0), (28, .invokevirtual 25, 3, 63, 1, 511, 0), (31, .istore_n 2, 1, 2, 0, 0, 0), (32, .iinc 3 1, 3, 3, 0, 0, 1), (35, .goto (-31), 3, 4, 0, 0, 0), (38, .aload_n 0, 1, 0, 0, 0, 0), (39, .getfield 15, 3, 1, 1, 195, 0), (42, .iload_n 2, 1, 2, 0, 0, 0), (43, .invokevirtual 19, 3, 60, 1, 510, 0), (46, .iconst 3, 1, 0, 0, 0, 3), (47, .if_icmp .ne 5, 3, 52, 0, 0, 0), (50, .iconst 0, 1, 0, 0, 0, 0), (51, .ireturn, 1, 0, 1, 0, 0), (52, .aload_n 0, 1, 0, 0, 0, 0), (53, .getfield 15, 3, 1, 1, 195, 0), (56, .iload_n 2, 1, 2, 0, 0, 0), (57, .invokevirtual 48, 3, 67, 1, 505, 0), (60, .ifCond .eq 5, 3, 65, 0, 0, 0), (63, .iconst 1, 1, 0, 0, 0, 1), (64, .ireturn, 1, 0, 1, 0, 0), (65, .iconst 0, 1, 0, 0, 0, 0), (66, .istore_n 3, 1, 3, 0, 0, 0), (67, .iload_n 3, 1, 3, 0, 0, 0), (68, .bipush 12, 2, 0, 0, 0, 12), (70, .if_icmp .ge 61, 3, 131, 0, 0, 0), (73, .iload_n 2, 1, 2, 0, 0, 0), (74, .iconst (-1), 1, 0, 0, 0, (-1)), (75, .if_icmp .eq 56, 3, 131, 0, 0, 0), (78, .iconst 0, 1, 0, 0, 0, 0), (79, .istore 4, 2, 4, 0, 0, 0), (81, .iload 4, 2, 4, 0, 0, 0), (83, .aload_n 0, 1, 0, 0, 0, 0), (84, .getfield 15, 3, 1, 1, 195, 0), (87, .iload_n 2, 1, 2, 0, 0, 0), (88, .invokevirtual 89, 3, 66, 1, 654, 0), (91, .if_icmp .ge 25, 3, 116, 0, 0, 0), (94, .aload_n 0, 1, 0, 0, 0, 0), (95, .getfield 15, 3, 1, 1, 195, 0), (98, .iload_n 2, 1, 2, 0, 0, 0), (99, .iload 4, 2, 4, 0, 0, 0), (101, .invokevirtual 74, 3, 65, 2, 528, 0), (104, .iconst 3, 1, 0, 0, 0, 3), (105, .if_icmp .eq 5, 3, 110, 0, 0, 0), (108, .iconst 0, 1, 0, 0, 0, 0), (109, .ireturn, 1, 0, 1, 0, 0), (110, .iinc 4 1, 3, 4, 0, 0, 1), (113, .goto (-32), 3, 81, 0, 0, 0), (116, .aload_n 0, 1, 0, 0, 0, 0), (117, .getfield 15, 3, 1, 1, 195, 0), (120, .iload_n 2, 1, 2, 0, 0, 0), (121, .invokevirtual 71, 3, 64, 1, 529, 0), (124, .istore_n 2, 1, 2, 0, 0, 0), (125, .iinc 3 1, 3, 3, 0, 0, 1), (128, .goto (-61), 3, 67, 0, 0, 0), (131, .iconst 1, 1, 0, 0, 0, 1), (132, .ireturn, 1, 0, 1, 0, 0)]
/-- TypeForms2$Order.ask(III)I -/
def kC_25 : List (Nat × ai_I) := [(0, .iload_n 3, 1, 3, 0, 0, 0), (1, .iconst 5, 1, 0, 0, 0, 5), (2, .if_icmp .lt 5, 3, 7, 0, 0, 0), (5, .iconst 0, 1, 0, 0, 0, 0), (6, .ireturn, 1, 0, 0, 0, 0), (7, .iload_n 1, 1, 1, 0, 0, 0), (8, .iload_n 2, 1, 2, 0, 0, 0), (9, .if_icmp .ne 5, 3, 14, 0, 0, 0), (12, .iconst 1, 1, 0, 0, 0, 1), (13, .ireturn, 1, 0, 0, 0, 0), (14, .aload_n 0, 1, 0, 0, 0, 0), (15, .getfield 15, 3, 2, 1, 208, 0), (18, .iload_n 1, 1, 1, 0, 0, 0), (19, .invokevirtual 23, 3, 60, 1, 545, 0), (22, .istore 4, 2, 4, 0, 0, 0), (24, .aload_n 0, 1, 0, 0, 0, 0), (25, .getfield 15, 3, 2, 1, 208, 0), (28, .iload_n 2, 1, 2, 0, 0, 0), (29, .invokevirtual 23, 3, 60, 1, 545, 0), (32, .istore 5, 2, 5, 0, 0, 0), (34, .iload 4, 2, 4, 0, 0, 0), (36, .ifCond .ne 22, 3, 58, 0, 0, 0), (39, .iload 5, 2, 5, 0, 0, 0), (41, .ifCond .ne 17, 3, 58, 0, 0, 0), (44, .iload_n 1, 1, 1, 0, 0, 0), (45, .iload_n 2, 1, 2, 0, 0, 0), (46, .invokestatic 29, 3, 26, 2, 546, 0), (49, .ifCond .eq 7, 3, 56, 0, 0, 0), (52, .iconst 1, 1, 0, 0, 0, 1), (53, .goto 4, 3, 57, 0, 0, 0), (56, .iconst 0, 1, 0, 0, 0, 0), (57, .ireturn, 1, 0, 0, 0, 0), (58, .iload 4, 2, 4, 0, 0, 0), (60, .iconst 1, 1, 0, 0, 0, 1), (61, .if_icmp .le 9, 3, 70, 0, 0, 0), (64, .iload 5, 2, 5, 0, 0, 0), (66, .iconst 2, 1, 0, 0, 0, 2), (67, .if_icmp .gt 5, 3, 72, 0, 0, 0), (70, .iconst 0, 1, 0, 0, 0, 0), (71, .ireturn, 1, 0, 0, 0, 0), (72, .iload 4, 2, 4, 0, 0, 0), (74, .iconst 2, 1, 0, 0, 0, 2), (75, .if_icmp .eq 9, 3, 84, 0, 0, 0), (78, .iload_n 2, 1, 2, 0, 0, 0), (79, .bipush 10, 2, 0, 0, 0, 10), (81, .if_icmp .ne 5, 3, 86, 0, 0, 0), (84, .iconst 1, 1, 0, 0, 0, 1), (85, .ireturn, 1, 0, 0, 0, 0), (86, .iload 4, 2, 4, 0, 0, 0), (88, .iconst 3, 1, 0, 0, 0, 3), (89, .if_icmp .ne 11, 3, 100, 0, 0, 0), (92, .aload_n 0, 1, 0, 0, 0, 0), (93, .iload_n 1, 1, 1, 0, 0, 0), (94, .iload_n 2, 1, 2, 0, 0, 0), (95, .iload_n 3, 1, 3, 0, 0, 0), (96, .invokevirtual 33, 3, 27, 3, 549, 0), (99, .ireturn, 1, 0, 0, 0, 0), (100, .iload 4, 2, 4, 0, 0, 0), (102, .iconst 4, 1, 0, 0, 0, 4), (103, .if_icmp .ne 31, 3, 134, 0, 0, 0), (106, .iload 5, 2, 5, 0, 0, 0), (108, .iconst 4, 1, 0, 0, 0, 4), (109, .if_icmp .ne 25, 3, 134, 0, 0, 0), (112, .aload_n 0, 1, 0, 0, 0, 0), (113, .aload_n 0, 1, 0, 0, 0, 0), (114, .getfield 15, 3, 2, 1, 208, 0), (117, .iload_n 1, 1, 1, 0, 0, 0), (118, .invokevirtual 37, 3, 63, 1, 558, 0), (121, .aload_n 0, 1, 0, 0, 0, 0), (122, .getfield 15, 3, 2, 1, 208, 0), (125, .iload_n 2, 1, 2, 0, 0, 0), (126, .invokevirtual 37, 3, 63, 1, 558, 0), (129, .iload_n 3, 1, 3, 0, 0, 0), (130, .invokevirtual 40, 3, 28, 3, 559, 0), (133, .ireturn, 1, 0, 0, 0, 0), (134, .iload 4, 2, 4, 0, 0, 0), (136, .iconst 5, 1, 0, 0, 0, 5), (137, .if_icmp .ne 19, 3, 156, 0, 0, 0), (140, .iload 5, 2, 5, 0, 0, 0), (142, .iconst 5, 1, 0, 0, 0, 5), (143, .if_icmp .ne 13, 3, 156, 0, 0, 0), (146, .aload_n 0, 1, 0, 0, 0, 0), (147, .iload_n 1, 1, 1, 0, 0, 0), (148, .iload_n 2, 1, 2, 0, 0, 0), (149, .iload_n 3, 1, 3, 0, 0, 0), (150, .invokevirtual 43, 3, 29, 3, 563, 0), (153, .goto 4, 3, 157, 0, 0, 0), (156, .iconst 0, 1, 0, 0, 0, 0), (157, .ireturn, 1, 0, 0, 0, 0)]
/-- TypeForms2$Order.isNarrower(II)Z -/
def kC_26 : List (Nat × ai_I) := [(0, .iload_n 0, 1, 0, 0, 0, 0), (1, .iconst 3, 1, 0, 0, 0, 3), (2, .if_icmp .eq 8, 3, 10, 0, 0, 0), (5, .iload_n 1, 1, 1, 0, 0, 0), (6, .iconst 3, 1, 0, 0, 0, 3), (7, .if_icmp .ne 19, 3, 26, 0, 0, 0), (10, .iload_n 0, 1, 0, 0, 0, 0), (11, .iconst 3, 1, 0, 0, 0, 3), (12, .if_icmp .ne 12, 3, 24, 0, 0, 0), (15, .iload_n 1, 1, 1, 0, 0, 0), (16, .iconst 4, 1, 0, 0, 0, 4), (17, .if_icmp .lt 7, 3, 24, 0, 0, 0), (20, .iconst 1, 1, 0, 0, 0, 1), (21, .goto 4, 3, 25, 0, 0, 0), (24, .iconst 0, 1, 0, 0, 0, 0), (25, .ireturn, 1, 0, 1, 0, 0), (26, .iload_n 0, 1, 0, 0, 0, 0), (27, .iconst 1, 1, 0, 0, 0, 1), (28, .if_icmp .lt 12, 3, 40, 0, 0, 0), (31, .iload_n 0, 1, 0, 0, 0, 0), (32, .iload_n 1, 1, 1, 0, 0, 0), (33, .if_icmp .ge 7, 3, 40, 0, 0, 0), (36, .iconst 1, 1, 0, 0, 0, 1), (37, .goto 4, 3, 41, 0, 0, 0), (40, .iconst 0, 1, 0, 0, 0, 0), (41, .ireturn, 1, 0, 1, 0, 0)]
/-- TypeForms2$Order.askBounds(III)I -/
def kC_27 : List (Nat × ai_I) := [(0, .aload_n 0, 1, 0, 0, 0, 0), (1, .getfield 15, 3, 2, 1, 208, 0), (4, .iload_n 1, 1, 1, 0, 0, 0), (5, .invokevirtual 46, 3, 61, 1, 553, 0), (8, .istore 4, 2, 4, 0, 0, 0), (10, .aload_n 0, 1, 0, 0, 0, 0), (11, .getfield 15, 3, 2, 1, 208, 0), (14, .iload_n 1, 1, 1, 0, 0, 0), (15, .invokevirtual 49, 3, 62, 1, 554, 0), (18, .istore 5, 2, 5, 0, 0, 0), (20, .iconst 0, 1, 0, 0, 0, 0), (21, .istore 6, 2, 6, 0, 0, 0), (23, .iload 6, 2, 6, 0, 0, 0), (25, .aload_n 0, 1, 0, 0, 0, 0), (26, .getfield 9, 3, 2, 0, 207, 0), (29, .iload 4, 2, 4, 0, 0, 0), (31, .iload 5, 2, 5, 0, 0, 0), (33, .invokevirtual 52, 3, 10, 2, 555, 0), (36, .if_icmp .ge 40, 3, 76, 0, 0, 0), (39, .aload_n 0, 1, 0, 0, 0, 0), (40, .aload_n 0, 1, 0, 0, 0, 0), (41, .getfield 9, 3, 2, 0, 207, 0), (44, .iload 4, 2, 4, 0, 0, 0), (46, .iload 5, 2, 5, 0, 0, 0), (48, .iload 6, 2, 6, 0, 0, 0), (50, .invokevirtual 58, 3, 11, 3, 556, 0), (53, .iload_n 2, 1, 2, 0, 0, 0), (54, .iload_n 3, 1, 3, 0, 0, 0), (55, .iconst 1, 1, 0, 0, 0, 1), (56, .iadd, 1, 0, 0, 0, 0), (57, .invokevirtual 61, 3, 25, 3, 557, 0), (60, .istore 7, 2, 7, 0, 0, 0), (62, .iload 7, 2, 7, 0, 0, 0), (64, .ifCond .eq 6, 3, 70, 0, 0, 0), (67, .iload 7, 2, 7, 0, 0, 0), (69, .ireturn, 1, 0, 0, 0, 0), (70, .iinc 6 1, 3, 6, 0, 0, 1), (73, .goto (-50), 3, 23, 0, 0, 0), (76, .iconst 0, 1, 0, 0, 0, 0), (77, .ireturn, 1, 0, 0, 0, 0)]
/-- TypeForms2$Order.askElements(III)I -/
def kC_28 : List (Nat × ai_I) := [(0, .aload_n 0, 1, 0, 0, 0, 0), (1, .getfield 15, 3, 2, 1, 208, 0), (4, .iload_n 1, 1, 1, 0, 0, 0), (5, .invokevirtual 23, 3, 60, 1, 545, 0), (8, .iconst 2, 1, 0, 0, 0, 2), (9, .if_icmp .le 15, 3, 24, 0, 0, 0), (12, .aload_n 0, 1, 0, 0, 0, 0), (13, .getfield 15, 3, 2, 1, 208, 0), (16, .iload_n 2, 1, 2, 0, 0, 0), (17, .invokevirtual 23, 3, 60, 1, 545, 0), (20, .iconst 2, 1, 0, 0, 0, 2), (21, .if_icmp .gt 7, 3, 28, 0, 0, 0), (24, .iconst 1, 1, 0, 0, 0, 1), (25, .goto 4, 3, 29, 0, 0, 0), (28, .iconst 0, 1, 0, 0, 0, 0), (29, .istore 4, 2, 4, 0, 0, 0), (31, .iload 4, 2, 4, 0, 0, 0), (33, .ifCond .eq 7, 3, 40, 0, 0, 0), (36, .iconst 0, 1, 0, 0, 0, 0), (37, .goto 12, 3, 49, 0, 0, 0), (40, .aload_n 0, 1, 0, 0, 0, 0), (41, .iload_n 1, 1, 1, 0, 0, 0), (42, .iload_n 2, 1, 2, 0, 0, 0), (43, .iload_n 3, 1, 3, 0, 0, 0), (44, .iconst 1, 1, 0, 0, 0, 1), (45, .iadd, 1, 0, 0, 0, 0), (46, .invokevirtual 61, 3, 25, 3, 557, 0), (49, .ireturn, 1, 0, 0, 0, 0)]
/-- TypeForms2$Order.askClasses(III)I -/
def kC_29 : List (Nat × ai_I) := [(0, .aload_n 0, 1, 0, 0, 0, 0), (1, .getfield 15, 3, 2, 1, 208, 0), (4, .invokevirtual 64, 3, 71, 0, 567, 0), (7, .istore 4, 2, 4, 0, 0, 0), (9, .aload_n 0, 1, 0, 0, 0, 0), (10, .getfield 19, 3, 2, 2, 209, 0), (13, .iload_n 1, 1, 1, 0, 0, 0), (14, .aload_n 0, 1, 0, 0, 0, 0), (15, .getfield 15, 3, 2, 1, 208, 0), (18, .iload_n 2, 1, 2, 0, 0, 0), (19, .invokevirtual 46, 3, 61, 1, 553, 0), (22, .invokevirtual 68, 3, 23, 2, 568, 0), (25, .istore 5, 2, 5, 0, 0, 0), (27, .iload 5, 2, 5, 0, 0, 0), (29, .iconst (-1), 1, 0, 0, 0, (-1)), (30, .if_icmp .ne 7, 3, 37, 0, 0, 0), (33, .iconst 0, 1, 0, 0, 0, 0), (34, .goto 11, 3, 45, 0, 0, 0), (37, .aload_n 0, 1, 0, 0, 0, 0), (38, .iload 5, 2, 5, 0, 0, 0), (40, .iload_n 2, 1, 2, 0, 0, 0), (41, .iload_n 3, 1, 3, 0, 0, 0), (42, .invokevirtual 73, 3, 30, 3, 576, 0), (45, .istore 6, 2, 6, 0, 0, 0), (47, .aload_n 0, 1, 0, 0, 0, 0), (48, .getfield 15, 3, 2, 1, 208, 0), (51, .iload 4, 2, 4, 0, 0, 0), (53, .invokevirtual 76, 3, 72, 1, 593, 0), (56, .iload 6, 2, 6, 0, 0, 0), (58, .ireturn, 1, 0, 0, 0, 0)]
/-- TypeForms2$Order.askSame(III)I -/
def kC_30 : List (Nat × ai_I) := [(0, .aload_n 0, 1, 0, 0, 0, 0), (1, .getfield 15, 3, 2, 1, 208, 0), (4, .iload_n 2, 1, 2, 0, 0, 0), (5, .invokevirtual 80, 3, 67, 1, 580, 0), (8, .ifCond .eq 5, 3, 13, 0, 0, 0), (11, .iconst 1, 1, 0, 0, 0, 1), (12, .ireturn, 1, 0, 0, 0, 0), (13, .aload_n 0, 1, 0, 0, 0, 0), (14, .getfield 15, 3, 2, 1, 208, 0), (17, .iload_n 1, 1, 1, 0, 0, 0), (18, .invokevirtual 80, 3, 67, 1, 580, 0), (21, .ifCond .eq 5, 3, 26, 0, 0, 0), (24, .iconst 2, 1, 0, 0, 0, 2), (25, .ireturn, 1, 0, 0, 0, 0), (26, .aload_n 0, 1, 0, 0, 0, 0), (27, .getfield 15, 3, 2, 1, 208, 0), (30, .iload_n 1, 1, 1, 0, 0, 0), (31, .invokevirtual 84, 3, 64, 1, 581, 0), (34, .aload_n 0, 1, 0, 0, 0, 0), (35, .getfield 15, 3, 2, 1, 208, 0), (38, .iload_n 2, 1, 2, 0, 0, 0), (39, .invokevirtual 84, 3, 64, 1, 581, 0), (42, .if_icmp .eq 5, 3, 47, 0, 0, 0), (45, .iconst 0, 1, 0, 0, 0, 0), (46, .ireturn, 1, 0, 0, 0, 0), (47, .iconst 1, 1, 0, 0, 0, 1), (48, .istore 4, 2, 4, 0, 0, 0), (50, .iconst 0, 1, 0, 0, 0, 0), (51, .istore 5, 2, 5, 0, 0, 0), (53, .iload 5, 2, 5, 0, 0, 0), (55, .aload_n 0, 1, 0, 0, 0, 0), (56, .getfield 15, 3, 2, 1, 208, 0), (59, .iload_n 2, 1, 2, 0, 0, 0), (60, .invokevirtual 87, 3, 66, 1, 582, 0), (63, .if_icmp .ge 52, 3, 115, 0, 0, 0), (66, .aload_n 0, 1, 0, 0, 0, 0), (67, .aload_n 0, 1, 0, 0, 0, 0), (68, .getfield 15, 3, 2, 1, 208, 0), (71, .iload_n 1, 1, 1, 0, 0, 0), (72, .iload 5, 2, 5, 0, 0, 0), (74, .invokevirtual 90, 3, 65, 2, 583, 0), (77, .aload_n 0, 1, 0, 0, 0, 0), (78, .getfield 15, 3, 2, 1, 208, 0), (81, .iload_n 2, 1, 2, 0, 0, 0), (82, .iload 5, 2, 5, 0, 0, 0), (84, .invokevirtual 90, 3, 65, 2, 583, 0), (87, .iload_n 3, 1, 3, 0, 0, 0), (88, .invokevirtual 93, 3, 31, 3, 584, 0), (91, .istore 6, 2, 6, 0, 0, 0), (93, .iload 6, 2, 6, 0, 0, 0), (95, .ifCond .ne 5, 3, 100, 0, 0, 0), (98, .iconst 0, 1, 0, 0, 0, 0), (99, .ireturn, 1, 0, 0, 0, 0), (100, .iload 4, 2, 4, 0, 0, 0), (102, .iload 6, 2, 6, 0, 0, 0), (104, .invokestatic 96, 3, 1002, 2, 590, 0), (107, .istore 4, 2, 4, 0, 0, 0), (109, .iinc 5 1, 3, 5, 0, 0, 1), (112, .goto (-59), 3, 53, 0, 0, 0), (115, .iload 4, 2, 4, 0, 0, 0), (117, .ireturn, 1, 0, 0, 0, 0)]
/-- TypeForms2$Order.askIn(III)I -/
def kC_31 : List (Nat × ai_I) := [(0, .iload_n 2, 1, 2, 0, 0, 0), (1, .invokestatic 101, 3, 97, 1, 588, 0), (4, .istore 4, 2, 4, 0, 0, 0), (6, .iload 4, 2, 4, 0, 0, 0), (8, .iconst 3, 1, 0, 0, 0, 3), (9, .if_icmp .ne 5, 3, 14, 0, 0, 0), (12, .iconst 1, 1, 0, 0, 0, 1), (13, .ireturn, 1, 0, 0, 0, 0), (14, .iload 4, 2, 4, 0, 0, 0), (16, .ifCond .ne 14, 3, 30, 0, 0, 0), (19, .iload_n 1, 1, 1, 0, 0, 0), (20, .iload_n 2, 1, 2, 0, 0, 0), (21, .if_icmp .ne 7, 3, 28, 0, 0, 0), (24, .iconst 1, 1, 0, 0, 0, 1), (25, .goto 4, 3, 29, 0, 0, 0), (28, .iconst 0, 1, 0, 0, 0, 0), (29, .ireturn, 1, 0, 0, 0, 0), (30, .iload_n 1, 1, 1, 0, 0, 0), (31, .invokestatic 101, 3, 97, 1, 588, 0), (34, .ifCond .eq 14, 3, 48, 0, 0, 0), (37, .iload_n 1, 1, 1, 0, 0, 0), (38, .invokestatic 101, 3, 97, 1, 588, 0), (41, .iload 4, 2, 4, 0, 0, 0), (43, .if_icmp .eq 5, 3, 48, 0, 0, 0), (46, .iconst 0, 1, 0, 0, 0, 0), (47, .ireturn, 1, 0, 0, 0, 0), (48, .iload 4, 2, 4, 0, 0, 0), (50, .iconst 1, 1, 0, 0, 0, 1), (51, .if_icmp .ne 21, 3, 72, 0, 0, 0), (54, .aload_n 0, 1, 0, 0, 0, 0), (55, .iload_n 1, 1, 1, 0, 0, 0), (56, .invokestatic 104, 3, 98, 1, 589, 0), (59, .iload_n 2, 1, 2, 0, 0, 0), (60, .invokestatic 104, 3, 98, 1, 589, 0), (63, .iload_n 3, 1, 3, 0, 0, 0), (64, .iconst 1, 1, 0, 0, 0, 1), (65, .iadd, 1, 0, 0, 0, 0), (66, .invokevirtual 61, 3, 25, 3, 557, 0), (69, .goto 18, 3, 87, 0, 0, 0), (72, .aload_n 0, 1, 0, 0, 0, 0), (73, .iload_n 2, 1, 2, 0, 0, 0), (74, .invokestatic 104, 3, 98, 1, 589, 0), (77, .iload_n 1, 1, 1, 0, 0, 0), (78, .invokestatic 104, 3, 98, 1, 589, 0), (81, .iload_n 3, 1, 3, 0, 0, 0), (82, .iconst 1, 1, 0, 0, 0, 1), (83, .iadd, 1, 0, 0, 0, 0), (84, .invokevirtual 61, 3, 25, 3, 557, 0), (87, .ireturn, 1, 0, 0, 0, 0)]
/-- TypeForms2$Printer.length()I -/
def kC_32 : List (Nat × ai_I) := [(0, .aload_n 0, 1, 0, 0, 0, 0), (1, .getfield 22, 3, 3, 3, 273, 0), (4, .ireturn, 1, 0, 0, 0, 0)]
/-- TypeForms2$Printer.byteAt(I)I -/
def kC_33 : List (Nat × ai_I) := [(0, .iload_n 1, 1, 1, 0, 0, 0), (1, .ifCond .lt 27, 3, 28, 0, 0, 0), (4, .iload_n 1, 1, 1, 0, 0, 0), (5, .aload_n 0, 1, 0, 0, 0, 0), (6, .getfield 22, 3, 3, 3, 273, 0), (9, .if_icmp .ge 19, 3, 28, 0, 0, 0), (12, .iload_n 1, 1, 1, 0, 0, 0), (13, .sipush 200, 3, 0, 0, 0, 200), (16, .if_icmp .ge 12, 3, 28, 0, 0, 0), (19, .aload_n 0, 1, 0, 0, 0, 0), (20, .getfield 9, 3, 3, 1, 271, 0), (23, .iload_n 1, 1, 1, 0, 0, 0), (24, .iaload, 1, 0, 0, 0, 0), (25, .goto 4, 3, 29, 0, 0, 0), (28, .iconst (-1), 1, 0, 0, 0, (-1)), (29, .ireturn, 1, 0, 0, 0, 0)]
/-- TypeForms2$Printer.put(I)I -/
def kC_34 : List (Nat × ai_I) := [(0, .aload_n 0, 1, 0, 0, 0, 0), (1, .iconst 0, 1, 0, 0, 0, 0), (2, .putfield 26, 3, 3, 4, 274, 0), (5, .aload_n 0, 1, 0, 0, 0, 0), (6, .iload_n 1, 1, 1, 0, 0, 0), (7, .iconst 0, 1, 0, 0, 0, 0), (8, .invokevirtual 29, 3, 36, 2, 730, 0), (11, .aload_n 0, 1, 0, 0, 0, 0), (12, .getfield 26, 3, 3, 4, 274, 0), (15, .sipush 200, 3, 0, 0, 0, 200), (18, .if_icmp .le 6, 3, 24, 0, 0, 0), (21, .bipush (-5), 2, 0, 0, 0, (-5)), (23, .ireturn, 1, 0, 0, 0, 0), (24, .aload_n 0, 1, 0, 0, 0, 0), (25, .getfield 15, 3, 3, 2, 272, 0), (28, .iconst 0, 1, 0, 0, 0, 0), (29, .aload_n 0, 1, 0, 0, 0, 0), (30, .getfield 9, 3, 3, 1, 271, 0), (33, .iconst 0, 1, 0, 0, 0, 0), (34, .aload_n 0, 1, 0, 0, 0, 0), (35, .getfield 26, 3, 3, 4, 274, 0), (38, .invokestatic 33, 3, 1003, 5, 751, 0), (41, .aload_n 0, 1, 0, 0, 0, 0), (42, .aload_n 0, 1, 0, 0, 0, 0), (43, .getfield 26, 3, 3, 4, 274, 0), (46, .putfield 22, 3, 3, 3, 273, 0), (49, .aload_n 0, 1, 0, 0, 0, 0), (50, .getfield 22, 3, 3, 3, 273, 0), (53, .ireturn, 1, 0, 0, 0, 0)]
/-- TypeForms2$Printer.write(I)V -/
def kC_35 : List (Nat × ai_I) := [(0, .aload_n 0, 1, 0, 0, 0, 0), (1, .getfield 26, 3, 3, 4, 274, 0), (4, .sipush 200, 3, 0, 0, 0, 200), (7, .if_icmp .ge 13, 3, 20, 0, 0, 0), (10, .aload_n 0, 1, 0, 0, 0, 0), (11, .getfield 15, 3, 3, 2, 272, 0), (14, .aload_n 0, 1, 0, 0, 0, 0), (15, .getfield 26, 3, 3, 4, 274, 0), (18, .iload_n 1, 1, 1, 0, 0, 0), (19, .iastore, 1, 0, 0, 0, 0), (20, .aload_n 0, 1, 0, 0, 0, 0), (21, .dup, 1, 0, 0, 0, 0), (22, .getfield 26, 3, 3, 4, 274, 0), (25, .iconst 1, 1, 0, 0, 0, 1), (26, .iadd, 1, 0, 0, 0, 0), (27, .putfield 26, 3, 3, 4, 274, 0), (30, .return_, 1, 0, 0, 0, 0)]
/-- TypeForms2$Printer.writeType(II)V -/
def kC_36 : List (Nat × ai_I) := [(0, .aload_n 0, 1, 0, 0, 0, 0), (1, .getfield 18, 3, 3, 0, 270, 0), (4, .iload_n 1, 1, 1, 0, 0, 0), (5, .invokevirtual 39, 3, 60, 1, 734, 0), (8, .istore_n 3, 1, 3, 0, 0, 0), (9, .iload_n 2, 1, 2, 0, 0, 0), (10, .bipush 64, 2, 0, 0, 0, 64), (12, .if_icmp .le 4, 3, 16, 0, 0, 0), (15, .return_, 1, 0, 0, 0, 0), (16, .iload_n 3, 1, 3, 0, 0, 0), (17, .iconst 2, 1, 0, 0, 0, 2), (18, .if_icmp .gt 14, 3, 32, 0, 0, 0), (21, .aload_n 0, 1, 0, 0, 0, 0), (22, .bipush 48, 2, 0, 0, 0, 48), (24, .iload_n 1, 1, 1, 0, 0, 0), (25, .iadd, 1, 0, 0, 0, 0), (26, .invokevirtual 45, 3, 35, 1, 735, 0), (29, .goto 130, 3, 159, 0, 0, 0), (32, .iload_n 3, 1, 3, 0, 0, 0), (33, .iconst 3, 1, 0, 0, 0, 3), (34, .if_icmp .ne 36, 3, 70, 0, 0, 0), (37, .aload_n 0, 1, 0, 0, 0, 0), (38, .bipush 97, 2, 0, 0, 0, 97), (40, .aload_n 0, 1, 0, 0, 0, 0), (41, .getfield 18, 3, 3, 0, 270, 0), (44, .iload_n 1, 1, 1, 0, 0, 0), (45, .invokevirtual 49, 3, 61, 1, 739, 0), (48, .iadd, 1, 0, 0, 0, 0), (49, .invokevirtual 45, 3, 35, 1, 735, 0), (52, .aload_n 0, 1, 0, 0, 0, 0), (53, .bipush 48, 2, 0, 0, 0, 48), (55, .aload_n 0, 1, 0, 0, 0, 0), (56, .getfield 18, 3, 3, 0, 270, 0), (59, .iload_n 1, 1, 1, 0, 0, 0), (60, .invokevirtual 52, 3, 62, 1, 740, 0), (63, .iadd, 1, 0, 0, 0, 0), (64, .invokevirtual 45, 3, 35, 1, 735, 0), (67, .goto 92, 3, 159, 0, 0, 0), (70, .iload_n 3, 1, 3, 0, 0, 0), (71, .iconst 4, 1, 0, 0, 0, 4), (72, .if_icmp .ne 33, 3, 105, 0, 0, 0), (75, .aload_n 0, 1, 0, 0, 0, 0), (76, .aload_n 0, 1, 0, 0, 0, 0), (77, .getfield 18, 3, 3, 0, 270, 0), (80, .iload_n 1, 1, 1, 0, 0, 0), (81, .invokevirtual 55, 3, 63, 1, 741, 0), (84, .iload_n 2, 1, 2, 0, 0, 0), (85, .iconst 1, 1, 0, 0, 0, 1), (86, .iadd, 1, 0, 0, 0, 0), (87, .invokevirtual 29, 3, 36, 2, 730, 0), (90, .aload_n 0, 1, 0, 0, 0, 0), (91, .bipush 91, 2, 0, 0, 0, 91), (93, .invokevirtual 45, 3, 35, 1, 735, 0), (96, .aload_n 0, 1, 0, 0, 0, 0), (97, .bipush 93, 2, 0, 0, 0, 93), (99, .invokevirtual 45, 3, 35, 1, 735, 0), (102, .goto 57, 3, 159, 0, 0, 0), (105, .aload_n 0, 1, 0, 0, 0, 0), (106, .getfield 18, 3, 3, 0, 270, 0), (109, .iload_n 1, 1, 1, 0, 0, 0), (110, .invokevirtual 58, 3, 64, 1, 742, 0), (113, .iconst (-1), 1, 0, 0, 0, (-1)), (114, .if_icmp .eq 24, 3, 138, 0, 0, 0), (117, .aload_n 0, 1, 0, 0, 0, 0), (118, .aload_n 0, 1, 0, 0, 0, 0), (119, .getfield 18, 3, 3, 0, 270, 0), (122, .iload_n 1, 1, 1, 0, 0, 0), (123, .invokevirtual 58, 3, 64, 1, 742, 0), (126, .iload_n 2, 1, 2, 0, 0, 0), (127, .iconst 1, 1, 0, 0, 0, 1), (128, .iadd, 1, 0, 0, 0, 0), (129, .invokevirtual 29, 3, 36, 2, 730, 0), (132, .aload_n 0, 1, 0, 0, 0, 0), (133, .bipush 46, 2, 0, 0, 0, 46), (135, .invokevirtual 45, 3, 35, 1, 735, 0), (138, .aload_n 0, 1, 0, 0, 0, 0), (139, .bipush 65, 2, 0, 0, 0, 65), (141, .aload_n 0, 1, 0, 0, 0, 0), (142, .getfield 18, 3, 3, 0, 270, 0), (145, .iload_n 1, 1, 1, 0, 0, 0), (146, .invokevirtual 49, 3, 61, 1, 739, 0), (149, .iadd, 1, 0, 0, 0, 0), (150, .invokevirtual 45, 3, 35, 1, 735, 0), (153, .aload_n 0, 1, 0, 0, 0, 0), (154, .iload_n 1, 1, 1, 0, 0, 0), (155, .iload_n 2, 1, 2, 0, 0, 0), (156, .invokevirtual 61, 3, 37, 2, 743, 0), (159, .return_, 1, 0, 0, 0, 0)]
/-- TypeForms2$Printer.writeArguments(II)V -/
def kC_37 : List (Nat × ai_I) := [(0, .aload_n 0, 1, 0, 0, 0, 0), (1, .getfield 18, 3, 3, 0, 270, 0), (4, .iload_n 1, 1, 1, 0, 0, 0), (5, .invokevirtual 64, 3, 66, 1, 747, 0), (8, .istore_n 3, 1, 3, 0, 0, 0), (9, .iconst 0, 1, 0, 0, 0, 0), (10, .istore 4, 2, 4, 0, 0, 0), (12, .iload 4, 2, 4, 0, 0, 0), (14, .iload_n 3, 1, 3, 0, 0, 0), (15, .if_icmp .ge 95, 3, 110, 0, 0, 0), (18, .aload_n 0, 1, 0, 0, 0, 0), (19, .iload 4, 2, 4, 0, 0, 0), (21, .ifCond .ne 8, 3, 29, 0, 0, 0), (24, .bipush 60, 2, 0, 0, 0, 60), (26, .goto 5, 3, 31, 0, 0, 0), (29, .bipush 44, 2, 0, 0, 0, 44), (31, .invokevirtual 45, 3, 35, 1, 735, 0), (34, .aload_n 0, 1, 0, 0, 0, 0), (35, .getfield 18, 3, 3, 0, 270, 0), (38, .iload_n 1, 1, 1, 0, 0, 0), (39, .iload 4, 2, 4, 0, 0, 0), (41, .invokevirtual 67, 3, 65, 2, 748, 0), (44, .istore 5, 2, 5, 0, 0, 0), (46, .iload 5, 2, 5, 0, 0, 0), (48, .invokestatic 71, 3, 97, 1, 749, 0), (51, .istore 6, 2, 6, 0, 0, 0), (53, .iload 6, 2, 6, 0, 0, 0), (55, .ifCond .eq 31, 3, 86, 0, 0, 0), (58, .aload_n 0, 1, 0, 0, 0, 0), (59, .iload 6, 2, 6, 0, 0, 0), (61, .iconst 1, 1, 0, 0, 0, 1), (62, .if_icmp .ne 8, 3, 70, 0, 0, 0), (65, .bipush 43, 2, 0, 0, 0, 43), (67, .goto 16, 3, 83, 0, 0, 0), (70, .iload 6, 2, 6, 0, 0, 0), (72, .iconst 2, 1, 0, 0, 0, 2), (73, .if_icmp .ne 8, 3, 81, 0, 0, 0), (76, .bipush 45, 2, 0, 0, 0, 45), (78, .goto 5, 3, 83, 0, 0, 0), (81, .bipush 63, 2, 0, 0, 0, 63), (83, .invokevirtual 45, 3, 35, 1, 735, 0), (86, .iload 6, 2, 6, 0, 0, 0), (88, .iconst 3, 1, 0, 0, 0, 3), (89, .if_icmp .eq 15, 3, 104, 0, 0, 0), (92, .aload_n 0, 1, 0, 0, 0, 0), (93, .iload 5, 2, 5, 0, 0, 0), (95, .invokestatic 74, 3, 98, 1, 750, 0), (98, .iload_n 2, 1, 2, 0, 0, 0), (99, .iconst 1, 1, 0, 0, 0, 1), (100, .iadd, 1, 0, 0, 0, 0), (101, .invokevirtual 29, 3, 36, 2, 730, 0), (104, .iinc 4 1, 3, 4, 0, 0, 1), (107, .goto (-95), 3, 12, 0, 0, 0), (110, .iload_n 3, 1, 3, 0, 0, 0), (111, .ifCond .le 9, 3, 120, 0, 0, 0), (114, .aload_n 0, 1, 0, 0, 0, 0), (115, .bipush 62, 2, 0, 0, 0, 62), (117, .invokevirtual 45, 3, 35, 1, 735, 0), (120, .return_, 1, 0, 0, 0, 0)]
/-- TypeForms2$Reader.length()I -/
def kC_38 : List (Nat × ai_I) := [(0, .aload_n 0, 1, 0, 0, 0, 0), (1, .getfield 27, 3, 4, 4, 246, 0), (4, .ireturn, 1, 0, 0, 0, 0)]
/-- TypeForms2$Reader.take(IJ)I -/
def kC_39 : List (Nat × ai_I) := [(0, .aload_n 0, 1, 0, 0, 0, 0), (1, .getfield 27, 3, 4, 4, 246, 0), (4, .iload_n 1, 1, 1, 0, 0, 0), (5, .iadd, 1, 0, 0, 0, 0), (6, .bipush 100, 2, 0, 0, 0, 100), (8, .if_icmp .le 6, 3, 14, 0, 0, 0), (11, .bipush (-5), 2, 0, 0, 0, (-5)), (13, .ireturn, 1, 0, 0, 0, 0), (14, .iload_n 1, 1, 1, 0, 0, 0), (15, .iconst 1, 1, 0, 0, 0, 1), (16, .isub, 1, 0, 0, 0, 0), (17, .istore 4, 2, 4, 0, 0, 0), (19, .iload 4, 2, 4, 0, 0, 0), (21, .ifCond .lt 49, 3, 70, 0, 0, 0), (24, .aload_n 0, 1, 0, 0, 0, 0), (25, .getfield 27, 3, 4, 4, 246, 0), (28, .bipush 100, 2, 0, 0, 0, 100), (30, .if_icmp .ge 40, 3, 70, 0, 0, 0), (33, .aload_n 0, 1, 0, 0, 0, 0), (34, .getfield 9, 3, 4, 3, 245, 0), (37, .aload_n 0, 1, 0, 0, 0, 0), (38, .getfield 27, 3, 4, 4, 246, 0), (41, .lload_n 2, 1, 2, 0, 0, 0), (42, .bipush 8, 2, 0, 0, 0, 8), (44, .iload 4, 2, 4, 0, 0, 0), (46, .imul, 1, 0, 0, 0, 0), (47, .lushr, 1, 0, 0, 0, 0), (48, .ldc2_w 31, 3, 255, 0, 673, 0), (51, .land, 1, 0, 0, 0, 0), (52, .l2i, 1, 0, 0, 0, 0), (53, .iastore, 1, 0, 0, 0, 0), (54, .aload_n 0, 1, 0, 0, 0, 0), (55, .dup, 1, 0, 0, 0, 0), (56, .getfield 27, 3, 4, 4, 246, 0), (59, .iconst 1, 1, 0, 0, 0, 1), (60, .iadd, 1, 0, 0, 0, 0), (61, .putfield 27, 3, 4, 4, 246, 0), (64, .iinc 4 (-1), 3, 4, 0, 0, (-1)), (67, .goto (-48), 3, 19, 0, 0, 0), (70, .aload_n 0, 1, 0, 0, 0, 0), (71, .getfield 27, 3, 4, 4, 246, 0), (74, .ireturn, 1, 0, 0, 0, 0)]
/-- TypeForms2$Reader.start()V -/
def kC_40 : List (Nat × ai_I) := [(0, .aload_n 0, 1, 0, 0, 0, 0), (1, .iconst 0, 1, 0, 0, 0, 0), (2, .putfield 33, 3, 4, 5, 247, 0), (5, .aload_n 0, 1, 0, 0, 0, 0), (6, .iconst (-1), 1, 0, 0, 0, (-1)), (7, .putfield 36, 3, 4, 6, 248, 0), (10, .return_, 1, 0, 0, 0, 0)]
/-- TypeForms2$Reader.finish()I -/
def kC_41 : List (Nat × ai_I) := [(0, .aload_n 0, 1, 0, 0, 0, 0), (1, .getfield 36, 3, 4, 6, 248, 0), (4, .iconst (-1), 1, 0, 0, 0, (-1)), (5, .if_icmp .ne 22, 3, 27, 0, 0, 0), (8, .aload_n 0, 1, 0, 0, 0, 0), (9, .getfield 33, 3, 4, 5, 247, 0), (12, .aload_n 0, 1, 0, 0, 0, 0), (13, .getfield 27, 3, 4, 4, 246, 0), (16, .if_icmp .ge 11, 3, 27, 0, 0, 0), (19, .aload_n 0, 1, 0, 0, 0, 0), (20, .aload_n 0, 1, 0, 0, 0, 0), (21, .getfield 33, 3, 4, 5, 247, 0), (24, .putfield 36, 3, 4, 6, 248, 0), (27, .aload_n 0, 1, 0, 0, 0, 0), (28, .iconst 0, 1, 0, 0, 0, 0), (29, .putfield 27, 3, 4, 4, 246, 0), (32, .aload_n 0, 1, 0, 0, 0, 0), (33, .getfield 36, 3, 4, 6, 248, 0), (36, .ireturn, 1, 0, 0, 0, 0)]
/-- TypeForms2$Reader.next()I -/
def kC_42 : List (Nat × ai_I) := [(0, .aload_n 0, 1, 0, 0, 0, 0), (1, .getfield 33, 3, 4, 5, 247, 0), (4, .ifCond .lt 35, 3, 39, 0, 0, 0), (7, .aload_n 0, 1, 0, 0, 0, 0), (8, .getfield 33, 3, 4, 5, 247, 0), (11, .aload_n 0, 1, 0, 0, 0, 0), (12, .getfield 27, 3, 4, 4, 246, 0), (15, .if_icmp .ge 24, 3, 39, 0, 0, 0), (18, .aload_n 0, 1, 0, 0, 0, 0), (19, .getfield 33, 3, 4, 5, 247, 0), (22, .bipush 100, 2, 0, 0, 0, 100), (24, .if_icmp .ge 15, 3, 39, 0, 0, 0), (27, .aload_n 0, 1, 0, 0, 0, 0), (28, .getfield 9, 3, 4, 3, 245, 0), (31, .aload_n 0, 1, 0, 0, 0, 0), (32, .getfield 33, 3, 4, 5, 247, 0), (35, .iaload, 1, 0, 0, 0, 0), (36, .goto 4, 3, 40, 0, 0, 0), (39, .iconst (-1), 1, 0, 0, 0, (-1)), (40, .ireturn, 1, 0, 0, 0, 0)]
/-- TypeForms2$Reader.faultAt(I)I -/
def kC_43 : List (Nat × ai_I) := [(0, .aload_n 0, 1, 0, 0, 0, 0), (1, .iload_n 1, 1, 1, 0, 0, 0), (2, .putfield 36, 3, 4, 6, 248, 0), (5, .iconst (-1), 1, 0, 0, 0, (-1)), (6, .ireturn, 1, 0, 0, 0, 0)]
/-- TypeForms2$Reader.typeText(I)I -/
def kC_44 : List (Nat × ai_I) := [(0, .aload_n 0, 1, 0, 0, 0, 0), (1, .iload_n 1, 1, 1, 0, 0, 0), (2, .invokevirtual 39, 3, 45, 1, 686, 0), (5, .istore_n 2, 1, 2, 0, 0, 0), (6, .iconst 0, 1, 0, 0, 0, 0), (7, .istore_n 3, 1, 3, 0, 0, 0), (8, .iload_n 3, 1, 3, 0, 0, 0), (9, .bipush 100, 2, 0, 0, 0, 100), (11, .if_icmp .ge 98, 3, 109, 0, 0, 0), (14, .aload_n 0, 1, 0, 0, 0, 0), (15, .getfield 36, 3, 4, 6, 248, 0), (18, .iconst (-1), 1, 0, 0, 0, (-1)), (19, .if_icmp .ne 90, 3, 109, 0, 0, 0), (22, .aload_n 0, 1, 0, 0, 0, 0), (23, .invokevirtual 43, 3, 42, 0, 690, 0), (26, .bipush 91, 2, 0, 0, 0, 91), (28, .if_icmp .ne 81, 3, 109, 0, 0, 0), (31, .aload_n 0, 1, 0, 0, 0, 0), (32, .getfield 19, 3, 4, 1, 243, 0), (35, .iload_n 2, 1, 2, 0, 0, 0), (36, .invokevirtual 47, 3, 70, 1, 717, 0), (39, .ifCond .ne 12, 3, 51, 0, 0, 0), (42, .aload_n 0, 1, 0, 0, 0, 0), (43, .aload_n 0, 1, 0, 0, 0, 0), (44, .getfield 33, 3, 4, 5, 247, 0), (47, .invokevirtual 53, 3, 43, 1, 699, 0), (50, .ireturn, 1, 0, 0, 0, 0), (51, .aload_n 0, 1, 0, 0, 0, 0), (52, .dup, 1, 0, 0, 0, 0), (53, .getfield 33, 3, 4, 5, 247, 0), (56, .iconst 1, 1, 0, 0, 0, 1), (57, .iadd, 1, 0, 0, 0, 0), (58, .putfield 33, 3, 4, 5, 247, 0), (61, .aload_n 0, 1, 0, 0, 0, 0), (62, .invokevirtual 43, 3, 42, 0, 690, 0), (65, .bipush 93, 2, 0, 0, 0, 93), (67, .if_icmp .eq 12, 3, 79, 0, 0, 0), (70, .aload_n 0, 1, 0, 0, 0, 0), (71, .aload_n 0, 1, 0, 0, 0, 0), (72, .getfield 33, 3, 4, 5, 247, 0), (75, .invokevirtual 53, 3, 43, 1, 699, 0), (78, .ireturn, 1, 0, 0, 0, 0), (79, .aload_n 0, 1, 0, 0, 0, 0), (80, .dup, 1, 0, 0, 0, 0), (81, .getfield 33, 3, 4, 5, 247, 0), (84, .iconst 1, 1, 0, 0, 0, 1), (85, .iadd, 1, 0, 0, 0, 0), (86, .putfield 33, 3, 4, 5, 247, 0), (89, .aload_n 0, 1, 0, 0, 0, 0), (90, .getfield 19, 3, 4, 1, 243, 0), (93, .iconst 4, 1, 0, 0, 0, 4), (94, .iconst (-1), 1, 0, 0, 0, (-1)), (95, .iload_n 2, 1, 2, 0, 0, 0), (96, .iconst (-1), 1, 0, 0, 0, (-1)), (97, .iconst (-1), 1, 0, 0, 0, (-1)), (98, .iconst (-1), 1, 0, 0, 0, (-1)), (99, .invokevirtual 56, 3, 74, 6, 716, 0), (102, .istore_n 2, 1, 2, 0, 0, 0), (103, .iinc 3 1, 3, 3, 0, 0, 1), (106, .goto (-98), 3, 8, 0, 0, 0), (109, .iload_n 2, 1, 2, 0, 0, 0), (110, .ireturn, 1, 0, 0, 0, 0)]
/-- TypeForms2$Reader.baseText(I)I -/
def kC_45 : List (Nat × ai_I) := [(0, .aload_n 0, 1, 0, 0, 0, 0), (1, .invokevirtual 43, 3, 42, 0, 690, 0), (4, .istore_n 2, 1, 2, 0, 0, 0), (5, .iload_n 2, 1, 2, 0, 0, 0), (6, .bipush 48, 2, 0, 0, 0, 48), (8, .if_icmp .lt 24, 3, 32, 0, 0, 0), (11, .iload_n 2, 1, 2, 0, 0, 0), (12, .bipush 57, 2, 0, 0, 0, 57), (14, .if_icmp .gt 18, 3, 32, 0, 0, 0), (17, .aload_n 0, 1, 0, 0, 0, 0), (18, .dup, 1, 0, 0, 0, 0), (19, .getfield 33, 3, 4, 5, 247, 0), (22, .iconst 1, 1, 0, 0, 0, 1), (23, .iadd, 1, 0, 0, 0, 0), (24, .putfield 33, 3, 4, 5, 247, 0), (27, .iload_n 2, 1, 2, 0, 0, 0), (28, .bipush 48, 2, 0, 0, 0, 48), (30, .isub, 1, 0, 0, 0, 0), (31, .ireturn, 1, 0, 0, 0, 0), (32, .iload_n 2, 1, 2, 0, 0, 0), (33, .bipush 97, 2, 0, 0, 0, 97), (35, .if_icmp .lt 18, 3, 53, 0, 0, 0), (38, .iload_n 2, 1, 2, 0, 0, 0), (39, .bipush 108, 2, 0, 0, 0, 108), (41, .if_icmp .gt 12, 3, 53, 0, 0, 0), (44, .aload_n 0, 1, 0, 0, 0, 0), (45, .iload_n 2, 1, 2, 0, 0, 0), (46, .bipush 97, 2, 0, 0, 0, 97), (48, .isub, 1, 0, 0, 0, 0), (49, .invokevirtual 60, 3, 46, 1, 694, 0), (52, .ireturn, 1, 0, 0, 0, 0), (53, .iconst (-1), 1, 0, 0, 0, (-1)), (54, .istore_n 3, 1, 3, 0, 0, 0), (55, .iconst 0, 1, 0, 0, 0, 0), (56, .istore 4, 2, 4, 0, 0, 0), (58, .iload 4, 2, 4, 0, 0, 0), (60, .bipush 100, 2, 0, 0, 0, 100), (62, .if_icmp .ge 51, 3, 113, 0, 0, 0), (65, .iload_n 1, 1, 1, 0, 0, 0), (66, .bipush 64, 2, 0, 0, 0, 64), (68, .if_icmp .gt 45, 3, 113, 0, 0, 0), (71, .aload_n 0, 1, 0, 0, 0, 0), (72, .iload_n 3, 1, 3, 0, 0, 0), (73, .iload_n 1, 1, 1, 0, 0, 0), (74, .invokevirtual 63, 3, 47, 2, 704, 0), (77, .istore_n 3, 1, 3, 0, 0, 0), (78, .aload_n 0, 1, 0, 0, 0, 0), (79, .getfield 36, 3, 4, 6, 248, 0), (82, .iconst (-1), 1, 0, 0, 0, (-1)), (83, .if_icmp .ne 12, 3, 95, 0, 0, 0), (86, .aload_n 0, 1, 0, 0, 0, 0), (87, .invokevirtual 43, 3, 42, 0, 690, 0), (90, .bipush 46, 2, 0, 0, 0, 46), (92, .if_icmp .eq 5, 3, 97, 0, 0, 0), (95, .iload_n 3, 1, 3, 0, 0, 0), (96, .ireturn, 1, 0, 0, 0, 0), (97, .aload_n 0, 1, 0, 0, 0, 0), (98, .dup, 1, 0, 0, 0, 0), (99, .getfield 33, 3, 4, 5, 247, 0), (102, .iconst 1, 1, 0, 0, 0, 1), (103, .iadd, 1, 0, 0, 0, 0), (104, .putfield 33, 3, 4, 5, 247, 0), (107, .iinc 4 1, 3, 4, 0, 0, 1), (110, .goto (-52), 3, 58, 0, 0, 0), (113, .aload_n 0, 1, 0, 0, 0, 0), (114, .aload_n 0, 1, 0, 0, 0, 0), (115, .getfield 33, 3, 4, 5, 247, 0), (118, .invokevirtual 53, 3, 43, 1, 699, 0), (121, .ireturn, 1, 0, 0, 0, 0)]
/-- TypeForms2$Reader.variableText(I)I -/
def kC_46 : List (Nat × ai_I) := [(0, .aload_n 0, 1, 0, 0, 0, 0), (1, .getfield 15, 3, 4, 0, 242, 0), (4, .iload_n 1, 1, 1, 0, 0, 0), (5, .invokevirtual 67, 3, 1, 1, 698, 0), (8, .ifCond .ne 12, 3, 20, 0, 0, 0), (11, .aload_n 0, 1, 0, 0, 0, 0), (12, .aload_n 0, 1, 0, 0, 0, 0), (13, .getfield 33, 3, 4, 5, 247, 0), (16, .invokevirtual 53, 3, 43, 1, 699, 0), (19, .ireturn, 1, 0, 0, 0, 0), (20, .aload_n 0, 1, 0, 0, 0, 0), (21, .dup, 1, 0, 0, 0, 0), (22, .getfield 33, 3, 4, 5, 247, 0), (25, .iconst 1, 1, 0, 0, 0, 1), (26, .iadd, 1, 0, 0, 0, 0), (27, .putfield 33, 3, 4, 5, 247, 0), (30, .aload_n 0, 1, 0, 0, 0, 0), (31, .getfield 15, 3, 4, 0, 242, 0), (34, .iload_n 1, 1, 1, 0, 0, 0), (35, .aload_n 0, 1, 0, 0, 0, 0), (36, .invokevirtual 43, 3, 42, 0, 690, 0), (39, .bipush 48, 2, 0, 0, 0, 48), (41, .isub, 1, 0, 0, 0, 0), (42, .invokevirtual 72, 3, 9, 2, 703, 0), (45, .istore_n 2, 1, 2, 0, 0, 0), (46, .iload_n 2, 1, 2, 0, 0, 0), (47, .iconst (-1), 1, 0, 0, 0, (-1)), (48, .if_icmp .ne 12, 3, 60, 0, 0, 0), (51, .aload_n 0, 1, 0, 0, 0, 0), (52, .aload_n 0, 1, 0, 0, 0, 0), (53, .getfield 33, 3, 4, 5, 247, 0), (56, .invokevirtual 53, 3, 43, 1, 699, 0), (59, .ireturn, 1, 0, 0, 0, 0), (60, .aload_n 0, 1, 0, 0, 0, 0), (61, .dup, 1, 0, 0, 0, 0), (62, .getfield 33, 3, 4, 5, 247, 0), (65, .iconst 1, 1, 0, 0, 0, 1), (66, .iadd, 1, 0, 0, 0, 0), (67, .putfield 33, 3, 4, 5, 247, 0), (70, .iload_n 2, 1, 2, 0, 0, 0), (71, .ireturn, 1, 0, 0, 0, 0)]
/-- TypeForms2$Reader.partText(II)I -/
def kC_47 : List (Nat × ai_I) := [(0, .aload_n 0, 1, 0, 0, 0, 0), (1, .getfield 33, 3, 4, 5, 247, 0), (4, .istore_n 3, 1, 3, 0, 0, 0), (5, .aload_n 0, 1, 0, 0, 0, 0), (6, .invokevirtual 43, 3, 42, 0, 690, 0), (9, .bipush 65, 2, 0, 0, 0, 65), (11, .isub, 1, 0, 0, 0, 0), (12, .istore 4, 2, 4, 0, 0, 0), (14, .aload_n 0, 1, 0, 0, 0, 0), (15, .getfield 15, 3, 4, 0, 242, 0), (18, .iload 4, 2, 4, 0, 0, 0), (20, .invokevirtual 67, 3, 1, 1, 698, 0), (23, .ifCond .ne 12, 3, 35, 0, 0, 0), (26, .aload_n 0, 1, 0, 0, 0, 0), (27, .aload_n 0, 1, 0, 0, 0, 0), (28, .getfield 33, 3, 4, 5, 247, 0), (31, .invokevirtual 53, 3, 43, 1, 699, 0), (34, .ireturn, 1, 0, 0, 0, 0), (35, .aload_n 0, 1, 0, 0, 0, 0), (36, .dup, 1, 0, 0, 0, 0), (37, .getfield 33, 3, 4, 5, 247, 0), (40, .iconst 1, 1, 0, 0, 0, 1), (41, .iadd, 1, 0, 0, 0, 0), (42, .putfield 33, 3, 4, 5, 247, 0), (45, .iconst (-1), 1, 0, 0, 0, (-1)), (46, .istore 5, 2, 5, 0, 0, 0), (48, .iconst (-1), 1, 0, 0, 0, (-1)), (49, .istore 6, 2, 6, 0, 0, 0), (51, .iconst (-1), 1, 0, 0, 0, (-1)), (52, .istore 7, 2, 7, 0, 0, 0), (54, .aload_n 0, 1, 0, 0, 0, 0), (55, .invokevirtual 43, 3, 42, 0, 690, 0), (58, .bipush 60, 2, 0, 0, 0, 60), (60, .if_icmp .ne 104, 3, 164, 0, 0, 0), (63, .aload_n 0, 1, 0, 0, 0, 0), (64, .iload_n 2, 1, 2, 0, 0, 0), (65, .invokevirtual 75, 3, 48, 1, 708, 0), (68, .istore 5, 2, 5, 0, 0, 0), (70, .aload_n 0, 1, 0, 0, 0, 0), (71, .getfield 36, 3, 4, 6, 248, 0), (74, .iconst (-1), 1, 0, 0, 0, (-1)), (75, .if_icmp .ne 20, 3, 95, 0, 0, 0), (78, .aload_n 0, 1, 0, 0, 0, 0), (79, .invokevirtual 43, 3, 42, 0, 690, 0), (82, .bipush 44, 2, 0, 0, 0, 44), (84, .if_icmp .ne 11, 3, 95, 0, 0, 0), (87, .aload_n 0, 1, 0, 0, 0, 0), (88, .iload_n 2, 1, 2, 0, 0, 0), (89, .invokevirtual 75, 3, 48, 1, 708, 0), (92, .goto 4, 3, 96, 0, 0, 0), (95, .iconst (-1), 1, 0, 0, 0, (-1)), (96, .istore 6, 2, 6, 0, 0, 0), (98, .aload_n 0, 1, 0, 0, 0, 0), (99, .getfield 36, 3, 4, 6, 248, 0), (102, .iconst (-1), 1, 0, 0, 0, (-1)), (103, .if_icmp .ne 20, 3, 123, 0, 0, 0), (106, .aload_n 0, 1, 0, 0, 0, 0), (107, .invokevirtual 43, 3, 42, 0, 690, 0), (110, .bipush 44, 2, 0, 0, 0, 44), (112, .if_icmp .ne 11, 3, 123, 0, 0, 0), (115, .aload_n 0, 1, 0, 0, 0, 0), (116, .iload_n 2, 1, 2, 0, 0, 0), (117, .invokevirtual 75, 3, 48, 1, 708, 0), (120, .goto 4, 3, 124, 0, 0, 0), (123, .iconst (-1), 1, 0, 0, 0, (-1)), (124, .istore 7, 2, 7, 0, 0, 0), (126, .aload_n 0, 1, 0, 0, 0, 0), (127, .getfield 36, 3, 4, 6, 248, 0), (130, .iconst (-1), 1, 0, 0, 0, (-1)), (131, .if_icmp .eq 5, 3, 136, 0, 0, 0), (134, .iconst (-1), 1, 0, 0, 0, (-1)), (135, .ireturn, 1, 0, 0, 0, 0), (136, .aload_n 0, 1, 0, 0, 0, 0), (137, .invokevirtual 43, 3, 42, 0, 690, 0), (140, .bipush 62, 2, 0, 0, 0, 62), (142, .if_icmp .eq 12, 3, 154, 0, 0, 0), (145, .aload_n 0, 1, 0, 0, 0, 0), (146, .aload_n 0, 1, 0, 0, 0, 0), (147, .getfield 33, 3, 4, 5, 247, 0), (150, .invokevirtual 53, 3, 43, 1, 699, 0), (153, .ireturn, 1, 0, 0, 0, 0), (154, .aload_n 0, 1, 0, 0, 0, 0), (155, .dup, 1, 0, 0, 0, 0), (156, .getfield 33, 3, 4, 5, 247, 0), (159, .iconst 1, 1, 0, 0, 0, 1), (160, .iadd, 1, 0, 0, 0, 0), (161, .putfield 33, 3, 4, 5, 247, 0), (164, .aload_n 0, 1, 0, 0, 0, 0), (165, .getfield 23, 3, 4, 2, 244, 0), (168, .iload 4, 2, 4, 0, 0, 0), (170, .iload_n 1, 1, 1, 0, 0, 0), (171, .iload 5, 2, 5, 0, 0, 0), (173, .iload 6, 2, 6, 0, 0, 0), (175, .iload 7, 2, 7, 0, 0, 0), (177, .invokevirtual 78, 3, 53, 5, 715, 0), (180, .ifCond .eq 9, 3, 189, 0, 0, 0), (183, .aload_n 0, 1, 0, 0, 0, 0), (184, .iload_n 3, 1, 3, 0, 0, 0), (185, .invokevirtual 53, 3, 43, 1, 699, 0), (188, .ireturn, 1, 0, 0, 0, 0), (189, .aload_n 0, 1, 0, 0, 0, 0), (190, .getfield 19, 3, 4, 1, 243, 0), (193, .iconst 5, 1, 0, 0, 0, 5), (194, .iload 4, 2, 4, 0, 0, 0), (196, .iload_n 1, 1, 1, 0, 0, 0), (197, .iload 5, 2, 5, 0, 0, 0), (199, .iload 6, 2, 6, 0, 0, 0), (201, .iload 7, 2, 7, 0, 0, 0), (203, .invokevirtual 56, 3, 74, 6, 716, 0), (206, .ireturn, 1, 0, 0, 0, 0)]
/-- TypeForms2$Reader.argumentText(I)I -/
def kC_48 : List (Nat × ai_I) := [(0, .aload_n 0, 1, 0, 0, 0, 0), (1, .dup, 1, 0, 0, 0, 0), (2, .getfield 33, 3, 4, 5, 247, 0), (5, .iconst 1, 1, 0, 0, 0, 1), (6, .iadd, 1, 0, 0, 0, 0), (7, .putfield 33, 3, 4, 5, 247, 0), (10, .aload_n 0, 1, 0, 0, 0, 0), (11, .invokevirtual 43, 3, 42, 0, 690, 0), (14, .istore_n 2, 1, 2, 0, 0, 0), (15, .iload_n 2, 1, 2, 0, 0, 0), (16, .bipush 63, 2, 0, 0, 0, 63), (18, .if_icmp .ne 15, 3, 33, 0, 0, 0), (21, .aload_n 0, 1, 0, 0, 0, 0), (22, .dup, 1, 0, 0, 0, 0), (23, .getfield 33, 3, 4, 5, 247, 0), (26, .iconst 1, 1, 0, 0, 0, 1), (27, .iadd, 1, 0, 0, 0, 0), (28, .putfield 33, 3, 4, 5, 247, 0), (31, .iconst 3, 1, 0, 0, 0, 3), (32, .ireturn, 1, 0, 0, 0, 0), (33, .iload_n 2, 1, 2, 0, 0, 0), (34, .bipush 43, 2, 0, 0, 0, 43), (36, .if_icmp .ne 7, 3, 43, 0, 0, 0), (39, .iconst 1, 1, 0, 0, 0, 1), (40, .goto 14, 3, 54, 0, 0, 0), (43, .iload_n 2, 1, 2, 0, 0, 0), (44, .bipush 45, 2, 0, 0, 0, 45), (46, .if_icmp .ne 7, 3, 53, 0, 0, 0), (49, .iconst 2, 1, 0, 0, 0, 2), (50, .goto 4, 3, 54, 0, 0, 0), (53, .iconst 0, 1, 0, 0, 0, 0), (54, .istore_n 3, 1, 3, 0, 0, 0), (55, .iload_n 3, 1, 3, 0, 0, 0), (56, .ifCond .eq 13, 3, 69, 0, 0, 0), (59, .aload_n 0, 1, 0, 0, 0, 0), (60, .dup, 1, 0, 0, 0, 0), (61, .getfield 33, 3, 4, 5, 247, 0), (64, .iconst 1, 1, 0, 0, 0, 1), (65, .iadd, 1, 0, 0, 0, 0), (66, .putfield 33, 3, 4, 5, 247, 0), (69, .aload_n 0, 1, 0, 0, 0, 0), (70, .getfield 33, 3, 4, 5, 247, 0), (73, .istore 4, 2, 4, 0, 0, 0), (75, .aload_n 0, 1, 0, 0, 0, 0), (76, .iload_n 1, 1, 1, 0, 0, 0), (77, .iconst 1, 1, 0, 0, 0, 1), (78, .iadd, 1, 0, 0, 0, 0), (79, .invokevirtual 84, 3, 44, 1, 712, 0), (82, .istore 5, 2, 5, 0, 0, 0), (84, .aload_n 0, 1, 0, 0, 0, 0), (85, .getfield 36, 3, 4, 6, 248, 0), (88, .iconst (-1), 1, 0, 0, 0, (-1)), (89, .if_icmp .eq 5, 3, 94, 0, 0, 0), (92, .iconst (-1), 1, 0, 0, 0, (-1)), (93, .ireturn, 1, 0, 0, 0, 0), (94, .aload_n 0, 1, 0, 0, 0, 0), (95, .getfield 19, 3, 4, 1, 243, 0), (98, .iload 5, 2, 5, 0, 0, 0), (100, .invokevirtual 87, 3, 69, 1, 713, 0), (103, .ifCond .eq 12, 3, 115, 0, 0, 0), (106, .iload_n 3, 1, 3, 0, 0, 0), (107, .iload 5, 2, 5, 0, 0, 0), (109, .invokestatic 90, 3, 96, 2, 714, 0), (112, .goto 9, 3, 121, 0, 0, 0), (115, .aload_n 0, 1, 0, 0, 0, 0), (116, .iload 4, 2, 4, 0, 0, 0), (118, .invokevirtual 53, 3, 43, 1, 699, 0), (121, .ireturn, 1, 0, 0, 0, 0)]
/-- TypeForms2$Rules.ofBound(III)I -/
def kC_49 : List (Nat × ai_I) := [(0, .aload_n 0, 1, 0, 0, 0, 0), (1, .getfield 15, 3, 5, 1, 224, 0), (4, .iload_n 3, 1, 3, 0, 0, 0), (5, .invokevirtual 27, 3, 60, 1, 367, 0), (8, .iconst 3, 1, 0, 0, 0, 3), (9, .if_icmp .ne 7, 3, 16, 0, 0, 0), (12, .iconst 1, 1, 0, 0, 0, 1), (13, .goto 4, 3, 17, 0, 0, 0), (16, .iconst 0, 1, 0, 0, 0, 0), (17, .istore 4, 2, 4, 0, 0, 0), (19, .iload 4, 2, 4, 0, 0, 0), (21, .ifCond .eq 18, 3, 39, 0, 0, 0), (24, .aload_n 0, 1, 0, 0, 0, 0), (25, .getfield 15, 3, 5, 1, 224, 0), (28, .iload_n 3, 1, 3, 0, 0, 0), (29, .invokevirtual 33, 3, 61, 1, 371, 0), (32, .iload_n 1, 1, 1, 0, 0, 0), (33, .if_icmp .eq 17, 3, 50, 0, 0, 0), (36, .goto 12, 3, 48, 0, 0, 0), (39, .aload_n 0, 1, 0, 0, 0, 0), (40, .iload_n 1, 1, 1, 0, 0, 0), (41, .iload_n 3, 1, 3, 0, 0, 0), (42, .invokevirtual 36, 3, 51, 2, 375, 0), (45, .ifCond .ne 5, 3, 50, 0, 0, 0), (48, .iconst 2, 1, 0, 0, 0, 2), (49, .ireturn, 1, 0, 0, 0, 0), (50, .aload_n 0, 1, 0, 0, 0, 0), (51, .getfield 9, 3, 5, 0, 223, 0), (54, .iload_n 1, 1, 1, 0, 0, 0), (55, .iload_n 2, 1, 2, 0, 0, 0), (56, .iconst 0, 1, 0, 0, 0, 0), (57, .invokevirtual 40, 3, 11, 3, 402, 0), (60, .istore 5, 2, 5, 0, 0, 0), (62, .iload 5, 2, 5, 0, 0, 0), (64, .iconst (-1), 1, 0, 0, 0, (-1)), (65, .if_icmp .eq 23, 3, 88, 0, 0, 0), (68, .iload 4, 2, 4, 0, 0, 0), (70, .ifCond .ne 16, 3, 86, 0, 0, 0), (73, .aload_n 0, 1, 0, 0, 0, 0), (74, .getfield 15, 3, 5, 1, 224, 0), (77, .iload 5, 2, 5, 0, 0, 0), (79, .invokevirtual 27, 3, 60, 1, 367, 0), (82, .iconst 3, 1, 0, 0, 0, 3), (83, .if_icmp .ne 5, 3, 88, 0, 0, 0), (86, .iconst 4, 1, 0, 0, 0, 4), (87, .ireturn, 1, 0, 0, 0, 0), (88, .iload 5, 2, 5, 0, 0, 0), (90, .iconst (-1), 1, 0, 0, 0, (-1)), (91, .if_icmp .eq 23, 3, 114, 0, 0, 0), (94, .aload_n 0, 1, 0, 0, 0, 0), (95, .getfield 9, 3, 5, 0, 223, 0), (98, .aload_n 0, 1, 0, 0, 0, 0), (99, .getfield 15, 3, 5, 1, 224, 0), (102, .iload_n 3, 1, 3, 0, 0, 0), (103, .invokevirtual 33, 3, 61, 1, 371, 0), (106, .invokevirtual 46, 3, 4, 1, 406, 0), (109, .ifCond .ne 5, 3, 114, 0, 0, 0), (112, .iconst 5, 1, 0, 0, 0, 5), (113, .ireturn, 1, 0, 0, 0, 0), (114, .aload_n 0, 1, 0, 0, 0, 0), (115, .iload_n 3, 1, 3, 0, 0, 0), (116, .aload_n 0, 1, 0, 0, 0, 0), (117, .getfield 9, 3, 5, 0, 223, 0), (120, .iload_n 1, 1, 1, 0, 0, 0), (121, .iload_n 2, 1, 2, 0, 0, 0), (122, .invokevirtual 50, 3, 9, 2, 410, 0), (125, .invokevirtual 54, 3, 52, 2, 411, 0), (128, .ifCond .eq 8, 3, 136, 0, 0, 0), (131, .bipush 6, 2, 0, 0, 0, 6), (133, .goto 4, 3, 137, 0, 0, 0), (136, .iconst 0, 1, 0, 0, 0, 0), (137, .ireturn, 1, 0, 0, 0, 0)]
/-- TypeForms2$Rules.ofParent(II)I -/
def kC_50 : List (Nat × ai_I) := [(0, .aload_n 0, 1, 0, 0, 0, 0), (1, .iload_n 1, 1, 1, 0, 0, 0), (2, .iload_n 2, 1, 2, 0, 0, 0), (3, .invokevirtual 36, 3, 51, 2, 375, 0), (6, .ifCond .ne 5, 3, 11, 0, 0, 0), (9, .iconst 2, 1, 0, 0, 0, 2), (10, .ireturn, 1, 0, 0, 0, 0), (11, .aload_n 0, 1, 0, 0, 0, 0), (12, .getfield 15, 3, 5, 1, 224, 0), (15, .iload_n 2, 1, 2, 0, 0, 0), (16, .invokevirtual 33, 3, 61, 1, 371, 0), (19, .iload_n 1, 1, 1, 0, 0, 0), (20, .if_icmp .lt 6, 3, 26, 0, 0, 0), (23, .bipush 7, 2, 0, 0, 0, 7), (25, .ireturn, 1, 0, 0, 0, 0), (26, .aload_n 0, 1, 0, 0, 0, 0), (27, .getfield 9, 3, 5, 0, 223, 0), (30, .iload_n 1, 1, 1, 0, 0, 0), (31, .invokevirtual 46, 3, 4, 1, 406, 0), (34, .ifCond .ne 14, 3, 48, 0, 0, 0), (37, .aload_n 0, 1, 0, 0, 0, 0), (38, .getfield 9, 3, 5, 0, 223, 0), (41, .iload_n 1, 1, 1, 0, 0, 0), (42, .invokevirtual 57, 3, 14, 1, 435, 0), (45, .ifCond .le 7, 3, 52, 0, 0, 0), (48, .iconst 1, 1, 0, 0, 0, 1), (49, .goto 4, 3, 53, 0, 0, 0), (52, .iconst 0, 1, 0, 0, 0, 0), (53, .istore_n 3, 1, 3, 0, 0, 0), (54, .iload_n 3, 1, 3, 0, 0, 0), (55, .ifCond .eq 26, 3, 81, 0, 0, 0), (58, .aload_n 0, 1, 0, 0, 0, 0), (59, .getfield 9, 3, 5, 0, 223, 0), (62, .aload_n 0, 1, 0, 0, 0, 0), (63, .getfield 15, 3, 5, 1, 224, 0), (66, .iload_n 2, 1, 2, 0, 0, 0), (67, .invokevirtual 33, 3, 61, 1, 371, 0), (70, .invokevirtual 46, 3, 4, 1, 406, 0), (73, .ifCond .ne 8, 3, 81, 0, 0, 0), (76, .bipush 8, 2, 0, 0, 0, 8), (78, .goto 4, 3, 82, 0, 0, 0), (81, .iconst 0, 1, 0, 0, 0, 0), (82, .ireturn, 1, 0, 0, 0, 0)]
/-- TypeForms2$Rules.isAsTold(II)Z -/
def kC_51 : List (Nat × ai_I) := [(0, .aload_n 0, 1, 0, 0, 0, 0), (1, .getfield 15, 3, 5, 1, 224, 0), (4, .iload_n 2, 1, 2, 0, 0, 0), (5, .invokevirtual 27, 3, 60, 1, 367, 0), (8, .iconst 5, 1, 0, 0, 0, 5), (9, .if_icmp .ne 21, 3, 30, 0, 0, 0), (12, .aload_n 0, 1, 0, 0, 0, 0), (13, .getfield 15, 3, 5, 1, 224, 0), (16, .aload_n 0, 1, 0, 0, 0, 0), (17, .getfield 15, 3, 5, 1, 224, 0), (20, .iload_n 2, 1, 2, 0, 0, 0), (21, .invokevirtual 60, 3, 64, 1, 379, 0), (24, .invokevirtual 63, 3, 68, 1, 383, 0), (27, .ifCond .eq 5, 3, 32, 0, 0, 0), (30, .iconst 0, 1, 0, 0, 0, 0), (31, .ireturn, 1, 0, 1, 0, 0), (32, .iconst 0, 1, 0, 0, 0, 0), (33, .istore_n 3, 1, 3, 0, 0, 0), (34, .iload_n 3, 1, 3, 0, 0, 0), (35, .aload_n 0, 1, 0, 0, 0, 0), (36, .getfield 15, 3, 5, 1, 224, 0), (39, .iload_n 2, 1, 2, 0, 0, 0), (40, .invokevirtual 66, 3, 66, 1, 387, 0), (43, .if_icmp .ge 87, 3, 130, 0, 0, 0), (46, .aload_n 0, 1, 0, 0, 0, 0), (47, .getfield 15, 3, 5, 1, 224, 0), (50, .iload_n 2, 1, 2, 0, 0, 0), (51, .iload_n 3, 1, 3, 0, 0, 0), (52, .invokevirtual 69, 3, 65, 2, 395, 0), (55, .istore 4, 2, 4, 0, 0, 0), (57, .iload 4, 2, 4, 0, 0, 0), (59, .invokestatic 72, 3, 98, 1, 396, 0), (62, .istore 5, 2, 5, 0, 0, 0), (64, .iload 4, 2, 4, 0, 0, 0), (66, .invokestatic 75, 3, 97, 1, 399, 0), (69, .ifCond .ne 33, 3, 102, 0, 0, 0), (72, .aload_n 0, 1, 0, 0, 0, 0), (73, .getfield 15, 3, 5, 1, 224, 0), (76, .iload 5, 2, 5, 0, 0, 0), (78, .invokevirtual 27, 3, 60, 1, 367, 0), (81, .iconst 3, 1, 0, 0, 0, 3), (82, .if_icmp .ne 20, 3, 102, 0, 0, 0), (85, .aload_n 0, 1, 0, 0, 0, 0), (86, .getfield 15, 3, 5, 1, 224, 0), (89, .iload 5, 2, 5, 0, 0, 0), (91, .invokevirtual 33, 3, 61, 1, 371, 0), (94, .iload_n 1, 1, 1, 0, 0, 0), (95, .if_icmp .ne 7, 3, 102, 0, 0, 0), (98, .iconst 1, 1, 0, 0, 0, 1), (99, .goto 4, 3, 103, 0, 0, 0), (102, .iconst 0, 1, 0, 0, 0, 0), (103, .istore 6, 2, 6, 0, 0, 0), (105, .aload_n 0, 1, 0, 0, 0, 0), (106, .getfield 15, 3, 5, 1, 224, 0), (109, .iload 5, 2, 5, 0, 0, 0), (111, .invokevirtual 63, 3, 68, 1, 383, 0), (114, .ifCond .eq 10, 3, 124, 0, 0, 0), (117, .iload 6, 2, 6, 0, 0, 0), (119, .ifCond .ne 5, 3, 124, 0, 0, 0), (122, .iconst 0, 1, 0, 0, 0, 0), (123, .ireturn, 1, 0, 1, 0, 0), (124, .iinc 3 1, 3, 3, 0, 0, 1), (127, .goto (-93), 3, 34, 0, 0, 0), (130, .iconst 1, 1, 0, 0, 0, 1), (131, .ireturn, 1, 0, 1, 0, 0)]
/-- TypeForms2$Rules.comesTo(II)Z -/
def kC_52 : List (Nat × ai_I) := [(0, .iload_n 1, 1, 1, 0, 0, 0), (1, .istore_n 3, 1, 3, 0, 0, 0), (2, .iconst 0, 1, 0, 0, 0, 0), (3, .istore 4, 2, 4, 0, 0, 0), (5, .iload 4, 2, 4, 0, 0, 0), (7, .iconst 3, 1, 0, 0, 0, 3), (8, .if_icmp .gt 53, 3, 61, 0, 0, 0), (11, .aload_n 0, 1, 0, 0, 0, 0), (12, .getfield 15, 3, 5, 1, 224, 0), (15, .iload_n 3, 1, 3, 0, 0, 0), (16, .invokevirtual 27, 3, 60, 1, 367, 0), (19, .iconst 3, 1, 0, 0, 0, 3), (20, .if_icmp .ne 41, 3, 61, 0, 0, 0), (23, .iload_n 3, 1, 3, 0, 0, 0), (24, .iload_n 2, 1, 2, 0, 0, 0), (25, .if_icmp .ne 5, 3, 30, 0, 0, 0), (28, .iconst 1, 1, 0, 0, 0, 1), (29, .ireturn, 1, 0, 1, 0, 0), (30, .aload_n 0, 1, 0, 0, 0, 0), (31, .getfield 9, 3, 5, 0, 223, 0), (34, .aload_n 0, 1, 0, 0, 0, 0), (35, .getfield 15, 3, 5, 1, 224, 0), (38, .iload_n 3, 1, 3, 0, 0, 0), (39, .invokevirtual 33, 3, 61, 1, 371, 0), (42, .aload_n 0, 1, 0, 0, 0, 0), (43, .getfield 15, 3, 5, 1, 224, 0), (46, .iload_n 3, 1, 3, 0, 0, 0), (47, .invokevirtual 78, 3, 62, 1, 415, 0), (50, .iconst 0, 1, 0, 0, 0, 0), (51, .invokevirtual 40, 3, 11, 3, 402, 0), (54, .istore_n 3, 1, 3, 0, 0, 0), (55, .iinc 4 1, 3, 4, 0, 0, 1), (58, .goto (-53), 3, 5, 0, 0, 0), (61, .iconst 0, 1, 0, 0, 0, 0), (62, .ireturn, 1, 0, 1, 0, 0)]
/-- TypeForms2$Rules.ofMade(IIIII)I -/
def kC_53 : List (Nat × ai_I) := [(0, .aload_n 0, 1, 0, 0, 0, 0), (1, .iload_n 1, 1, 1, 0, 0, 0), (2, .iload_n 2, 1, 2, 0, 0, 0), (3, .iload_n 3, 1, 3, 0, 0, 0), (4, .iload 4, 2, 4, 0, 0, 0), (6, .iload 5, 2, 5, 0, 0, 0), (8, .invokevirtual 81, 3, 54, 5, 473, 0), (11, .istore 6, 2, 6, 0, 0, 0), (13, .iload 6, 2, 6, 0, 0, 0), (15, .ifCond .ne 8, 3, 23, 0, 0, 0), (18, .iload_n 3, 1, 3, 0, 0, 0), (19, .iconst (-1), 1, 0, 0, 0, (-1)), (20, .if_icmp .ne 6, 3, 26, 0, 0, 0), (23, .iload 6, 2, 6, 0, 0, 0), (25, .ireturn, 1, 0, 0, 0, 0), (26, .aload_n 0, 1, 0, 0, 0, 0), (27, .getfield 15, 3, 5, 1, 224, 0), (30, .invokevirtual 85, 3, 71, 0, 489, 0), (33, .istore 7, 2, 7, 0, 0, 0), (35, .aload_n 0, 1, 0, 0, 0, 0), (36, .getfield 15, 3, 5, 1, 224, 0), (39, .iconst 5, 1, 0, 0, 0, 5), (40, .iload_n 1, 1, 1, 0, 0, 0), (41, .iload_n 2, 1, 2, 0, 0, 0), (42, .iload_n 3, 1, 3, 0, 0, 0), (43, .iload 4, 2, 4, 0, 0, 0), (45, .iload 5, 2, 5, 0, 0, 0), (47, .invokevirtual 89, 3, 74, 6, 493, 0), (50, .istore 8, 2, 8, 0, 0, 0), (52, .iconst 0, 1, 0, 0, 0, 0), (53, .istore 9, 2, 9, 0, 0, 0), (55, .iload 9, 2, 9, 0, 0, 0), (57, .aload_n 0, 1, 0, 0, 0, 0), (58, .getfield 9, 3, 5, 0, 223, 0), (61, .iload_n 1, 1, 1, 0, 0, 0), (62, .invokevirtual 93, 3, 5, 1, 477, 0), (65, .if_icmp .ge 105, 3, 170, 0, 0, 0), (68, .iload 6, 2, 6, 0, 0, 0), (70, .ifCond .ne 100, 3, 170, 0, 0, 0), (73, .aload_n 0, 1, 0, 0, 0, 0), (74, .getfield 15, 3, 5, 1, 224, 0), (77, .iload 8, 2, 8, 0, 0, 0), (79, .iload 9, 2, 9, 0, 0, 0), (81, .invokevirtual 69, 3, 65, 2, 395, 0), (84, .istore 10, 2, 10, 0, 0, 0), (86, .iconst 0, 1, 0, 0, 0, 0), (87, .istore 11, 2, 11, 0, 0, 0), (89, .iload 11, 2, 11, 0, 0, 0), (91, .aload_n 0, 1, 0, 0, 0, 0), (92, .getfield 9, 3, 5, 0, 223, 0), (95, .iload_n 1, 1, 1, 0, 0, 0), (96, .iload 9, 2, 9, 0, 0, 0), (98, .invokevirtual 96, 3, 10, 2, 500, 0), (101, .if_icmp .ge 63, 3, 164, 0, 0, 0), (104, .iload 10, 2, 10, 0, 0, 0), (106, .invokestatic 75, 3, 97, 1, 399, 0), (109, .ifCond .ne 55, 3, 164, 0, 0, 0), (112, .aload_n 0, 1, 0, 0, 0, 0), (113, .getfield 19, 3, 5, 2, 225, 0), (116, .aload_n 0, 1, 0, 0, 0, 0), (117, .getfield 9, 3, 5, 0, 223, 0), (120, .iload_n 1, 1, 1, 0, 0, 0), (121, .iload 9, 2, 9, 0, 0, 0), (123, .iload 11, 2, 11, 0, 0, 0), (125, .invokevirtual 40, 3, 11, 3, 402, 0), (128, .iload 8, 2, 8, 0, 0, 0), (130, .iconst 0, 1, 0, 0, 0, 0), (131, .invokevirtual 99, 3, 19, 3, 501, 0), (134, .istore 12, 2, 12, 0, 0, 0), (136, .aload_n 0, 1, 0, 0, 0, 0), (137, .getfield 23, 3, 5, 3, 226, 0), (140, .iload 10, 2, 10, 0, 0, 0), (142, .invokestatic 72, 3, 98, 1, 396, 0), (145, .iload 12, 2, 12, 0, 0, 0), (147, .iconst 0, 1, 0, 0, 0, 0), (148, .invokevirtual 104, 3, 25, 3, 541, 0), (151, .ifCond .ne 7, 3, 158, 0, 0, 0), (154, .bipush 13, 2, 0, 0, 0, 13), (156, .istore 6, 2, 6, 0, 0, 0), (158, .iinc 11 1, 3, 11, 0, 0, 1), (161, .goto (-72), 3, 89, 0, 0, 0), (164, .iinc 9 1, 3, 9, 0, 0, 1), (167, .goto (-112), 3, 55, 0, 0, 0), (170, .aload_n 0, 1, 0, 0, 0, 0), (171, .getfield 15, 3, 5, 1, 224, 0), (174, .iload 7, 2, 7, 0, 0, 0), (176, .invokevirtual 109, 3, 72, 1, 597, 0), (179, .iload 6, 2, 6, 0, 0, 0), (181, .ireturn, 1, 0, 0, 0, 0)]
/-- TypeForms2$Rules.ofMadeShape(IIIII)I -/
def kC_54 : List (Nat × ai_I) := [(0, .iload_n 3, 1, 3, 0, 0, 0), (1, .iconst (-1), 1, 0, 0, 0, (-1)), (2, .if_icmp .ne 7, 3, 9, 0, 0, 0), (5, .iconst 0, 1, 0, 0, 0, 0), (6, .goto 4, 3, 10, 0, 0, 0), (9, .iconst 1, 1, 0, 0, 0, 1), (10, .iload 4, 2, 4, 0, 0, 0), (12, .iconst (-1), 1, 0, 0, 0, (-1)), (13, .if_icmp .ne 7, 3, 20, 0, 0, 0), (16, .iconst 0, 1, 0, 0, 0, 0), (17, .goto 4, 3, 21, 0, 0, 0), (20, .iconst 1, 1, 0, 0, 0, 1), (21, .iadd, 1, 0, 0, 0, 0), (22, .iload 5, 2, 5, 0, 0, 0), (24, .iconst (-1), 1, 0, 0, 0, (-1)), (25, .if_icmp .ne 7, 3, 32, 0, 0, 0), (28, .iconst 0, 1, 0, 0, 0, 0), (29, .goto 4, 3, 33, 0, 0, 0), (32, .iconst 1, 1, 0, 0, 0, 1), (33, .iadd, 1, 0, 0, 0, 0), (34, .istore 6, 2, 6, 0, 0, 0), (36, .iload 6, 2, 6, 0, 0, 0), (38, .ifCond .le 19, 3, 57, 0, 0, 0), (41, .iload 6, 2, 6, 0, 0, 0), (43, .aload_n 0, 1, 0, 0, 0, 0), (44, .getfield 9, 3, 5, 0, 223, 0), (47, .iload_n 1, 1, 1, 0, 0, 0), (48, .invokevirtual 93, 3, 5, 1, 477, 0), (51, .if_icmp .eq 6, 3, 57, 0, 0, 0), (54, .bipush 10, 2, 0, 0, 0, 10), (56, .ireturn, 1, 0, 0, 0, 0), (57, .aload_n 0, 1, 0, 0, 0, 0), (58, .getfield 9, 3, 5, 0, 223, 0), (61, .iload_n 1, 1, 1, 0, 0, 0), (62, .invokevirtual 113, 3, 6, 1, 481, 0), (65, .istore 7, 2, 7, 0, 0, 0), (67, .aload_n 0, 1, 0, 0, 0, 0), (68, .getfield 15, 3, 5, 1, 224, 0), (71, .iload_n 2, 1, 2, 0, 0, 0), (72, .invokevirtual 27, 3, 60, 1, 367, 0), (75, .iconst 5, 1, 0, 0, 0, 5), (76, .if_icmp .ne 20, 3, 96, 0, 0, 0), (79, .aload_n 0, 1, 0, 0, 0, 0), (80, .getfield 15, 3, 5, 1, 224, 0), (83, .iload_n 2, 1, 2, 0, 0, 0), (84, .invokevirtual 33, 3, 61, 1, 371, 0), (87, .iload 7, 2, 7, 0, 0, 0), (89, .if_icmp .ne 7, 3, 96, 0, 0, 0), (92, .iconst 1, 1, 0, 0, 0, 1), (93, .goto 4, 3, 97, 0, 0, 0), (96, .iconst 0, 1, 0, 0, 0, 0), (97, .istore 8, 2, 8, 0, 0, 0), (99, .iload 7, 2, 7, 0, 0, 0), (101, .iconst (-1), 1, 0, 0, 0, (-1)), (102, .if_icmp .ne 11, 3, 113, 0, 0, 0), (105, .iload_n 2, 1, 2, 0, 0, 0), (106, .iconst (-1), 1, 0, 0, 0, (-1)), (107, .if_icmp .eq 14, 3, 121, 0, 0, 0), (110, .goto 8, 3, 118, 0, 0, 0), (113, .iload 8, 2, 8, 0, 0, 0), (115, .ifCond .ne 6, 3, 121, 0, 0, 0), (118, .bipush 11, 2, 0, 0, 0, 11), (120, .ireturn, 1, 0, 0, 0, 0), (121, .iload 6, 2, 6, 0, 0, 0), (123, .ifCond .le 19, 3, 142, 0, 0, 0), (126, .aload_n 0, 1, 0, 0, 0, 0), (127, .getfield 15, 3, 5, 1, 224, 0), (130, .iload_n 2, 1, 2, 0, 0, 0), (131, .invokevirtual 114, 3, 67, 1, 485, 0), (134, .ifCond .eq 8, 3, 142, 0, 0, 0), (137, .bipush 12, 2, 0, 0, 0, 12), (139, .goto 4, 3, 143, 0, 0, 0), (142, .iconst 0, 1, 0, 0, 0, 0), (143, .ireturn, 1, 0, 0, 0, 0)]
/-- TypeForms2$Types.setPlain(IIII)V -/
def kC_55 : List (Nat × ai_I) := [(0, .aload_n 0, 1, 0, 0, 0, 0), (1, .getfield 9, 3, 6, 1, 148, 0), (4, .iload_n 1, 1, 1, 0, 0, 0), (5, .iload_n 2, 1, 2, 0, 0, 0), (6, .iastore, 1, 0, 0, 0, 0), (7, .aload_n 0, 1, 0, 0, 0, 0), (8, .getfield 15, 3, 6, 2, 149, 0), (11, .iload_n 1, 1, 1, 0, 0, 0), (12, .iload_n 3, 1, 3, 0, 0, 0), (13, .iastore, 1, 0, 0, 0, 0), (14, .aload_n 0, 1, 0, 0, 0, 0), (15, .getfield 18, 3, 6, 3, 150, 0), (18, .iload_n 1, 1, 1, 0, 0, 0), (19, .iload 4, 2, 4, 0, 0, 0), (21, .iastore, 1, 0, 0, 0, 0), (22, .aload_n 0, 1, 0, 0, 0, 0), (23, .getfield 21, 3, 6, 4, 151, 0), (26, .iload_n 1, 1, 1, 0, 0, 0), (27, .iconst (-1), 1, 0, 0, 0, (-1)), (28, .iastore, 1, 0, 0, 0, 0), (29, .iconst 0, 1, 0, 0, 0, 0), (30, .istore 5, 2, 5, 0, 0, 0), (32, .iload 5, 2, 5, 0, 0, 0), (34, .iconst 3, 1, 0, 0, 0, 3), (35, .if_icmp .ge 21, 3, 56, 0, 0, 0), (38, .aload_n 0, 1, 0, 0, 0, 0), (39, .getfield 24, 3, 6, 5, 152, 0), (42, .iload_n 1, 1, 1, 0, 0, 0), (43, .iconst 3, 1, 0, 0, 0, 3), (44, .imul, 1, 0, 0, 0, 0), (45, .iload 5, 2, 5, 0, 0, 0), (47, .iadd, 1, 0, 0, 0, 0), (48, .iconst (-1), 1, 0, 0, 0, (-1)), (49, .iastore, 1, 0, 0, 0, 0), (50, .iinc 5 1, 3, 5, 0, 0, 1), (53, .goto (-21), 3, 32, 0, 0, 0), (56, .aload_n 0, 1, 0, 0, 0, 0), (57, .getfield 27, 3, 6, 6, 153, 0), (60, .iload_n 1, 1, 1, 0, 0, 0), (61, .iconst 1, 1, 0, 0, 0, 1), (62, .iastore, 1, 0, 0, 0, 0), (63, .aload_n 0, 1, 0, 0, 0, 0), (64, .getfield 30, 3, 6, 7, 154, 0), (67, .iload_n 1, 1, 1, 0, 0, 0), (68, .iconst 0, 1, 0, 0, 0, 0), (69, .bastore, 1, 0, 0, 0, 0), (70, .aload_n 0, 1, 0, 0, 0, 0), (71, .getfield 34, 3, 6, 8, 155, 0), (74, .iload_n 1, 1, 1, 0, 0, 0), (75, .iload_n 2, 1, 2, 0, 0, 0), (76, .iconst 3, 1, 0, 0, 0, 3), (77, .if_icmp .ne 7, 3, 84, 0, 0, 0), (80, .iconst 1, 1, 0, 0, 0, 1), (81, .goto 4, 3, 85, 0, 0, 0), (84, .iconst 0, 1, 0, 0, 0, 0), (85, .bastore, 1, 0, 0, 0, 0), (86, .return_, 1, 0, 0, 0, 0)]
/-- TypeForms2$Types.number()I -/
def kC_56 : List (Nat × ai_I) := [(0, .aload_n 0, 1, 0, 0, 0, 0), (1, .getfield 45, 3, 6, 9, 156, 0), (4, .ireturn, 1, 0, 0, 0, 0)]
/-- TypeForms2$Types.isNode(I)Z -/
def kC_57 : List (Nat × ai_I) := [(0, .iload_n 1, 1, 1, 0, 0, 0), (1, .ifCond .lt 15, 3, 16, 0, 0, 0), (4, .iload_n 1, 1, 1, 0, 0, 0), (5, .aload_n 0, 1, 0, 0, 0, 0), (6, .getfield 45, 3, 6, 9, 156, 0), (9, .if_icmp .ge 7, 3, 16, 0, 0, 0), (12, .iconst 1, 1, 0, 0, 0, 1), (13, .goto 4, 3, 17, 0, 0, 0), (16, .iconst 0, 1, 0, 0, 0, 0), (17, .ireturn, 1, 0, 1, 0, 0)]
/-- TypeForms2$Types.hasRoomFor(I)Z -/
def kC_58 : List (Nat × ai_I) := [(0, .aload_n 0, 1, 0, 0, 0, 0), (1, .getfield 45, 3, 6, 9, 156, 0), (4, .iload_n 1, 1, 1, 0, 0, 0), (5, .iadd, 1, 0, 0, 0, 0), (6, .sipush 200, 3, 0, 0, 0, 200), (9, .if_icmp .gt 7, 3, 16, 0, 0, 0), (12, .iconst 1, 1, 0, 0, 0, 1), (13, .goto 4, 3, 17, 0, 0, 0), (16, .iconst 0, 1, 0, 0, 0, 0), (17, .ireturn, 1, 0, 1, 0, 0)]
/-- TypeForms2$Types.addVariables(II)I -/
def kC_59 : List (Nat × ai_I) := [(0, .aload_n 0, 1, 0, 0, 0, 0), (1, .getfield 45, 3, 6, 9, 156, 0), (4, .istore_n 3, 1, 3, 0, 0, 0), (5, .iconst 0, 1, 0, 0, 0, 0), (6, .istore 4, 2, 4, 0, 0, 0), (8, .iload 4, 2, 4, 0, 0, 0), (10, .iload_n 2, 1, 2, 0, 0, 0), (11, .if_icmp .ge 41, 3, 52, 0, 0, 0), (14, .aload_n 0, 1, 0, 0, 0, 0), (15, .getfield 45, 3, 6, 9, 156, 0), (18, .sipush 200, 3, 0, 0, 0, 200), (21, .if_icmp .ge 31, 3, 52, 0, 0, 0), (24, .aload_n 0, 1, 0, 0, 0, 0), (25, .aload_n 0, 1, 0, 0, 0, 0), (26, .getfield 45, 3, 6, 9, 156, 0), (29, .iconst 3, 1, 0, 0, 0, 3), (30, .iload_n 1, 1, 1, 0, 0, 0), (31, .iload 4, 2, 4, 0, 0, 0), (33, .invokevirtual 41, 3, 55, 4, 143, 0), (36, .aload_n 0, 1, 0, 0, 0, 0), (37, .dup, 1, 0, 0, 0, 0), (38, .getfield 45, 3, 6, 9, 156, 0), (41, .iconst 1, 1, 0, 0, 0, 1), (42, .iadd, 1, 0, 0, 0, 0), (43, .putfield 45, 3, 6, 9, 156, 0), (46, .iinc 4 1, 3, 4, 0, 0, 1), (49, .goto (-41), 3, 8, 0, 0, 0), (52, .iload_n 3, 1, 3, 0, 0, 0), (53, .ireturn, 1, 0, 0, 0, 0)]
/-- TypeForms2$Types.formOf(I)I -/
def kC_60 : List (Nat × ai_I) := [(0, .iload_n 1, 1, 1, 0, 0, 0), (1, .ifCond .lt 19, 3, 20, 0, 0, 0), (4, .iload_n 1, 1, 1, 0, 0, 0), (5, .sipush 512, 3, 0, 0, 0, 512), (8, .if_icmp .ge 12, 3, 20, 0, 0, 0), (11, .aload_n 0, 1, 0, 0, 0, 0), (12, .getfield 9, 3, 6, 1, 148, 0), (15, .iload_n 1, 1, 1, 0, 0, 0), (16, .iaload, 1, 0, 0, 0, 0), (17, .goto 4, 3, 21, 0, 0, 0), (20, .iconst (-1), 1, 0, 0, 0, (-1)), (21, .ireturn, 1, 0, 0, 0, 0)]
/-- TypeForms2$Types.ownerOf(I)I -/
def kC_61 : List (Nat × ai_I) := [(0, .iload_n 1, 1, 1, 0, 0, 0), (1, .ifCond .lt 19, 3, 20, 0, 0, 0), (4, .iload_n 1, 1, 1, 0, 0, 0), (5, .sipush 512, 3, 0, 0, 0, 512), (8, .if_icmp .ge 12, 3, 20, 0, 0, 0), (11, .aload_n 0, 1, 0, 0, 0, 0), (12, .getfield 15, 3, 6, 2, 149, 0), (15, .iload_n 1, 1, 1, 0, 0, 0), (16, .iaload, 1, 0, 0, 0, 0), (17, .goto 4, 3, 21, 0, 0, 0), (20, .iconst (-1), 1, 0, 0, 0, (-1)), (21, .ireturn, 1, 0, 0, 0, 0)]
/-- TypeForms2$Types.placeOf(I)I -/
def kC_62 : List (Nat × ai_I) := [(0, .iload_n 1, 1, 1, 0, 0, 0), (1, .ifCond .lt 19, 3, 20, 0, 0, 0), (4, .iload_n 1, 1, 1, 0, 0, 0), (5, .sipush 512, 3, 0, 0, 0, 512), (8, .if_icmp .ge 12, 3, 20, 0, 0, 0), (11, .aload_n 0, 1, 0, 0, 0, 0), (12, .getfield 18, 3, 6, 3, 150, 0), (15, .iload_n 1, 1, 1, 0, 0, 0), (16, .iaload, 1, 0, 0, 0, 0), (17, .goto 4, 3, 21, 0, 0, 0), (20, .iconst (-1), 1, 0, 0, 0, (-1)), (21, .ireturn, 1, 0, 0, 0, 0)]
/-- TypeForms2$Types.elementOf(I)I -/
def kC_63 : List (Nat × ai_I) := [(0, .iload_n 1, 1, 1, 0, 0, 0), (1, .ifCond .lt 29, 3, 30, 0, 0, 0), (4, .iload_n 1, 1, 1, 0, 0, 0), (5, .sipush 512, 3, 0, 0, 0, 512), (8, .if_icmp .ge 22, 3, 30, 0, 0, 0), (11, .aload_n 0, 1, 0, 0, 0, 0), (12, .getfield 9, 3, 6, 1, 148, 0), (15, .iload_n 1, 1, 1, 0, 0, 0), (16, .iaload, 1, 0, 0, 0, 0), (17, .iconst 4, 1, 0, 0, 0, 4), (18, .if_icmp .ne 12, 3, 30, 0, 0, 0), (21, .aload_n 0, 1, 0, 0, 0, 0), (22, .getfield 21, 3, 6, 4, 151, 0), (25, .iload_n 1, 1, 1, 0, 0, 0), (26, .iaload, 1, 0, 0, 0, 0), (27, .goto 4, 3, 31, 0, 0, 0), (30, .iconst (-1), 1, 0, 0, 0, (-1)), (31, .ireturn, 1, 0, 0, 0, 0)]
/-- TypeForms2$Types.outerOf(I)I -/
def kC_64 : List (Nat × ai_I) := [(0, .iload_n 1, 1, 1, 0, 0, 0), (1, .ifCond .lt 29, 3, 30, 0, 0, 0), (4, .iload_n 1, 1, 1, 0, 0, 0), (5, .sipush 512, 3, 0, 0, 0, 512), (8, .if_icmp .ge 22, 3, 30, 0, 0, 0), (11, .aload_n 0, 1, 0, 0, 0, 0), (12, .getfield 9, 3, 6, 1, 148, 0), (15, .iload_n 1, 1, 1, 0, 0, 0), (16, .iaload, 1, 0, 0, 0, 0), (17, .iconst 5, 1, 0, 0, 0, 5), (18, .if_icmp .ne 12, 3, 30, 0, 0, 0), (21, .aload_n 0, 1, 0, 0, 0, 0), (22, .getfield 21, 3, 6, 4, 151, 0), (25, .iload_n 1, 1, 1, 0, 0, 0), (26, .iaload, 1, 0, 0, 0, 0), (27, .goto 4, 3, 31, 0, 0, 0), (30, .iconst (-1), 1, 0, 0, 0, (-1)), (31, .ireturn, 1, 0, 0, 0, 0)]
/-- TypeForms2$Types.argumentAt(II)I -/
def kC_65 : List (Nat × ai_I) := [(0, .iload_n 1, 1, 1, 0, 0, 0), (1, .ifCond .lt 23, 3, 24, 0, 0, 0), (4, .iload_n 1, 1, 1, 0, 0, 0), (5, .sipush 512, 3, 0, 0, 0, 512), (8, .if_icmp .ge 16, 3, 24, 0, 0, 0), (11, .iload_n 2, 1, 2, 0, 0, 0), (12, .ifCond .lt 12, 3, 24, 0, 0, 0), (15, .iload_n 2, 1, 2, 0, 0, 0), (16, .iconst 3, 1, 0, 0, 0, 3), (17, .if_icmp .ge 7, 3, 24, 0, 0, 0), (20, .iconst 1, 1, 0, 0, 0, 1), (21, .goto 4, 3, 25, 0, 0, 0), (24, .iconst 0, 1, 0, 0, 0, 0), (25, .istore_n 3, 1, 3, 0, 0, 0), (26, .iload_n 3, 1, 3, 0, 0, 0), (27, .ifCond .eq 16, 3, 43, 0, 0, 0), (30, .aload_n 0, 1, 0, 0, 0, 0), (31, .getfield 24, 3, 6, 5, 152, 0), (34, .iload_n 1, 1, 1, 0, 0, 0), (35, .iconst 3, 1, 0, 0, 0, 3), (36, .imul, 1, 0, 0, 0, 0), (37, .iload_n 2, 1, 2, 0, 0, 0), (38, .iadd, 1, 0, 0, 0, 0), (39, .iaload, 1, 0, 0, 0, 0), (40, .goto 4, 3, 44, 0, 0, 0), (43, .iconst (-1), 1, 0, 0, 0, (-1)), (44, .ireturn, 1, 0, 0, 0, 0)]
/-- TypeForms2$Types.argumentsOf(I)I -/
def kC_66 : List (Nat × ai_I) := [(0, .iconst 0, 1, 0, 0, 0, 0), (1, .istore_n 2, 1, 2, 0, 0, 0), (2, .iconst 0, 1, 0, 0, 0, 0), (3, .istore_n 3, 1, 3, 0, 0, 0), (4, .iload_n 3, 1, 3, 0, 0, 0), (5, .iconst 3, 1, 0, 0, 0, 3), (6, .if_icmp .ge 27, 3, 33, 0, 0, 0), (9, .iload_n 2, 1, 2, 0, 0, 0), (10, .aload_n 0, 1, 0, 0, 0, 0), (11, .iload_n 1, 1, 1, 0, 0, 0), (12, .iload_n 3, 1, 3, 0, 0, 0), (13, .invokevirtual 52, 3, 65, 2, 391, 0), (16, .iconst (-1), 1, 0, 0, 0, (-1)), (17, .if_icmp .ne 7, 3, 24, 0, 0, 0), (20, .iconst 0, 1, 0, 0, 0, 0), (21, .goto 4, 3, 25, 0, 0, 0), (24, .iconst 1, 1, 0, 0, 0, 1), (25, .iadd, 1, 0, 0, 0, 0), (26, .istore_n 2, 1, 2, 0, 0, 0), (27, .iinc 3 1, 3, 3, 0, 0, 1), (30, .goto (-26), 3, 4, 0, 0, 0), (33, .iload_n 2, 1, 2, 0, 0, 0), (34, .ireturn, 1, 0, 0, 0, 0)]
/-- TypeForms2$Types.isRaw(I)Z -/
def kC_67 : List (Nat × ai_I) := [(0, .iload_n 1, 1, 1, 0, 0, 0), (1, .ifCond .lt 23, 3, 24, 0, 0, 0), (4, .iload_n 1, 1, 1, 0, 0, 0), (5, .sipush 512, 3, 0, 0, 0, 512), (8, .if_icmp .ge 16, 3, 24, 0, 0, 0), (11, .aload_n 0, 1, 0, 0, 0, 0), (12, .getfield 30, 3, 6, 7, 154, 0), (15, .iload_n 1, 1, 1, 0, 0, 0), (16, .baload, 1, 0, 0, 0, 0), (17, .ifCond .eq 7, 3, 24, 0, 0, 0), (20, .iconst 1, 1, 0, 0, 0, 1), (21, .goto 4, 3, 25, 0, 0, 0), (24, .iconst 0, 1, 0, 0, 0, 0), (25, .ireturn, 1, 0, 1, 0, 0)]
/-- TypeForms2$Types.isOpen(I)Z -/
def kC_68 : List (Nat × ai_I) := [(0, .iload_n 1, 1, 1, 0, 0, 0), (1, .ifCond .lt 23, 3, 24, 0, 0, 0), (4, .iload_n 1, 1, 1, 0, 0, 0), (5, .sipush 512, 3, 0, 0, 0, 512), (8, .if_icmp .ge 16, 3, 24, 0, 0, 0), (11, .aload_n 0, 1, 0, 0, 0, 0), (12, .getfield 34, 3, 6, 8, 155, 0), (15, .iload_n 1, 1, 1, 0, 0, 0), (16, .baload, 1, 0, 0, 0, 0), (17, .ifCond .eq 7, 3, 24, 0, 0, 0), (20, .iconst 1, 1, 0, 0, 0, 1), (21, .goto 4, 3, 25, 0, 0, 0), (24, .iconst 0, 1, 0, 0, 0, 0), (25, .ireturn, 1, 0, 1, 0, 0)]
/-- TypeForms2$Types.canBeArgument(I)Z -/
def kC_69 : List (Nat × ai_I) := [(0, .aload_n 0, 1, 0, 0, 0, 0), (1, .iload_n 1, 1, 1, 0, 0, 0), (2, .invokevirtual 56, 3, 60, 1, 457, 0), (5, .iconst 2, 1, 0, 0, 0, 2), (6, .if_icmp .le 7, 3, 13, 0, 0, 0), (9, .iconst 1, 1, 0, 0, 0, 1), (10, .goto 4, 3, 14, 0, 0, 0), (13, .iconst 0, 1, 0, 0, 0, 0), (14, .ireturn, 1, 0, 1, 0, 0)]
/-- TypeForms2$Types.canBeElement(I)Z -/
def kC_70 : List (Nat × ai_I) := [(0, .aload_n 0, 1, 0, 0, 0, 0), (1, .iload_n 1, 1, 1, 0, 0, 0), (2, .invokevirtual 56, 3, 60, 1, 457, 0), (5, .iconst 1, 1, 0, 0, 0, 1), (6, .if_icmp .eq 16, 3, 22, 0, 0, 0), (9, .aload_n 0, 1, 0, 0, 0, 0), (10, .iload_n 1, 1, 1, 0, 0, 0), (11, .invokevirtual 56, 3, 60, 1, 457, 0), (14, .iconst 2, 1, 0, 0, 0, 2), (15, .if_icmp .eq 7, 3, 22, 0, 0, 0), (18, .iconst 1, 1, 0, 0, 0, 1), (19, .goto 4, 3, 23, 0, 0, 0), (22, .iconst 0, 1, 0, 0, 0, 0), (23, .ireturn, 1, 0, 1, 0, 0)]
/-- TypeForms2$Types.mark()I -/
def kC_71 : List (Nat × ai_I) := [(0, .aload_n 0, 1, 0, 0, 0, 0), (1, .getfield 49, 3, 6, 10, 157, 0), (4, .ireturn, 1, 0, 0, 0, 0)]
/-- TypeForms2$Types.release(I)V -/
def kC_72 : List (Nat × ai_I) := [(0, .iload_n 1, 1, 1, 0, 0, 0), (1, .sipush 200, 3, 0, 0, 0, 200), (4, .if_icmp .lt 16, 3, 20, 0, 0, 0), (7, .iload_n 1, 1, 1, 0, 0, 0), (8, .aload_n 0, 1, 0, 0, 0, 0), (9, .getfield 49, 3, 6, 10, 157, 0), (12, .if_icmp .gt 8, 3, 20, 0, 0, 0), (15, .aload_n 0, 1, 0, 0, 0, 0), (16, .iload_n 1, 1, 1, 0, 0, 0), (17, .putfield 49, 3, 6, 10, 157, 0), (20, .return_, 1, 0, 0, 0, 0)]
/-- TypeForms2$Types.forget()V -/
def kC_73 : List (Nat × ai_I) := [(0, .aload_n 0, 1, 0, 0, 0, 0), (1, .sipush 200, 3, 0, 0, 0, 200), (4, .putfield 49, 3, 6, 10, 157, 0), (7, .aload_n 0, 1, 0, 0, 0, 0), (8, .iconst 0, 1, 0, 0, 0, 0), (9, .putfield 60, 3, 6, 12, 159, 1), (12, .return_, 1, 0, 0, 0, 0)]
/-- TypeForms2$Types.shaped(IIIIII)I -/
def kC_74 : List (Nat × ai_I) := [(0, .sipush 200, 3, 0, 0, 0, 200), (3, .aload_n 0, 1, 0, 0, 0, 0), (4, .getfield 45, 3, 6, 9, 156, 0), (7, .isub, 1, 0, 0, 0, 0), (8, .istore 7, 2, 7, 0, 0, 0), (10, .bipush 10, 2, 0, 0, 0, 10), (12, .istore 8, 2, 8, 0, 0, 0), (14, .iload 8, 2, 8, 0, 0, 0), (16, .aload_n 0, 1, 0, 0, 0, 0), (17, .getfield 49, 3, 6, 10, 157, 0), (20, .iload 7, 2, 7, 0, 0, 0), (22, .isub, 1, 0, 0, 0, 0), (23, .if_icmp .ge 112, 3, 135, 0, 0, 0), (26, .iload 8, 2, 8, 0, 0, 0), (28, .aload_n 0, 1, 0, 0, 0, 0), (29, .getfield 45, 3, 6, 9, 156, 0), (32, .if_icmp .ge 8, 3, 40, 0, 0, 0), (35, .iload 8, 2, 8, 0, 0, 0), (37, .goto 8, 3, 45, 0, 0, 0), (40, .iload 8, 2, 8, 0, 0, 0), (42, .iload 7, 2, 7, 0, 0, 0), (44, .iadd, 1, 0, 0, 0, 0), (45, .istore 9, 2, 9, 0, 0, 0), (47, .aload_n 0, 1, 0, 0, 0, 0), (48, .getfield 9, 3, 6, 1, 148, 0), (51, .iload 9, 2, 9, 0, 0, 0), (53, .iaload, 1, 0, 0, 0, 0), (54, .iload_n 1, 1, 1, 0, 0, 0), (55, .if_icmp .ne 74, 3, 129, 0, 0, 0), (58, .aload_n 0, 1, 0, 0, 0, 0), (59, .getfield 15, 3, 6, 2, 149, 0), (62, .iload 9, 2, 9, 0, 0, 0), (64, .iaload, 1, 0, 0, 0, 0), (65, .iload_n 2, 1, 2, 0, 0, 0), (66, .if_icmp .ne 63, 3, 129, 0, 0, 0), (69, .aload_n 0, 1, 0, 0, 0, 0), (70, .getfield 21, 3, 6, 4, 151, 0), (73, .iload 9, 2, 9, 0, 0, 0), (75, .iaload, 1, 0, 0, 0, 0), (76, .iload_n 3, 1, 3, 0, 0, 0), (77, .if_icmp .ne 52, 3, 129, 0, 0, 0), (80, .aload_n 0, 1, 0, 0, 0, 0), (81, .getfield 24, 3, 6, 5, 152, 0), (84, .iload 9, 2, 9, 0, 0, 0), (86, .iconst 3, 1, 0, 0, 0, 3), (87, .imul, 1, 0, 0, 0, 0), (88, .iaload, 1, 0, 0, 0, 0), (89, .iload 4, 2, 4, 0, 0, 0), (91, .if_icmp .ne 38, 3, 129, 0, 0, 0), (94, .aload_n 0, 1, 0, 0, 0, 0), (95, .getfield 24, 3, 6, 5, 152, 0), (98, .iload 9, 2, 9, 0, 0, 0), (100, .iconst 3, 1, 0, 0, 0, 3), (101, .imul, 1, 0, 0, 0, 0), (102, .iconst 1, 1, 0, 0, 0, 1), (103, .iadd, 1, 0, 0, 0, 0), (104, .iaload, 1, 0, 0, 0, 0), (105, .iload 5, 2, 5, 0, 0, 0), (107, .if_icmp .ne 22, 3, 129, 0, 0, 0), (110, .aload_n 0, 1, 0, 0, 0, 0), (111, .getfield 24, 3, 6, 5, 152, 0), (114, .iload 9, 2, 9, 0, 0, 0), (116, .iconst 3, 1, 0, 0, 0, 3), (117, .imul, 1, 0, 0, 0, 0), (118, .iconst 2, 1, 0, 0, 0, 2), (119, .iadd, 1, 0, 0, 0, 0), (120, .iaload, 1, 0, 0, 0, 0), (121, .iload 6, 2, 6, 0, 0, 0), (123, .if_icmp .ne 6, 3, 129, 0, 0, 0), (126, .iload 9, 2, 9, 0, 0, 0), (128, .ireturn, 1, 0, 0, 0, 0), (129, .iinc 8 1, 3, 8, 0, 0, 1), (132, .goto (-118), 3, 14, 0, 0, 0), (135, .aload_n 0, 1, 0, 0, 0, 0), (136, .getfield 64, 3, 6, 11, 158, 0), (139, .ifCond .eq 10, 3, 149, 0, 0, 0), (142, .aload_n 0, 1, 0, 0, 0, 0), (143, .getfield 45, 3, 6, 9, 156, 0), (146, .goto 7, 3, 153, 0, 0, 0), (149, .aload_n 0, 1, 0, 0, 0, 0), (150, .getfield 49, 3, 6, 10, 157, 0), (153, .istore 8, 2, 8, 0, 0, 0), (155, .iload 8, 2, 8, 0, 0, 0), (157, .aload_n 0, 1, 0, 0, 0, 0), (158, .getfield 64, 3, 6, 11, 158, 0), (161, .ifCond .eq 9, 3, 170, 0, 0, 0), (164, .sipush 200, 3, 0, 0, 0, 200), (167, .goto 6, 3, 173, 0, 0, 0), (170, .sipush 512, 3, 0, 0, 0, 512), (173, .if_icmp .lt 11, 3, 184, 0, 0, 0), (176, .aload_n 0, 1, 0, 0, 0, 0), (177, .iconst 1, 1, 0, 0, 0, 1), (178, .putfield 60, 3, 6, 12, 159, 1), (181, .bipush 10, 2, 0, 0, 0, 10), (183, .ireturn, 1, 0, 0, 0, 0), (184, .aload_n 0, 1, 0, 0, 0, 0), (185, .getfield 9, 3, 6, 1, 148, 0), (188, .iload 8, 2, 8, 0, 0, 0), (190, .iload_n 1, 1, 1, 0, 0, 0), (191, .iastore, 1, 0, 0, 0, 0), (192, .aload_n 0, 1, 0, 0, 0, 0), (193, .getfield 15, 3, 6, 2, 149, 0), (196, .iload 8, 2, 8, 0, 0, 0), (198, .iload_n 2, 1, 2, 0, 0, 0), (199, .iastore, 1, 0, 0, 0, 0), (200, .aload_n 0, 1, 0, 0, 0, 0), (201, .getfield 18, 3, 6, 3, 150, 0), (204, .iload 8, 2, 8, 0, 0, 0), (206, .iconst (-1), 1, 0, 0, 0, (-1)), (207, .iastore, 1, 0, 0, 0, 0), (208, .aload_n 0, 1, 0, 0, 0, 0), (209, .getfield 21, 3, 6, 4, 151, 0), (212, .iload 8, 2, 8, 0, 0, 0), (214, .iload_n 3, 1, 3, 0, 0, 0), (215, .iastore, 1, 0, 0, 0, 0), (216, .aload_n 0, 1, 0, 0, 0, 0), (217, .getfield 24, 3, 6, 5, 152, 0), (220, .iload 8, 2, 8, 0, 0, 0), (222, .iconst 3, 1, 0, 0, 0, 3), (223, .imul, 1, 0, 0, 0, 0), (224, .iload 4, 2, 4, 0, 0, 0), (226, .iastore, 1, 0, 0, 0, 0), (227, .aload_n 0, 1, 0, 0, 0, 0), (228, .getfield 24, 3, 6, 5, 152, 0), (231, .iload 8, 2, 8, 0, 0, 0), (233, .iconst 3, 1, 0, 0, 0, 3), (234, .imul, 1, 0, 0, 0, 0), (235, .iconst 1, 1, 0, 0, 0, 1), (236, .iadd, 1, 0, 0, 0, 0), (237, .iload 5, 2, 5, 0, 0, 0), (239, .iastore, 1, 0, 0, 0, 0), (240, .aload_n 0, 1, 0, 0, 0, 0), (241, .getfield 24, 3, 6, 5, 152, 0), (244, .iload 8, 2, 8, 0, 0, 0), (246, .iconst 3, 1, 0, 0, 0, 3), (247, .imul, 1, 0, 0, 0, 0), (248, .iconst 2, 1, 0, 0, 0, 2), (249, .iadd, 1, 0, 0, 0, 0), (250, .iload 6, 2, 6, 0, 0, 0), (252, .iastore, 1, 0, 0, 0, 0), (253, .iconst 1, 1, 0, 0, 0, 1), (254, .istore 9, 2, 9, 0, 0, 0), (256, .iconst 0, 1, 0, 0, 0, 0), (257, .istore 10, 2, 10, 0, 0, 0), (259, .iconst 0, 1, 0, 0, 0, 0), (260, .istore 11, 2, 11, 0, 0, 0), (262, .iload 11, 2, 11, 0, 0, 0), (264, .iconst 3, 1, 0, 0, 0, 3), (265, .if_icmp .gt 74, 3, 339, 0, 0, 0), (268, .iload 11, 2, 11, 0, 0, 0), (270, .iconst 3, 1, 0, 0, 0, 3), (271, .if_icmp .ge 22, 3, 293, 0, 0, 0), (274, .aload_n 0, 1, 0, 0, 0, 0), (275, .getfield 24, 3, 6, 5, 152, 0), (278, .iload 8, 2, 8, 0, 0, 0), (280, .iconst 3, 1, 0, 0, 0, 3), (281, .imul, 1, 0, 0, 0, 0), (282, .iload 11, 2, 11, 0, 0, 0), (284, .iadd, 1, 0, 0, 0, 0), (285, .iaload, 1, 0, 0, 0, 0), (286, .iconst 2, 1, 0, 0, 0, 2), (287, .ishr, 1, 0, 0, 0, 0), (288, .iconst 1, 1, 0, 0, 0, 1), (289, .isub, 1, 0, 0, 0, 0), (290, .goto 4, 3, 294, 0, 0, 0), (293, .iload_n 3, 1, 3, 0, 0, 0), (294, .istore 12, 2, 12, 0, 0, 0), (296, .iload 12, 2, 12, 0, 0, 0), (298, .ifCond .lt 35, 3, 333, 0, 0, 0), (301, .iload 12, 2, 12, 0, 0, 0), (303, .sipush 512, 3, 0, 0, 0, 512), (306, .if_icmp .ge 27, 3, 333, 0, 0, 0), (309, .iload 9, 2, 9, 0, 0, 0), (311, .aload_n 0, 1, 0, 0, 0, 0), (312, .getfield 27, 3, 6, 6, 153, 0), (315, .iload 12, 2, 12, 0, 0, 0), (317, .iaload, 1, 0, 0, 0, 0), (318, .iadd, 1, 0, 0, 0, 0), (319, .istore 9, 2, 9, 0, 0, 0), (321, .iload 10, 2, 10, 0, 0, 0), (323, .aload_n 0, 1, 0, 0, 0, 0), (324, .getfield 34, 3, 6, 8, 155, 0), (327, .iload 12, 2, 12, 0, 0, 0), (329, .baload, 1, 0, 0, 0, 0), (330, .ior, 1, 0, 0, 0, 0), (331, .istore 10, 2, 10, 0, 0, 0), (333, .iinc 11 1, 3, 11, 0, 0, 1), (336, .goto (-74), 3, 262, 0, 0, 0), (339, .aload_n 0, 1, 0, 0, 0, 0), (340, .getfield 27, 3, 6, 6, 153, 0), (343, .iload 8, 2, 8, 0, 0, 0), (345, .iload 9, 2, 9, 0, 0, 0), (347, .bipush 61, 2, 0, 0, 0, 61), (349, .invokestatic 67, 3, 1001, 2, 497, 0), (352, .iastore, 1, 0, 0, 0, 0), (353, .aload_n 0, 1, 0, 0, 0, 0), (354, .getfield 34, 3, 6, 8, 155, 0), (357, .iload 8, 2, 8, 0, 0, 0), (359, .iload 10, 2, 10, 0, 0, 0), (361, .bastore, 1, 0, 0, 0, 0), (362, .iload 4, 2, 4, 0, 0, 0), (364, .iconst (-1), 1, 0, 0, 0, (-1)), (365, .if_icmp .ne 29, 3, 394, 0, 0, 0), (368, .iload_n 2, 1, 2, 0, 0, 0), (369, .ifCond .lt 25, 3, 394, 0, 0, 0), (372, .iload_n 2, 1, 2, 0, 0, 0), (373, .bipush 12, 2, 0, 0, 0, 12), (375, .if_icmp .ge 19, 3, 394, 0, 0, 0), (378, .aload_n 0, 1, 0, 0, 0, 0), (379, .getfield 37, 3, 6, 0, 147, 0), (382, .getfield 72, 3, 0, 1, 100, 0), (385, .iload_n 2, 1, 2, 0, 0, 0), (386, .iaload, 1, 0, 0, 0, 0), (387, .ifCond .le 7, 3, 394, 0, 0, 0), (390, .iconst 1, 1, 0, 0, 0, 1), (391, .goto 4, 3, 395, 0, 0, 0), (394, .iconst 0, 1, 0, 0, 0, 0), (395, .istore 11, 2, 11, 0, 0, 0), (397, .iload_n 3, 1, 3, 0, 0, 0), (398, .ifCond .lt 23, 3, 421, 0, 0, 0), (401, .iload_n 3, 1, 3, 0, 0, 0), (402, .sipush 512, 3, 0, 0, 0, 512), (405, .if_icmp .ge 16, 3, 421, 0, 0, 0), (408, .aload_n 0, 1, 0, 0, 0, 0), (409, .getfield 30, 3, 6, 7, 154, 0), (412, .iload_n 3, 1, 3, 0, 0, 0), (413, .baload, 1, 0, 0, 0, 0), (414, .ifCond .eq 7, 3, 421, 0, 0, 0), (417, .iconst 1, 1, 0, 0, 0, 1), (418, .goto 4, 3, 422, 0, 0, 0), (421, .iconst 0, 1, 0, 0, 0, 0), (422, .istore 12, 2, 12, 0, 0, 0), (424, .aload_n 0, 1, 0, 0, 0, 0), (425, .getfield 30, 3, 6, 7, 154, 0), (428, .iload 8, 2, 8, 0, 0, 0), (430, .iload_n 1, 1, 1, 0, 0, 0), (431, .iconst 5, 1, 0, 0, 0, 5), (432, .if_icmp .ne 17, 3, 449, 0, 0, 0), (435, .iload 11, 2, 11, 0, 0, 0), (437, .ifCond .ne 8, 3, 445, 0, 0, 0), (440, .iload 12, 2, 12, 0, 0, 0), (442, .ifCond .eq 7, 3, 449, 0, 0, 0), (445, .iconst 1, 1, 0, 0, 0, 1), (446, .goto 4, 3, 450, 0, 0, 0), (449, .iconst 0, 1, 0, 0, 0, 0), (450, .bastore, 1, 0, 0, 0, 0), (451, .aload_n 0, 1, 0, 0, 0, 0), (452, .getfield 64, 3, 6, 11, 158, 0), (455, .ifCond .eq 16, 3, 471, 0, 0, 0), (458, .aload_n 0, 1, 0, 0, 0, 0), (459, .dup, 1, 0, 0, 0, 0), (460, .getfield 45, 3, 6, 9, 156, 0), (463, .iconst 1, 1, 0, 0, 0, 1), (464, .iadd, 1, 0, 0, 0, 0), (465, .putfield 45, 3, 6, 9, 156, 0), (468, .goto 13, 3, 481, 0, 0, 0), (471, .aload_n 0, 1, 0, 0, 0, 0), (472, .dup, 1, 0, 0, 0, 0), (473, .getfield 49, 3, 6, 10, 157, 0), (476, .iconst 1, 1, 0, 0, 0, 1), (477, .iadd, 1, 0, 0, 0, 0), (478, .putfield 49, 3, 6, 10, 157, 0), (481, .iload 8, 2, 8, 0, 0, 0), (483, .ireturn, 1, 0, 0, 0, 0)]
/-- TypeForms2$Types.answer(I)I -/
def kC_75 : List (Nat × ai_I) := [(0, .aload_n 0, 1, 0, 0, 0, 0), (1, .getfield 60, 3, 6, 12, 159, 0), (4, .ifCond .ne 25, 3, 29, 0, 0, 0), (7, .iload_n 1, 1, 1, 0, 0, 0), (8, .ifCond .lt 21, 3, 29, 0, 0, 0), (11, .iload_n 1, 1, 1, 0, 0, 0), (12, .sipush 512, 3, 0, 0, 0, 512), (15, .if_icmp .ge 14, 3, 29, 0, 0, 0), (18, .aload_n 0, 1, 0, 0, 0, 0), (19, .getfield 27, 3, 6, 6, 153, 0), (22, .iload_n 1, 1, 1, 0, 0, 0), (23, .iaload, 1, 0, 0, 0, 0), (24, .bipush 60, 2, 0, 0, 0, 60), (26, .if_icmp .le 6, 3, 32, 0, 0, 0), (29, .bipush (-5), 2, 0, 0, 0, (-5)), (31, .ireturn, 1, 0, 0, 0, 0), (32, .aload_n 0, 1, 0, 0, 0, 0), (33, .getfield 45, 3, 6, 9, 156, 0), (36, .istore_n 2, 1, 2, 0, 0, 0), (37, .aload_n 0, 1, 0, 0, 0, 0), (38, .sipush 200, 3, 0, 0, 0, 200), (41, .putfield 49, 3, 6, 10, 157, 0), (44, .aload_n 0, 1, 0, 0, 0, 0), (45, .iconst 1, 1, 0, 0, 0, 1), (46, .putfield 64, 3, 6, 11, 158, 1), (49, .aload_n 0, 1, 0, 0, 0, 0), (50, .iload_n 1, 1, 1, 0, 0, 0), (51, .iconst 0, 1, 0, 0, 0, 0), (52, .invokevirtual 77, 3, 76, 2, 603, 0), (55, .istore_n 3, 1, 3, 0, 0, 0), (56, .aload_n 0, 1, 0, 0, 0, 0), (57, .iconst 0, 1, 0, 0, 0, 0), (58, .putfield 64, 3, 6, 11, 158, 1), (61, .aload_n 0, 1, 0, 0, 0, 0), (62, .getfield 60, 3, 6, 12, 159, 0), (65, .ifCond .eq 11, 3, 76, 0, 0, 0), (68, .aload_n 0, 1, 0, 0, 0, 0), (69, .iload_n 2, 1, 2, 0, 0, 0), (70, .putfield 45, 3, 6, 9, 156, 0), (73, .bipush (-5), 2, 0, 0, 0, (-5)), (75, .ireturn, 1, 0, 0, 0, 0), (76, .iload_n 3, 1, 3, 0, 0, 0), (77, .ireturn, 1, 0, 0, 0, 0)]
/-- TypeForms2$Types.keep(II)I -/
def kC_76 : List (Nat × ai_I) := [(0, .iload_n 1, 1, 1, 0, 0, 0), (1, .sipush 200, 3, 0, 0, 0, 200), (4, .if_icmp .lt 16, 3, 20, 0, 0, 0), (7, .iload_n 1, 1, 1, 0, 0, 0), (8, .sipush 512, 3, 0, 0, 0, 512), (11, .if_icmp .ge 9, 3, 20, 0, 0, 0), (14, .iload_n 2, 1, 2, 0, 0, 0), (15, .bipush 64, 2, 0, 0, 0, 64), (17, .if_icmp .le 5, 3, 22, 0, 0, 0), (20, .iload_n 1, 1, 1, 0, 0, 0), (21, .ireturn, 1, 0, 0, 0, 0), (22, .aload_n 0, 1, 0, 0, 0, 0), (23, .aload_n 0, 1, 0, 0, 0, 0), (24, .getfield 21, 3, 6, 4, 151, 0), (27, .iload_n 1, 1, 1, 0, 0, 0), (28, .iaload, 1, 0, 0, 0, 0), (29, .iload_n 2, 1, 2, 0, 0, 0), (30, .iconst 1, 1, 0, 0, 0, 1), (31, .iadd, 1, 0, 0, 0, 0), (32, .invokevirtual 77, 3, 76, 2, 603, 0), (35, .istore_n 3, 1, 3, 0, 0, 0), (36, .aload_n 0, 1, 0, 0, 0, 0), (37, .aload_n 0, 1, 0, 0, 0, 0), (38, .getfield 24, 3, 6, 5, 152, 0), (41, .iload_n 1, 1, 1, 0, 0, 0), (42, .iconst 3, 1, 0, 0, 0, 3), (43, .imul, 1, 0, 0, 0, 0), (44, .iaload, 1, 0, 0, 0, 0), (45, .iload_n 2, 1, 2, 0, 0, 0), (46, .invokevirtual 80, 3, 77, 2, 607, 0), (49, .istore 4, 2, 4, 0, 0, 0), (51, .aload_n 0, 1, 0, 0, 0, 0), (52, .aload_n 0, 1, 0, 0, 0, 0), (53, .getfield 24, 3, 6, 5, 152, 0), (56, .iload_n 1, 1, 1, 0, 0, 0), (57, .iconst 3, 1, 0, 0, 0, 3), (58, .imul, 1, 0, 0, 0, 0), (59, .iconst 1, 1, 0, 0, 0, 1), (60, .iadd, 1, 0, 0, 0, 0), (61, .iaload, 1, 0, 0, 0, 0), (62, .iload_n 2, 1, 2, 0, 0, 0), (63, .invokevirtual 80, 3, 77, 2, 607, 0), (66, .istore 5, 2, 5, 0, 0, 0), (68, .aload_n 0, 1, 0, 0, 0, 0), (69, .aload_n 0, 1, 0, 0, 0, 0), (70, .getfield 24, 3, 6, 5, 152, 0), (73, .iload_n 1, 1, 1, 0, 0, 0), (74, .iconst 3, 1, 0, 0, 0, 3), (75, .imul, 1, 0, 0, 0, 0), (76, .iconst 2, 1, 0, 0, 0, 2), (77, .iadd, 1, 0, 0, 0, 0), (78, .iaload, 1, 0, 0, 0, 0), (79, .iload_n 2, 1, 2, 0, 0, 0), (80, .invokevirtual 80, 3, 77, 2, 607, 0), (83, .istore 6, 2, 6, 0, 0, 0), (85, .aload_n 0, 1, 0, 0, 0, 0), (86, .aload_n 0, 1, 0, 0, 0, 0), (87, .getfield 9, 3, 6, 1, 148, 0), (90, .iload_n 1, 1, 1, 0, 0, 0), (91, .iaload, 1, 0, 0, 0, 0), (92, .aload_n 0, 1, 0, 0, 0, 0), (93, .getfield 15, 3, 6, 2, 149, 0), (96, .iload_n 1, 1, 1, 0, 0, 0), (97, .iaload, 1, 0, 0, 0, 0), (98, .iload_n 3, 1, 3, 0, 0, 0), (99, .iload 4, 2, 4, 0, 0, 0), (101, .iload 5, 2, 5, 0, 0, 0), (103, .iload 6, 2, 6, 0, 0, 0), (105, .invokevirtual 83, 3, 74, 6, 614, 0), (108, .ireturn, 1, 0, 0, 0, 0)]
/-- TypeForms2$Types.keepArgument(II)I -/
def kC_77 : List (Nat × ai_I) := [(0, .iload_n 1, 1, 1, 0, 0, 0), (1, .invokestatic 87, 3, 98, 1, 611, 0), (4, .istore_n 3, 1, 3, 0, 0, 0), (5, .iload_n 3, 1, 3, 0, 0, 0), (6, .iconst (-1), 1, 0, 0, 0, (-1)), (7, .if_icmp .ne 7, 3, 14, 0, 0, 0), (10, .iload_n 1, 1, 1, 0, 0, 0), (11, .goto 18, 3, 29, 0, 0, 0), (14, .iload_n 1, 1, 1, 0, 0, 0), (15, .invokestatic 90, 3, 97, 1, 612, 0), (18, .aload_n 0, 1, 0, 0, 0, 0), (19, .iload_n 3, 1, 3, 0, 0, 0), (20, .iload_n 2, 1, 2, 0, 0, 0), (21, .iconst 1, 1, 0, 0, 0, 1), (22, .iadd, 1, 0, 0, 0, 0), (23, .invokevirtual 77, 3, 76, 2, 603, 0), (26, .invokestatic 93, 3, 96, 2, 613, 0), (29, .ireturn, 1, 0, 0, 0, 0)]
/-- TypeForms2.declare(III)I -/
def kC_78 : List (Nat × ai_I) := [(0, .iload_n 3, 1, 3, 0, 0, 0), (1, .iconst (-1), 1, 0, 0, 0, (-1)), (2, .if_icmp .eq 17, 3, 19, 0, 0, 0), (5, .aload_n 0, 1, 0, 0, 0, 0), (6, .getfield 10, 3, 7, 0, 286, 0), (9, .iload_n 3, 1, 3, 0, 0, 0), (10, .invokevirtual 78, 3, 1, 1, 318, 0), (13, .ifCond .ne 6, 3, 19, 0, 0, 0), (16, .bipush (-2), 2, 0, 0, 0, (-2)), (18, .ireturn, 1, 0, 0, 0, 0), (19, .iload_n 1, 1, 1, 0, 0, 0), (20, .ifCond .lt 17, 3, 37, 0, 0, 0), (23, .iload_n 1, 1, 1, 0, 0, 0), (24, .iconst 2, 1, 0, 0, 0, 2), (25, .if_icmp .gt 12, 3, 37, 0, 0, 0), (28, .iload_n 2, 1, 2, 0, 0, 0), (29, .ifCond .lt 8, 3, 37, 0, 0, 0), (32, .iload_n 2, 1, 2, 0, 0, 0), (33, .iconst 3, 1, 0, 0, 0, 3), (34, .if_icmp .le 6, 3, 40, 0, 0, 0), (37, .bipush (-3), 2, 0, 0, 0, (-3)), (39, .ireturn, 1, 0, 0, 0, 0), (40, .iload_n 1, 1, 1, 0, 0, 0), (41, .iconst 2, 1, 0, 0, 0, 2), (42, .if_icmp .ne 10, 3, 52, 0, 0, 0), (45, .iload_n 2, 1, 2, 0, 0, 0), (46, .ifCond .le 6, 3, 52, 0, 0, 0), (49, .bipush (-101), 2, 0, 0, 0, (-101)), (51, .ireturn, 1, 0, 0, 0, 0), (52, .aload_n 0, 1, 0, 0, 0, 0), (53, .getfield 10, 3, 7, 0, 286, 0), (56, .invokevirtual 82, 3, 2, 0, 322, 0), (59, .ifCond .eq 14, 3, 73, 0, 0, 0), (62, .aload_n 0, 1, 0, 0, 0, 0), (63, .getfield 21, 3, 7, 1, 287, 0), (66, .iload_n 2, 1, 2, 0, 0, 0), (67, .invokevirtual 86, 3, 58, 1, 326, 0), (70, .ifCond .ne 6, 3, 76, 0, 0, 0), (73, .bipush (-5), 2, 0, 0, 0, (-5)), (75, .ireturn, 1, 0, 0, 0, 0), (76, .aload_n 0, 1, 0, 0, 0, 0), (77, .getfield 21, 3, 7, 1, 287, 0), (80, .aload_n 0, 1, 0, 0, 0, 0), (81, .getfield 10, 3, 7, 0, 286, 0), (84, .invokevirtual 89, 3, 0, 0, 330, 0), (87, .iload_n 2, 1, 2, 0, 0, 0), (88, .invokevirtual 93, 3, 59, 2, 334, 0), (91, .istore 4, 2, 4, 0, 0, 0), (93, .aload_n 0, 1, 0, 0, 0, 0), (94, .getfield 10, 3, 7, 0, 286, 0), (97, .iload_n 1, 1, 1, 0, 0, 0), (98, .iload_n 2, 1, 2, 0, 0, 0), (99, .iload_n 3, 1, 3, 0, 0, 0), (100, .iload 4, 2, 4, 0, 0, 0), (102, .invokevirtual 97, 3, 3, 4, 338, 0), (105, .ireturn, 1, 0, 0, 0, 0)]
/-- TypeForms2.variable(II)I -/
def kC_79 : List (Nat × ai_I) := [(0, .aload_n 0, 1, 0, 0, 0, 0), (1, .getfield 10, 3, 7, 0, 286, 0), (4, .iload_n 1, 1, 1, 0, 0, 0), (5, .iload_n 2, 1, 2, 0, 0, 0), (6, .invokevirtual 101, 3, 9, 2, 347, 0), (9, .istore_n 3, 1, 3, 0, 0, 0), (10, .iload_n 3, 1, 3, 0, 0, 0), (11, .iconst (-1), 1, 0, 0, 0, (-1)), (12, .if_icmp .ne 8, 3, 20, 0, 0, 0), (15, .bipush (-2), 2, 0, 0, 0, (-2)), (17, .goto 4, 3, 21, 0, 0, 0), (20, .iload_n 3, 1, 3, 0, 0, 0), (21, .ireturn, 1, 0, 0, 0, 0)]
/-- TypeForms2.bound(III)I -/
def kC_80 : List (Nat × ai_I) := [(0, .aload_n 0, 1, 0, 0, 0, 0), (1, .getfield 10, 3, 7, 0, 286, 0), (4, .iload_n 1, 1, 1, 0, 0, 0), (5, .iload_n 2, 1, 2, 0, 0, 0), (6, .invokevirtual 101, 3, 9, 2, 347, 0), (9, .iconst (-1), 1, 0, 0, 0, (-1)), (10, .if_icmp .eq 14, 3, 24, 0, 0, 0), (13, .aload_n 0, 1, 0, 0, 0, 0), (14, .getfield 21, 3, 7, 1, 287, 0), (17, .iload_n 3, 1, 3, 0, 0, 0), (18, .invokevirtual 104, 3, 57, 1, 359, 0), (21, .ifCond .ne 6, 3, 27, 0, 0, 0), (24, .bipush (-2), 2, 0, 0, 0, (-2)), (26, .ireturn, 1, 0, 0, 0, 0), (27, .aload_n 0, 1, 0, 0, 0, 0), (28, .getfield 48, 3, 7, 4, 290, 0), (31, .iload_n 1, 1, 1, 0, 0, 0), (32, .iload_n 2, 1, 2, 0, 0, 0), (33, .iload_n 3, 1, 3, 0, 0, 0), (34, .invokevirtual 107, 3, 49, 3, 363, 0), (37, .istore 4, 2, 4, 0, 0, 0), (39, .iload 4, 2, 4, 0, 0, 0), (41, .ifCond .eq 11, 3, 52, 0, 0, 0), (44, .bipush (-100), 2, 0, 0, 0, (-100)), (46, .iload 4, 2, 4, 0, 0, 0), (48, .isub, 1, 0, 0, 0, 0), (49, .goto 13, 3, 62, 0, 0, 0), (52, .aload_n 0, 1, 0, 0, 0, 0), (53, .getfield 10, 3, 7, 0, 286, 0), (56, .iload_n 1, 1, 1, 0, 0, 0), (57, .iload_n 2, 1, 2, 0, 0, 0), (58, .iload_n 3, 1, 3, 0, 0, 0), (59, .invokevirtual 111, 3, 13, 3, 419, 0), (62, .ireturn, 1, 0, 0, 0, 0)]
/-- TypeForms2.parent(II)I -/
def kC_81 : List (Nat × ai_I) := [(0, .iload_n 1, 1, 1, 0, 0, 0), (1, .ifCond .eq 25, 3, 26, 0, 0, 0), (4, .aload_n 0, 1, 0, 0, 0, 0), (5, .getfield 10, 3, 7, 0, 286, 0), (8, .iload_n 1, 1, 1, 0, 0, 0), (9, .invokevirtual 78, 3, 1, 1, 318, 0), (12, .ifCond .eq 14, 3, 26, 0, 0, 0), (15, .aload_n 0, 1, 0, 0, 0, 0), (16, .getfield 21, 3, 7, 1, 287, 0), (19, .iload_n 2, 1, 2, 0, 0, 0), (20, .invokevirtual 104, 3, 57, 1, 359, 0), (23, .ifCond .ne 6, 3, 29, 0, 0, 0), (26, .bipush (-2), 2, 0, 0, 0, (-2)), (28, .ireturn, 1, 0, 0, 0, 0), (29, .aload_n 0, 1, 0, 0, 0, 0), (30, .getfield 48, 3, 7, 4, 290, 0), (33, .iload_n 1, 1, 1, 0, 0, 0), (34, .iload_n 2, 1, 2, 0, 0, 0), (35, .invokevirtual 114, 3, 50, 2, 431, 0), (38, .istore_n 3, 1, 3, 0, 0, 0), (39, .iload_n 3, 1, 3, 0, 0, 0), (40, .ifCond .eq 10, 3, 50, 0, 0, 0), (43, .bipush (-100), 2, 0, 0, 0, (-100)), (45, .iload_n 3, 1, 3, 0, 0, 0), (46, .isub, 1, 0, 0, 0, 0), (47, .goto 20, 3, 67, 0, 0, 0), (50, .aload_n 0, 1, 0, 0, 0, 0), (51, .getfield 10, 3, 7, 0, 286, 0), (54, .iload_n 1, 1, 1, 0, 0, 0), (55, .iload_n 2, 1, 2, 0, 0, 0), (56, .aload_n 0, 1, 0, 0, 0, 0), (57, .getfield 21, 3, 7, 1, 287, 0), (60, .iload_n 2, 1, 2, 0, 0, 0), (61, .invokevirtual 117, 3, 61, 1, 439, 0), (64, .invokevirtual 121, 3, 15, 3, 440, 0), (67, .ireturn, 1, 0, 0, 0, 0)]
/-- TypeForms2.argument(II)I -/
def kC_82 : List (Nat × ai_I) := [(0, .iload_n 1, 1, 1, 0, 0, 0), (1, .iconst 3, 1, 0, 0, 0, 3), (2, .if_icmp .eq 17, 3, 19, 0, 0, 0), (5, .aload_n 0, 1, 0, 0, 0, 0), (6, .getfield 21, 3, 7, 1, 287, 0), (9, .iload_n 2, 1, 2, 0, 0, 0), (10, .invokevirtual 104, 3, 57, 1, 359, 0), (13, .ifCond .ne 6, 3, 19, 0, 0, 0), (16, .bipush (-2), 2, 0, 0, 0, (-2)), (18, .ireturn, 1, 0, 0, 0, 0), (19, .iload_n 1, 1, 1, 0, 0, 0), (20, .ifCond .lt 8, 3, 28, 0, 0, 0), (23, .iload_n 1, 1, 1, 0, 0, 0), (24, .iconst 3, 1, 0, 0, 0, 3), (25, .if_icmp .le 6, 3, 31, 0, 0, 0), (28, .bipush (-3), 2, 0, 0, 0, (-3)), (30, .ireturn, 1, 0, 0, 0, 0), (31, .iload_n 1, 1, 1, 0, 0, 0), (32, .iconst 3, 1, 0, 0, 0, 3), (33, .if_icmp .eq 17, 3, 50, 0, 0, 0), (36, .aload_n 0, 1, 0, 0, 0, 0), (37, .getfield 21, 3, 7, 1, 287, 0), (40, .iload_n 2, 1, 2, 0, 0, 0), (41, .invokevirtual 124, 3, 69, 1, 453, 0), (44, .ifCond .ne 6, 3, 50, 0, 0, 0), (47, .bipush (-109), 2, 0, 0, 0, (-109)), (49, .ireturn, 1, 0, 0, 0, 0), (50, .aload_n 0, 1, 0, 0, 0, 0), (51, .getfield 74, 3, 7, 8, 294, 0), (54, .iconst 3, 1, 0, 0, 0, 3), (55, .if_icmp .lt 6, 3, 61, 0, 0, 0), (58, .bipush (-5), 2, 0, 0, 0, (-5)), (60, .ireturn, 1, 0, 0, 0, 0), (61, .aload_n 0, 1, 0, 0, 0, 0), (62, .getfield 70, 3, 7, 7, 293, 0), (65, .aload_n 0, 1, 0, 0, 0, 0), (66, .getfield 74, 3, 7, 8, 294, 0), (69, .iload_n 1, 1, 1, 0, 0, 0), (70, .iload_n 2, 1, 2, 0, 0, 0), (71, .invokestatic 127, 3, 96, 2, 458, 0), (74, .iastore, 1, 0, 0, 0, 0), (75, .aload_n 0, 1, 0, 0, 0, 0), (76, .dup, 1, 0, 0, 0, 0), (77, .getfield 74, 3, 7, 8, 294, 0), (80, .iconst 1, 1, 0, 0, 0, 1), (81, .iadd, 1, 0, 0, 0, 0), (82, .putfield 74, 3, 7, 8, 294, 0), (85, .aload_n 0, 1, 0, 0, 0, 0), (86, .getfield 74, 3, 7, 8, 294, 0), (89, .ireturn, 1, 0, 0, 0, 0)]
/-- TypeForms2.make(II)I -/
def kC_83 : List (Nat × ai_I) := [(0, .aload_n 0, 1, 0, 0, 0, 0), (1, .getfield 74, 3, 7, 8, 294, 0), (4, .ifCond .le 12, 3, 16, 0, 0, 0), (7, .aload_n 0, 1, 0, 0, 0, 0), (8, .getfield 70, 3, 7, 7, 293, 0), (11, .iconst 0, 1, 0, 0, 0, 0), (12, .iaload, 1, 0, 0, 0, 0), (13, .goto 4, 3, 17, 0, 0, 0), (16, .iconst (-1), 1, 0, 0, 0, (-1)), (17, .istore_n 3, 1, 3, 0, 0, 0), (18, .aload_n 0, 1, 0, 0, 0, 0), (19, .getfield 74, 3, 7, 8, 294, 0), (22, .iconst 1, 1, 0, 0, 0, 1), (23, .if_icmp .le 12, 3, 35, 0, 0, 0), (26, .aload_n 0, 1, 0, 0, 0, 0), (27, .getfield 70, 3, 7, 7, 293, 0), (30, .iconst 1, 1, 0, 0, 0, 1), (31, .iaload, 1, 0, 0, 0, 0), (32, .goto 4, 3, 36, 0, 0, 0), (35, .iconst (-1), 1, 0, 0, 0, (-1)), (36, .istore 4, 2, 4, 0, 0, 0), (38, .aload_n 0, 1, 0, 0, 0, 0), (39, .getfield 74, 3, 7, 8, 294, 0), (42, .iconst 2, 1, 0, 0, 0, 2), (43, .if_icmp .le 12, 3, 55, 0, 0, 0), (46, .aload_n 0, 1, 0, 0, 0, 0), (47, .getfield 70, 3, 7, 7, 293, 0), (50, .iconst 2, 1, 0, 0, 0, 2), (51, .iaload, 1, 0, 0, 0, 0), (52, .goto 4, 3, 56, 0, 0, 0), (55, .iconst (-1), 1, 0, 0, 0, (-1)), (56, .istore 5, 2, 5, 0, 0, 0), (58, .aload_n 0, 1, 0, 0, 0, 0), (59, .iconst 0, 1, 0, 0, 0, 0), (60, .putfield 74, 3, 7, 8, 294, 0), (63, .aload_n 0, 1, 0, 0, 0, 0), (64, .getfield 10, 3, 7, 0, 286, 0), (67, .iload_n 1, 1, 1, 0, 0, 0), (68, .invokevirtual 78, 3, 1, 1, 318, 0), (71, .ifCond .eq 19, 3, 90, 0, 0, 0), (74, .iload_n 2, 1, 2, 0, 0, 0), (75, .iconst (-1), 1, 0, 0, 0, (-1)), (76, .if_icmp .eq 17, 3, 93, 0, 0, 0), (79, .aload_n 0, 1, 0, 0, 0, 0), (80, .getfield 21, 3, 7, 1, 287, 0), (83, .iload_n 2, 1, 2, 0, 0, 0), (84, .invokevirtual 104, 3, 57, 1, 359, 0), (87, .ifCond .ne 6, 3, 93, 0, 0, 0), (90, .bipush (-2), 2, 0, 0, 0, (-2)), (92, .ireturn, 1, 0, 0, 0, 0), (93, .aload_n 0, 1, 0, 0, 0, 0), (94, .getfield 21, 3, 7, 1, 287, 0), (97, .invokevirtual 130, 3, 73, 0, 465, 0), (100, .aload_n 0, 1, 0, 0, 0, 0), (101, .getfield 48, 3, 7, 4, 290, 0), (104, .iload_n 1, 1, 1, 0, 0, 0), (105, .iload_n 2, 1, 2, 0, 0, 0), (106, .iload_n 3, 1, 3, 0, 0, 0), (107, .iload 4, 2, 4, 0, 0, 0), (109, .iload 5, 2, 5, 0, 0, 0), (111, .invokevirtual 133, 3, 53, 5, 469, 0), (114, .istore 6, 2, 6, 0, 0, 0), (116, .iload 6, 2, 6, 0, 0, 0), (118, .ifCond .eq 9, 3, 127, 0, 0, 0), (121, .bipush (-100), 2, 0, 0, 0, (-100)), (123, .iload 6, 2, 6, 0, 0, 0), (125, .isub, 1, 0, 0, 0, 0), (126, .ireturn, 1, 0, 0, 0, 0), (127, .aload_n 0, 1, 0, 0, 0, 0), (128, .getfield 21, 3, 7, 1, 287, 0), (131, .aload_n 0, 1, 0, 0, 0, 0), (132, .getfield 21, 3, 7, 1, 287, 0), (135, .iconst 5, 1, 0, 0, 0, 5), (136, .iload_n 1, 1, 1, 0, 0, 0), (137, .iload_n 2, 1, 2, 0, 0, 0), (138, .iload_n 3, 1, 3, 0, 0, 0), (139, .iload 4, 2, 4, 0, 0, 0), (141, .iload 5, 2, 5, 0, 0, 0), (143, .invokevirtual 137, 3, 74, 6, 598, 0), (146, .invokevirtual 141, 3, 75, 1, 599, 0), (149, .ireturn, 1, 0, 0, 0, 0)]
/-- TypeForms2.array(I)I -/
def kC_84 : List (Nat × ai_I) := [(0, .aload_n 0, 1, 0, 0, 0, 0), (1, .getfield 21, 3, 7, 1, 287, 0), (4, .iload_n 1, 1, 1, 0, 0, 0), (5, .invokevirtual 104, 3, 57, 1, 359, 0), (8, .ifCond .ne 6, 3, 14, 0, 0, 0), (11, .bipush (-2), 2, 0, 0, 0, (-2)), (13, .ireturn, 1, 0, 0, 0, 0), (14, .aload_n 0, 1, 0, 0, 0, 0), (15, .getfield 21, 3, 7, 1, 287, 0), (18, .iload_n 1, 1, 1, 0, 0, 0), (19, .invokevirtual 144, 3, 70, 1, 619, 0), (22, .ifCond .ne 6, 3, 28, 0, 0, 0), (25, .bipush (-114), 2, 0, 0, 0, (-114)), (27, .ireturn, 1, 0, 0, 0, 0), (28, .aload_n 0, 1, 0, 0, 0, 0), (29, .getfield 21, 3, 7, 1, 287, 0), (32, .invokevirtual 130, 3, 73, 0, 465, 0), (35, .aload_n 0, 1, 0, 0, 0, 0), (36, .getfield 21, 3, 7, 1, 287, 0), (39, .aload_n 0, 1, 0, 0, 0, 0), (40, .getfield 21, 3, 7, 1, 287, 0), (43, .iconst 4, 1, 0, 0, 0, 4), (44, .iconst (-1), 1, 0, 0, 0, (-1)), (45, .iload_n 1, 1, 1, 0, 0, 0), (46, .iconst (-1), 1, 0, 0, 0, (-1)), (47, .iconst (-1), 1, 0, 0, 0, (-1)), (48, .iconst (-1), 1, 0, 0, 0, (-1)), (49, .invokevirtual 137, 3, 74, 6, 598, 0), (52, .invokevirtual 141, 3, 75, 1, 599, 0), (55, .ireturn, 1, 0, 0, 0, 0)]
/-- TypeForms2.about(II)I -/
def kC_85 : List (Nat × ai_I) := [(0, .aload_n 0, 1, 0, 0, 0, 0), (1, .getfield 21, 3, 7, 1, 287, 0), (4, .iload_n 1, 1, 1, 0, 0, 0), (5, .invokevirtual 104, 3, 57, 1, 359, 0), (8, .ifCond .eq 13, 3, 21, 0, 0, 0), (11, .iload_n 2, 1, 2, 0, 0, 0), (12, .ifCond .lt 9, 3, 21, 0, 0, 0), (15, .iload_n 2, 1, 2, 0, 0, 0), (16, .bipush 12, 2, 0, 0, 0, 12), (18, .if_icmp .le 6, 3, 24, 0, 0, 0), (21, .bipush (-2), 2, 0, 0, 0, (-2)), (23, .ireturn, 1, 0, 0, 0, 0), (24, .iload_n 2, 1, 2, 0, 0, 0), (25, .tableswitch 138 0 12 #[67, 76, 85, 94, 103, 112, 138, 138, 138, 138, 138, 138, 121], 67, 0, 0, 0, 0), (92, .aload_n 0, 1, 0, 0, 0, 0), (93, .getfield 21, 3, 7, 1, 287, 0), (96, .iload_n 1, 1, 1, 0, 0, 0), (97, .invokevirtual 147, 3, 60, 1, 627, 0), (100, .ireturn, 1, 0, 0, 0, 0), (101, .aload_n 0, 1, 0, 0, 0, 0), (102, .getfield 21, 3, 7, 1, 287, 0), (105, .iload_n 1, 1, 1, 0, 0, 0), (106, .invokevirtual 117, 3, 61, 1, 439, 0), (109, .ireturn, 1, 0, 0, 0, 0), (110, .aload_n 0, 1, 0, 0, 0, 0), (111, .getfield 21, 3, 7, 1, 287, 0), (114, .iload_n 1, 1, 1, 0, 0, 0), (115, .invokevirtual 150, 3, 62, 1, 628, 0), (118, .ireturn, 1, 0, 0, 0, 0), (119, .aload_n 0, 1, 0, 0, 0, 0), (120, .getfield 21, 3, 7, 1, 287, 0), (123, .iload_n 1, 1, 1, 0, 0, 0), (124, .invokevirtual 153, 3, 63, 1, 629, 0), (127, .ireturn, 1, 0, 0, 0, 0), (128, .aload_n 0, 1, 0, 0, 0, 0), (129, .getfield 21, 3, 7, 1, 287, 0), (132, .iload_n 1, 1, 1, 0, 0, 0), (133, .invokevirtual 156, 3, 64, 1, 630, 0), (136, .ireturn, 1, 0, 0, 0, 0), (137, .aload_n 0, 1, 0, 0, 0, 0), (138, .getfield 21, 3, 7, 1, 287, 0), (141, .iload_n 1, 1, 1, 0, 0, 0), (142, .invokevirtual 159, 3, 66, 1, 631, 0), (145, .ireturn, 1, 0, 0, 0, 0), (146, .aload_n 0, 1, 0, 0, 0, 0), (147, .getfield 21, 3, 7, 1, 287, 0), (150, .iload_n 1, 1, 1, 0, 0, 0), (151, .invokevirtual 162, 3, 67, 1, 632, 0), (154, .ifCond .eq 7, 3, 161, 0, 0, 0), (157, .iconst 1, 1, 0, 0, 0, 1), (158, .goto 4, 3, 162, 0, 0, 0), (161, .iconst 0, 1, 0, 0, 0, 0), (162, .ireturn, 1, 0, 0, 0, 0), (163, .iload_n 2, 1, 2, 0, 0, 0), (164, .bipush 9, 2, 0, 0, 0, 9), (166, .if_icmp .ge 21, 3, 187, 0, 0, 0), (169, .aload_n 0, 1, 0, 0, 0, 0), (170, .getfield 21, 3, 7, 1, 287, 0), (173, .iload_n 1, 1, 1, 0, 0, 0), (174, .iload_n 2, 1, 2, 0, 0, 0), (175, .bipush 6, 2, 0, 0, 0, 6), (177, .isub, 1, 0, 0, 0, 0), (178, .invokevirtual 165, 3, 65, 2, 633, 0), (181, .invokestatic 168, 3, 97, 1, 634, 0), (184, .goto 18, 3, 202, 0, 0, 0), (187, .aload_n 0, 1, 0, 0, 0, 0), (188, .getfield 21, 3, 7, 1, 287, 0), (191, .iload_n 1, 1, 1, 0, 0, 0), (192, .iload_n 2, 1, 2, 0, 0, 0), (193, .bipush 9, 2, 0, 0, 0, 9), (195, .isub, 1, 0, 0, 0, 0), (196, .invokevirtual 165, 3, 65, 2, 633, 0), (199, .invokestatic 171, 3, 98, 1, 635, 0), (202, .ireturn, 1, 0, 0, 0, 0)]
/-- TypeForms2.below(II)I -/
def kC_86 : List (Nat × ai_I) := [(0, .aload_n 0, 1, 0, 0, 0, 0), (1, .getfield 21, 3, 7, 1, 287, 0), (4, .iload_n 1, 1, 1, 0, 0, 0), (5, .invokevirtual 104, 3, 57, 1, 359, 0), (8, .ifCond .eq 14, 3, 22, 0, 0, 0), (11, .aload_n 0, 1, 0, 0, 0, 0), (12, .getfield 21, 3, 7, 1, 287, 0), (15, .iload_n 2, 1, 2, 0, 0, 0), (16, .invokevirtual 104, 3, 57, 1, 359, 0), (19, .ifCond .ne 6, 3, 25, 0, 0, 0), (22, .bipush (-2), 2, 0, 0, 0, (-2)), (24, .ireturn, 1, 0, 0, 0, 0), (25, .aload_n 0, 1, 0, 0, 0, 0), (26, .getfield 21, 3, 7, 1, 287, 0), (29, .invokevirtual 130, 3, 73, 0, 465, 0), (32, .aload_n 0, 1, 0, 0, 0, 0), (33, .getfield 39, 3, 7, 3, 289, 0), (36, .iload_n 1, 1, 1, 0, 0, 0), (37, .iload_n 2, 1, 2, 0, 0, 0), (38, .iconst 0, 1, 0, 0, 0, 0), (39, .invokevirtual 174, 3, 25, 3, 640, 0), (42, .ireturn, 1, 0, 0, 0, 0)]
/-- TypeForms2.erased(I)I -/
def kC_87 : List (Nat × ai_I) := [(0, .aload_n 0, 1, 0, 0, 0, 0), (1, .getfield 21, 3, 7, 1, 287, 0), (4, .iload_n 1, 1, 1, 0, 0, 0), (5, .invokevirtual 104, 3, 57, 1, 359, 0), (8, .ifCond .ne 6, 3, 14, 0, 0, 0), (11, .bipush (-2), 2, 0, 0, 0, (-2)), (13, .ireturn, 1, 0, 0, 0, 0), (14, .aload_n 0, 1, 0, 0, 0, 0), (15, .getfield 21, 3, 7, 1, 287, 0), (18, .invokevirtual 130, 3, 73, 0, 465, 0), (21, .aload_n 0, 1, 0, 0, 0, 0), (22, .getfield 21, 3, 7, 1, 287, 0), (25, .aload_n 0, 1, 0, 0, 0, 0), (26, .getfield 30, 3, 7, 2, 288, 0), (29, .iload_n 1, 1, 1, 0, 0, 0), (30, .invokevirtual 177, 3, 18, 1, 645, 0), (33, .invokevirtual 141, 3, 75, 1, 599, 0), (36, .ireturn, 1, 0, 0, 0, 0)]
/-- TypeForms2.whole(I)I -/
def kC_88 : List (Nat × ai_I) := [(0, .aload_n 0, 1, 0, 0, 0, 0), (1, .getfield 21, 3, 7, 1, 287, 0), (4, .iload_n 1, 1, 1, 0, 0, 0), (5, .invokevirtual 104, 3, 57, 1, 359, 0), (8, .ifCond .ne 6, 3, 14, 0, 0, 0), (11, .bipush (-2), 2, 0, 0, 0, (-2)), (13, .ireturn, 1, 0, 0, 0, 0), (14, .aload_n 0, 1, 0, 0, 0, 0), (15, .getfield 30, 3, 7, 2, 288, 0), (18, .iload_n 1, 1, 1, 0, 0, 0), (19, .invokevirtual 180, 3, 24, 1, 650, 0), (22, .ifCond .eq 7, 3, 29, 0, 0, 0), (25, .iconst 1, 1, 0, 0, 0, 1), (26, .goto 4, 3, 30, 0, 0, 0), (29, .iconst 0, 1, 0, 0, 0, 0), (30, .ireturn, 1, 0, 0, 0, 0)]
/-- TypeForms2.above(II)I -/
def kC_89 : List (Nat × ai_I) := [(0, .aload_n 0, 1, 0, 0, 0, 0), (1, .getfield 21, 3, 7, 1, 287, 0), (4, .iload_n 1, 1, 1, 0, 0, 0), (5, .invokevirtual 104, 3, 57, 1, 359, 0), (8, .ifCond .eq 26, 3, 34, 0, 0, 0), (11, .aload_n 0, 1, 0, 0, 0, 0), (12, .getfield 21, 3, 7, 1, 287, 0), (15, .iload_n 1, 1, 1, 0, 0, 0), (16, .invokevirtual 147, 3, 60, 1, 627, 0), (19, .iconst 5, 1, 0, 0, 0, 5), (20, .if_icmp .ne 14, 3, 34, 0, 0, 0), (23, .aload_n 0, 1, 0, 0, 0, 0), (24, .getfield 10, 3, 7, 0, 286, 0), (27, .iload_n 2, 1, 2, 0, 0, 0), (28, .invokevirtual 78, 3, 1, 1, 318, 0), (31, .ifCond .ne 6, 3, 37, 0, 0, 0), (34, .bipush (-2), 2, 0, 0, 0, (-2)), (36, .ireturn, 1, 0, 0, 0, 0), (37, .aload_n 0, 1, 0, 0, 0, 0), (38, .getfield 21, 3, 7, 1, 287, 0), (41, .invokevirtual 130, 3, 73, 0, 465, 0), (44, .aload_n 0, 1, 0, 0, 0, 0), (45, .getfield 30, 3, 7, 2, 288, 0), (48, .iload_n 1, 1, 1, 0, 0, 0), (49, .iload_n 2, 1, 2, 0, 0, 0), (50, .invokevirtual 183, 3, 23, 2, 659, 0), (53, .istore_n 3, 1, 3, 0, 0, 0), (54, .iload_n 3, 1, 3, 0, 0, 0), (55, .iconst (-1), 1, 0, 0, 0, (-1)), (56, .if_icmp .ne 7, 3, 63, 0, 0, 0), (59, .iconst (-1), 1, 0, 0, 0, (-1)), (60, .goto 11, 3, 71, 0, 0, 0), (63, .aload_n 0, 1, 0, 0, 0, 0), (64, .getfield 21, 3, 7, 1, 287, 0), (67, .iload_n 3, 1, 3, 0, 0, 0), (68, .invokevirtual 141, 3, 75, 1, 599, 0), (71, .ireturn, 1, 0, 0, 0, 0)]
/-- TypeForms2.member(II)I -/
def kC_90 : List (Nat × ai_I) := [(0, .aload_n 0, 1, 0, 0, 0, 0), (1, .getfield 21, 3, 7, 1, 287, 0), (4, .iload_n 1, 1, 1, 0, 0, 0), (5, .invokevirtual 104, 3, 57, 1, 359, 0), (8, .ifCond .eq 26, 3, 34, 0, 0, 0), (11, .aload_n 0, 1, 0, 0, 0, 0), (12, .getfield 21, 3, 7, 1, 287, 0), (15, .iload_n 2, 1, 2, 0, 0, 0), (16, .invokevirtual 104, 3, 57, 1, 359, 0), (19, .ifCond .eq 15, 3, 34, 0, 0, 0), (22, .aload_n 0, 1, 0, 0, 0, 0), (23, .getfield 21, 3, 7, 1, 287, 0), (26, .iload_n 2, 1, 2, 0, 0, 0), (27, .invokevirtual 147, 3, 60, 1, 627, 0), (30, .iconst 5, 1, 0, 0, 0, 5), (31, .if_icmp .eq 6, 3, 37, 0, 0, 0), (34, .bipush (-2), 2, 0, 0, 0, (-2)), (36, .ireturn, 1, 0, 0, 0, 0), (37, .aload_n 0, 1, 0, 0, 0, 0), (38, .getfield 21, 3, 7, 1, 287, 0), (41, .invokevirtual 130, 3, 73, 0, 465, 0), (44, .aload_n 0, 1, 0, 0, 0, 0), (45, .getfield 21, 3, 7, 1, 287, 0), (48, .aload_n 0, 1, 0, 0, 0, 0), (49, .getfield 30, 3, 7, 2, 288, 0), (52, .iload_n 1, 1, 1, 0, 0, 0), (53, .iload_n 2, 1, 2, 0, 0, 0), (54, .iconst 0, 1, 0, 0, 0, 0), (55, .invokevirtual 186, 3, 19, 3, 664, 0), (58, .invokevirtual 141, 3, 75, 1, 599, 0), (61, .ireturn, 1, 0, 0, 0, 0)]
/-- TypeForms2.feed(IJ)I -/
def kC_91 : List (Nat × ai_I) := [(0, .iload_n 1, 1, 1, 0, 0, 0), (1, .iconst 1, 1, 0, 0, 0, 1), (2, .if_icmp .lt 9, 3, 11, 0, 0, 0), (5, .iload_n 1, 1, 1, 0, 0, 0), (6, .bipush 8, 2, 0, 0, 0, 8), (8, .if_icmp .le 6, 3, 14, 0, 0, 0), (11, .bipush (-3), 2, 0, 0, 0, (-3)), (13, .ireturn, 1, 0, 0, 0, 0), (14, .aload_n 0, 1, 0, 0, 0, 0), (15, .getfield 57, 3, 7, 5, 291, 0), (18, .iload_n 1, 1, 1, 0, 0, 0), (19, .lload_n 2, 1, 2, 0, 0, 0), (20, .invokevirtual 189, 3, 39, 2, 669, 0), (23, .ireturn, 1, 0, 0, 0, 0)]
/-- TypeForms2.read()I -/
def kC_92 : List (Nat × ai_I) := [(0, .aload_n 0, 1, 0, 0, 0, 0), (1, .getfield 21, 3, 7, 1, 287, 0), (4, .invokevirtual 130, 3, 73, 0, 465, 0), (7, .aload_n 0, 1, 0, 0, 0, 0), (8, .getfield 57, 3, 7, 5, 291, 0), (11, .invokevirtual 193, 3, 40, 0, 678, 0), (14, .aload_n 0, 1, 0, 0, 0, 0), (15, .getfield 57, 3, 7, 5, 291, 0), (18, .iconst 0, 1, 0, 0, 0, 0), (19, .invokevirtual 196, 3, 44, 1, 682, 0), (22, .istore_n 1, 1, 1, 0, 0, 0), (23, .aload_n 0, 1, 0, 0, 0, 0), (24, .getfield 57, 3, 7, 5, 291, 0), (27, .invokevirtual 199, 3, 41, 0, 718, 0), (30, .istore_n 2, 1, 2, 0, 0, 0), (31, .iload_n 2, 1, 2, 0, 0, 0), (32, .iconst (-1), 1, 0, 0, 0, (-1)), (33, .if_icmp .eq 10, 3, 43, 0, 0, 0), (36, .bipush (-10), 2, 0, 0, 0, (-10)), (38, .iload_n 2, 1, 2, 0, 0, 0), (39, .isub, 1, 0, 0, 0, 0), (40, .goto 11, 3, 51, 0, 0, 0), (43, .aload_n 0, 1, 0, 0, 0, 0), (44, .getfield 21, 3, 7, 1, 287, 0), (47, .iload_n 1, 1, 1, 0, 0, 0), (48, .invokevirtual 141, 3, 75, 1, 599, 0), (51, .ireturn, 1, 0, 0, 0, 0)]
/-- TypeForms2.print(I)I -/
def kC_93 : List (Nat × ai_I) := [(0, .aload_n 0, 1, 0, 0, 0, 0), (1, .getfield 21, 3, 7, 1, 287, 0), (4, .iload_n 1, 1, 1, 0, 0, 0), (5, .invokevirtual 104, 3, 57, 1, 359, 0), (8, .ifCond .ne 6, 3, 14, 0, 0, 0), (11, .bipush (-2), 2, 0, 0, 0, (-2)), (13, .ireturn, 1, 0, 0, 0, 0), (14, .aload_n 0, 1, 0, 0, 0, 0), (15, .getfield 66, 3, 7, 6, 292, 0), (18, .iload_n 1, 1, 1, 0, 0, 0), (19, .invokevirtual 202, 3, 34, 1, 726, 0), (22, .ireturn, 1, 0, 0, 0, 0)]
/-- TypeForms2.out(I)I -/
def kC_94 : List (Nat × ai_I) := [(0, .aload_n 0, 1, 0, 0, 0, 0), (1, .getfield 66, 3, 7, 6, 292, 0), (4, .iload_n 1, 1, 1, 0, 0, 0), (5, .invokevirtual 205, 3, 33, 1, 758, 0), (8, .ireturn, 1, 0, 0, 0, 0)]
/-- TypeForms2.count(I)I -/
def kC_95 : List (Nat × ai_I) := [(0, .iload_n 1, 1, 1, 0, 0, 0), (1, .tableswitch 72 0 4 #[35, 43, 51, 56, 64], 35, 0, 0, 0, 0), (36, .aload_n 0, 1, 0, 0, 0, 0), (37, .getfield 10, 3, 7, 0, 286, 0), (40, .invokevirtual 89, 3, 0, 0, 330, 0), (43, .ireturn, 1, 0, 0, 0, 0), (44, .aload_n 0, 1, 0, 0, 0, 0), (45, .getfield 21, 3, 7, 1, 287, 0), (48, .invokevirtual 208, 3, 56, 0, 766, 0), (51, .ireturn, 1, 0, 0, 0, 0), (52, .aload_n 0, 1, 0, 0, 0, 0), (53, .getfield 74, 3, 7, 8, 294, 0), (56, .ireturn, 1, 0, 0, 0, 0), (57, .aload_n 0, 1, 0, 0, 0, 0), (58, .getfield 57, 3, 7, 5, 291, 0), (61, .invokevirtual 209, 3, 38, 0, 770, 0), (64, .ireturn, 1, 0, 0, 0, 0), (65, .aload_n 0, 1, 0, 0, 0, 0), (66, .getfield 66, 3, 7, 6, 292, 0), (69, .invokevirtual 212, 3, 32, 0, 774, 0), (72, .ireturn, 1, 0, 0, 0, 0), (73, .iload_n 1, 1, 1, 0, 0, 0), (74, .iconst 5, 1, 0, 0, 0, 5), (75, .if_icmp .lt 27, 3, 102, 0, 0, 0), (78, .aload_n 0, 1, 0, 0, 0, 0), (79, .getfield 10, 3, 7, 0, 286, 0), (82, .iload_n 1, 1, 1, 0, 0, 0), (83, .iconst 5, 1, 0, 0, 0, 5), (84, .isub, 1, 0, 0, 0, 0), (85, .invokevirtual 78, 3, 1, 1, 318, 0), (88, .ifCond .eq 14, 3, 102, 0, 0, 0), (91, .aload_n 0, 1, 0, 0, 0, 0), (92, .getfield 10, 3, 7, 0, 286, 0), (95, .iload_n 1, 1, 1, 0, 0, 0), (96, .iconst 5, 1, 0, 0, 0, 5), (97, .isub, 1, 0, 0, 0, 0), (98, .invokevirtual 213, 3, 12, 1, 778, 0), (101, .ireturn, 1, 0, 0, 0, 0), (102, .iload_n 1, 1, 1, 0, 0, 0), (103, .bipush 20, 2, 0, 0, 0, 20), (105, .if_icmp .lt 29, 3, 134, 0, 0, 0), (108, .aload_n 0, 1, 0, 0, 0, 0), (109, .getfield 10, 3, 7, 0, 286, 0), (112, .iload_n 1, 1, 1, 0, 0, 0), (113, .bipush 20, 2, 0, 0, 0, 20), (115, .isub, 1, 0, 0, 0, 0), (116, .invokevirtual 78, 3, 1, 1, 318, 0), (119, .ifCond .eq 15, 3, 134, 0, 0, 0), (122, .aload_n 0, 1, 0, 0, 0, 0), (123, .getfield 10, 3, 7, 0, 286, 0), (126, .iload_n 1, 1, 1, 0, 0, 0), (127, .bipush 20, 2, 0, 0, 0, 20), (129, .isub, 1, 0, 0, 0, 0), (130, .invokevirtual 216, 3, 14, 1, 782, 0), (133, .ireturn, 1, 0, 0, 0, 0), (134, .bipush (-2), 2, 0, 0, 0, (-2)), (136, .ireturn, 1, 0, 0, 0, 0)]
/-- TypeForms2.argumentOf(II)I -/
def kC_96 : List (Nat × ai_I) := [(0, .iload_n 0, 1, 0, 0, 0, 0), (1, .iconst 3, 1, 0, 0, 0, 3), (2, .if_icmp .ne 7, 3, 9, 0, 0, 0), (5, .iconst 3, 1, 0, 0, 0, 3), (6, .goto 10, 3, 16, 0, 0, 0), (9, .iload_n 1, 1, 1, 0, 0, 0), (10, .iconst 1, 1, 0, 0, 0, 1), (11, .iadd, 1, 0, 0, 0, 0), (12, .iconst 4, 1, 0, 0, 0, 4), (13, .imul, 1, 0, 0, 0, 0), (14, .iload_n 0, 1, 0, 0, 0, 0), (15, .iadd, 1, 0, 0, 0, 0), (16, .ireturn, 1, 0, 0, 0, 0)]
/-- TypeForms2.wildOf(I)I -/
def kC_97 : List (Nat × ai_I) := [(0, .iload_n 0, 1, 0, 0, 0, 0), (1, .ifCond .ge 7, 3, 8, 0, 0, 0), (4, .iconst (-1), 1, 0, 0, 0, (-1)), (5, .goto 6, 3, 11, 0, 0, 0), (8, .iload_n 0, 1, 0, 0, 0, 0), (9, .iconst 3, 1, 0, 0, 0, 3), (10, .iand, 1, 0, 0, 0, 0), (11, .ireturn, 1, 0, 0, 0, 0)]
/-- TypeForms2.typeOf(I)I -/
def kC_98 : List (Nat × ai_I) := [(0, .iload_n 0, 1, 0, 0, 0, 0), (1, .ifCond .ge 7, 3, 8, 0, 0, 0), (4, .iconst (-1), 1, 0, 0, 0, (-1)), (5, .goto 8, 3, 13, 0, 0, 0), (8, .iload_n 0, 1, 0, 0, 0, 0), (9, .iconst 2, 1, 0, 0, 0, 2), (10, .ishr, 1, 0, 0, 0, 0), (11, .iconst 1, 1, 0, 0, 0, 1), (12, .isub, 1, 0, 0, 0, 0), (13, .ireturn, 1, 0, 0, 0, 0)]
def mtCL : List ai_Mt := [(yX0_number, cX0_number, 1, some .int, 0, false, 0),
  (yX0_has, cX0_has, 2, some .boolean, 0, false, 1),
  (yX0_hasRoom, cX0_hasRoom, 1, some .boolean, 0, false, 0),
  (yX0_add, cX0_add, 6, some .int, 0, false, 4),
  (yX0_isInterface, cX0_isInterface, 2, some .boolean, 0, false, 1),
  (yX0_parametersOf, cX0_parametersOf, 2, some .int, 0, false, 1),
  (yX0_outerOf, cX0_outerOf, 2, some .int, 0, false, 1),
  (yX0_isWithin, cX0_isWithin, 3, some .boolean, 0, false, 2),
  (yX0_hasPlace, cX0_hasPlace, 3, some .boolean, 0, false, 2),
  (yX0_variableAt, cX0_variableAt, 3, some .int, 0, false, 2),
  (yX0_boundsOf, cX0_boundsOf, 3, some .int, 0, false, 2),
  (yX0_boundAt, cX0_boundAt, 5, some .int, 0, false, 3),
  (yX0_allBoundsOf, cX0_allBoundsOf, 4, some .int, 0, false, 1),
  (yX0_addBound, cX0_addBound, 6, some .int, 0, false, 3),
  (yX0_parentsOf, cX0_parentsOf, 2, some .int, 0, false, 1),
  (yX0_addParent, cX0_addParent, 5, some .int, 0, false, 3),
  (yX0_findAncestors, cX0_findAncestors, 3, none, 0, false, 0),
  (yX0_parentToward, cX0_parentToward, 5, some .int, 0, false, 2),
  (yX1_erase, cX1_erase, 6, some .int, 1, false, 1),
  (yX1_putIn, cX1_putIn, 8, some .int, 1, false, 3),
  (yX1_putInArgument, cX1_putInArgument, 6, some .int, 1, false, 3),
  (yX1_tellerOf, cX1_tellerOf, 5, some .int, 1, false, 2),
  (yX1_told, cX1_told, 3, some .int, 1, true, 2),
  (yX1_superOf, cX1_superOf, 6, some .int, 1, false, 2),
  (yX1_isWhole, cX1_isWhole, 5, some .boolean, 1, false, 1),
  (yX2_ask, cX2_ask, 6, some .int, 2, false, 3),
  (yX2_isNarrower, cX2_isNarrower, 2, some .boolean, 2, true, 2),
  (yX2_askBounds, cX2_askBounds, 8, some .int, 2, false, 3),
  (yX2_askElements, cX2_askElements, 5, some .int, 2, false, 3),
  (yX2_askClasses, cX2_askClasses, 7, some .int, 2, false, 3),
  (yX2_askSame, cX2_askSame, 7, some .int, 2, false, 3),
  (yX2_askIn, cX2_askIn, 5, some .int, 2, false, 3),
  (yX3_length, cX3_length, 1, some .int, 3, false, 0),
  (yX3_byteAt, cX3_byteAt, 2, some .int, 3, false, 1),
  (yX3_put, cX3_put, 2, some .int, 3, false, 1),
  (yX3_write, cX3_write, 2, none, 3, false, 1),
  (yX3_writeType, cX3_writeType, 4, none, 3, false, 2),
  (yX3_writeArguments, cX3_writeArguments, 7, none, 3, false, 2),
  (yX4_length, cX4_length, 1, some .int, 4, false, 0),
  (yX4_take, cX4_take, 5, some .int, 4, false, 2),
  (yX4_start, cX4_start, 1, none, 4, false, 0),
  (yX4_finish, cX4_finish, 1, some .int, 4, false, 0),
  (yX4_next, cX4_next, 1, some .int, 4, false, 0),
  (yX4_faultAt, cX4_faultAt, 2, some .int, 4, false, 1),
  (yX4_typeText, cX4_typeText, 4, some .int, 4, false, 1),
  (yX4_baseText, cX4_baseText, 5, some .int, 4, false, 1),
  (yX4_variableText, cX4_variableText, 3, some .int, 4, false, 1),
  (yX4_partText, cX4_partText, 8, some .int, 4, false, 2),
  (yX4_argumentText, cX4_argumentText, 6, some .int, 4, false, 1),
  (yX5_ofBound, cX5_ofBound, 6, some .int, 5, false, 3),
  (yX5_ofParent, cX5_ofParent, 4, some .int, 5, false, 2),
  (yX5_isAsTold, cX5_isAsTold, 7, some .boolean, 5, false, 2),
  (yX5_comesTo, cX5_comesTo, 5, some .boolean, 5, false, 2),
  (yX5_ofMade, cX5_ofMade, 13, some .int, 5, false, 5),
  (yX5_ofMadeShape, cX5_ofMadeShape, 9, some .int, 5, false, 5),
  (yX6_setPlain, cX6_setPlain, 6, none, 6, false, 4),
  (yX6_number, cX6_number, 1, some .int, 6, false, 0),
  (yX6_isNode, cX6_isNode, 2, some .boolean, 6, false, 1),
  (yX6_hasRoomFor, cX6_hasRoomFor, 2, some .boolean, 6, false, 1),
  (yX6_addVariables, cX6_addVariables, 5, some .int, 6, false, 2),
  (yX6_formOf, cX6_formOf, 2, some .int, 6, false, 1),
  (yX6_ownerOf, cX6_ownerOf, 2, some .int, 6, false, 1),
  (yX6_placeOf, cX6_placeOf, 2, some .int, 6, false, 1),
  (yX6_elementOf, cX6_elementOf, 2, some .int, 6, false, 1),
  (yX6_outerOf, cX6_outerOf, 2, some .int, 6, false, 1),
  (yX6_argumentAt, cX6_argumentAt, 4, some .int, 6, false, 2),
  (yX6_argumentsOf, cX6_argumentsOf, 4, some .int, 6, false, 1),
  (yX6_isRaw, cX6_isRaw, 2, some .boolean, 6, false, 1),
  (yX6_isOpen, cX6_isOpen, 2, some .boolean, 6, false, 1),
  (yX6_canBeArgument, cX6_canBeArgument, 2, some .boolean, 6, false, 1),
  (yX6_canBeElement, cX6_canBeElement, 2, some .boolean, 6, false, 1),
  (yX6_mark, cX6_mark, 1, some .int, 6, false, 0),
  (yX6_release, cX6_release, 2, none, 6, false, 1),
  (yX6_forget, cX6_forget, 1, none, 6, false, 0),
  (yX6_shaped, cX6_shaped, 13, some .int, 6, false, 6),
  (yX6_answer, cX6_answer, 4, some .int, 6, false, 1),
  (yX6_keep, cX6_keep, 7, some .int, 6, false, 2),
  (yX6_keepArgument, cX6_keepArgument, 4, some .int, 6, false, 2),
  (yX7_declare, cX7_declare, 5, some .int, 7, false, 3),
  (yX7_variable, cX7_variable, 4, some .int, 7, false, 2),
  (yX7_bound, cX7_bound, 5, some .int, 7, false, 3),
  (yX7_parent, cX7_parent, 4, some .int, 7, false, 2),
  (yX7_argument, cX7_argument, 3, some .int, 7, false, 2),
  (yX7_make, cX7_make, 7, some .int, 7, false, 2),
  (yX7_array, cX7_array, 2, some .int, 7, false, 1),
  (yX7_about, cX7_about, 3, some .int, 7, false, 2),
  (yX7_below, cX7_below, 3, some .int, 7, false, 2),
  (yX7_erased, cX7_erased, 2, some .int, 7, false, 1),
  (yX7_whole, cX7_whole, 2, some .int, 7, false, 1),
  (yX7_above, cX7_above, 4, some .int, 7, false, 2),
  (yX7_member, cX7_member, 3, some .int, 7, false, 2),
  (yX7_feed, cX7_feed, 4, some .int, 7, false, 2),
  (yX7_read, cX7_read, 3, some .int, 7, false, 0),
  (yX7_print, cX7_print, 2, some .int, 7, false, 1),
  (yX7_out, cX7_out, 2, some .int, 7, false, 1),
  (yX7_count, cX7_count, 2, some .int, 7, false, 1),
  (yX7_argumentOf, cX7_argumentOf, 2, some .int, 7, true, 2),
  (yX7_wildOf, cX7_wildOf, 1, some .int, 7, true, 1),
  (yX7_typeOf, cX7_typeOf, 1, some .int, 7, true, 1)]
def kCL : List (List (Nat × ai_I)) := [kC_0, kC_1, kC_2, kC_3, kC_4, kC_5, kC_6, kC_7, kC_8, kC_9, kC_10, kC_11, kC_12, kC_13, kC_14, kC_15, kC_16, kC_17, kC_18, kC_19, kC_20, kC_21, kC_22, kC_23, kC_24, kC_25, kC_26, kC_27, kC_28, kC_29, kC_30, kC_31, kC_32, kC_33, kC_34, kC_35, kC_36, kC_37, kC_38, kC_39, kC_40, kC_41, kC_42, kC_43, kC_44, kC_45, kC_46, kC_47, kC_48, kC_49, kC_50, kC_51, kC_52, kC_53, kC_54, kC_55, kC_56, kC_57, kC_58, kC_59, kC_60, kC_61, kC_62, kC_63, kC_64, kC_65, kC_66, kC_67, kC_68, kC_69, kC_70, kC_71, kC_72, kC_73, kC_74, kC_75, kC_76, kC_77, kC_78, kC_79, kC_80, kC_81, kC_82, kC_83, kC_84, kC_85, kC_86, kC_87, kC_88, kC_89, kC_90, kC_91, kC_92, kC_93, kC_94, kC_95, kC_96, kC_97, kC_98]
def mtC (i : Nat) : Option ai_Mt := mtCL[i]?
def mlC (i : Nat) : Nat := match mtCL[i]? with
  | some q => q.2.2.1
  | none => 0
def mciC (i : Nat) : Nat := match mtCL[i]? with
  | some q => q.2.2.2.2.1
  | none => 0
def cdC (i : Nat) : Nat → Option ai_I := ai_lu (kCL.getD i [])
def CC (d : Nat) : Nat → List Value → ai_H → Option Value → ai_H → Prop := ai_C shC mciC mlC cdC d
def RC (d i : Nat) (Q : Option Value → ai_H → Prop) (pc : Nat) (L : ai_Lc) (S : List Value) (h : ai_H) : Prop := ai_R shC mciC (CC d) (cdC i) Q pc L S h
theorem intC {d i : Nat} {as : List Value} {h : ai_H} {Q : Option Value → ai_H → Prop} (hl : (ai_ent (mlC i) as).length = mlC i) (hR : RC d i Q 0 (ai_ent (mlC i) as) [] h) : ∃ r h2, CC (d + 1) i as h r h2 ∧ Q r h2 := ai_intro hl hR
end
section
/-! the constructors behind their rows, and what they leave -/
def shD : ai_Sh := [.inr (0, [some 1, some 2, some 3, some 4, some 5, some 6, some 7, some 8, some 9, some 10, some 11, none]), .inl (false, 12), .inl (false, 12), .inl (false, 12), .inl (false, 12), .inl (false, 12), .inl (false, 108), .inl (false, 36), .inl (false, 36), .inl (false, 36), .inl (false, 12), .inl (false, 12)]
def shT : ai_Sh := [.inr (6, [some 9, some 1, some 2, some 3, some 4, some 5, some 6, some 7, some 8, none, none, none, none]), .inl (false, 512), .inl (false, 512), .inl (false, 512), .inl (false, 512), .inl (false, 1536), .inl (false, 512), .inl (true, 512), .inl (true, 512)]
def shF : ai_Sh := [.inr (1, [some 1, some 2])]
def shO : ai_Sh := [.inr (2, [some 1, some 2, some 3])]
def shU : ai_Sh := [.inr (5, [some 1, some 2, some 3, some 4])]
def shE : ai_Sh := [.inr (4, [some 2, some 3, some 4, some 1, none, none, none]), .inl (false, 100)]
def shP : ai_Sh := [.inr (3, [some 3, some 1, some 2, none, none]), .inl (false, 200), .inl (false, 200)]
def kiD : List (Nat × ai_I) := [(92, .aload_n 0, 1, 0, 0, 0, 0), (93, .getfield 18, 3, 0, 2, 101, 0), (96, .iconst 0, 1, 0, 0, 0, 0), (97, .iconst (-1), 1, 0, 0, 0, (-1)), (98, .iastore, 1, 0, 0, 0, 0), (99, .aload_n 0, 1, 0, 0, 0, 0), (100, .getfield 21, 3, 0, 3, 102, 0), (103, .iconst 0, 1, 0, 0, 0, 0), (104, .iconst 1, 1, 0, 0, 0, 1), (105, .iastore, 1, 0, 0, 0, 0), (106, .aload_n 0, 1, 0, 0, 0, 0), (107, .getfield 24, 3, 0, 4, 103, 0), (110, .iconst 0, 1, 0, 0, 0, 0), (111, .iconst (-1), 1, 0, 0, 0, (-1)), (112, .iastore, 1, 0, 0, 0, 0), (113, .aload_n 0, 1, 0, 0, 0, 0), (114, .iconst 1, 1, 0, 0, 0, 1), (115, .putfield 45, 3, 0, 11, 110, 0), (118, .return_, 1, 0, 0, 0, 0)]
def kiT : List (Nat × ai_I) := [(81, .iconst 0, 1, 0, 0, 0, 0), (82, .istore_n 2, 1, 2, 0, 0, 0), (83, .iload_n 2, 1, 2, 0, 0, 0), (84, .bipush 10, 2, 0, 0, 0, 10), (86, .if_icmp .ge 37, 3, 123, 0, 0, 0), (89, .aload_n 0, 1, 0, 0, 0, 0), (90, .iload_n 2, 1, 2, 0, 0, 0), (91, .iload_n 2, 1, 2, 0, 0, 0), (92, .bipush 8, 2, 0, 0, 0, 8), (94, .if_icmp .ne 7, 3, 101, 0, 0, 0), (97, .iconst 1, 1, 0, 0, 0, 1), (98, .goto 14, 3, 112, 0, 0, 0), (101, .iload_n 2, 1, 2, 0, 0, 0), (102, .bipush 9, 2, 0, 0, 0, 9), (104, .if_icmp .ne 7, 3, 111, 0, 0, 0), (107, .iconst 2, 1, 0, 0, 0, 2), (108, .goto 4, 3, 112, 0, 0, 0), (111, .iconst 0, 1, 0, 0, 0, 0), (112, .iconst (-1), 1, 0, 0, 0, (-1)), (113, .iconst (-1), 1, 0, 0, 0, (-1)), (114, .invokevirtual 41, 3, 55, 4, 143, 0), (117, .iinc 2 1, 3, 2, 0, 0, 1), (120, .goto (-37), 3, 83, 0, 0, 0), (123, .aload_n 0, 1, 0, 0, 0, 0), (124, .bipush 10, 2, 0, 0, 0, 10), (126, .iconst 5, 1, 0, 0, 0, 5), (127, .iconst 0, 1, 0, 0, 0, 0), (128, .iconst (-1), 1, 0, 0, 0, (-1)), (129, .invokevirtual 41, 3, 55, 4, 143, 0), (132, .aload_n 0, 1, 0, 0, 0, 0), (133, .bipush 11, 2, 0, 0, 0, 11), (135, .putfield 45, 3, 6, 9, 156, 0), (138, .aload_n 0, 1, 0, 0, 0, 0), (139, .sipush 200, 3, 0, 0, 0, 200), (142, .putfield 49, 3, 6, 10, 157, 0), (145, .return_, 1, 0, 0, 0, 0)]
def kiF : List (Nat × ai_I) := [(14, .return_, 1, 0, 0, 0, 0)]
def kiO : List (Nat × ai_I) := [(19, .return_, 1, 0, 0, 0, 0)]
def kiU : List (Nat × ai_I) := [(25, .return_, 1, 0, 0, 0, 0)]
def kiE : List (Nat × ai_I) := [(27, .return_, 1, 0, 0, 0, 0)]
def kiP : List (Nat × ai_I) := [(27, .return_, 1, 0, 0, 0, 0)]
def kiM : List (Nat × ai_I) := [(337, .iconst 0, 1, 0, 0, 0, 0), (338, .istore_n 1, 1, 1, 0, 0, 0), (339, .iload_n 1, 1, 1, 0, 0, 0), (340, .bipush 10, 2, 0, 0, 0, 10), (342, .if_icmp .ge 50, 3, 392, 0, 0, 0), (345, .aload_n 0, 1, 0, 0, 0, 0), (346, .getfield 7, 3, 8, 2, 791, 0), (349, .iload_n 1, 1, 1, 0, 0, 0), (350, .iload_n 1, 1, 1, 0, 0, 0), (351, .bipush 8, 2, 0, 0, 0, 8), (353, .if_icmp .ge 7, 3, 360, 0, 0, 0), (356, .iconst 0, 1, 0, 0, 0, 0), (357, .goto 14, 3, 371, 0, 0, 0), (360, .iload_n 1, 1, 1, 0, 0, 0), (361, .bipush 8, 2, 0, 0, 0, 8), (363, .if_icmp .ne 7, 3, 370, 0, 0, 0), (366, .iconst 1, 1, 0, 0, 0, 1), (367, .goto 4, 3, 371, 0, 0, 0), (370, .iconst 2, 1, 0, 0, 0, 2), (371, .iastore, 1, 0, 0, 0, 0), (372, .aload_n 0, 1, 0, 0, 0, 0), (373, .getfield 13, 3, 8, 3, 792, 0), (376, .iload_n 1, 1, 1, 0, 0, 0), (377, .iconst (-1), 1, 0, 0, 0, (-1)), (378, .iastore, 1, 0, 0, 0, 0), (379, .aload_n 0, 1, 0, 0, 0, 0), (380, .getfield 22, 3, 8, 6, 795, 0), (383, .iload_n 1, 1, 1, 0, 0, 0), (384, .iconst (-1), 1, 0, 0, 0, (-1)), (385, .iastore, 1, 0, 0, 0, 0), (386, .iinc 1 1, 3, 1, 0, 0, 1), (389, .goto (-50), 3, 339, 0, 0, 0), (392, .aload_n 0, 1, 0, 0, 0, 0), (393, .getfield 7, 3, 8, 2, 791, 0), (396, .bipush 10, 2, 0, 0, 0, 10), (398, .iconst 5, 1, 0, 0, 0, 5), (399, .iastore, 1, 0, 0, 0, 0), (400, .aload_n 0, 1, 0, 0, 0, 0), (401, .getfield 22, 3, 8, 6, 795, 0), (404, .bipush 10, 2, 0, 0, 0, 10), (406, .iconst (-1), 1, 0, 0, 0, (-1)), (407, .iastore, 1, 0, 0, 0, 0), (408, .iconst 0, 1, 0, 0, 0, 0), (409, .istore_n 1, 1, 1, 0, 0, 0), (410, .iload_n 1, 1, 1, 0, 0, 0), (411, .bipush 11, 2, 0, 0, 0, 11), (413, .if_icmp .ge 16, 3, 429, 0, 0, 0), (416, .aload_n 0, 1, 0, 0, 0, 0), (417, .getfield 28, 3, 8, 8, 797, 0), (420, .iload_n 1, 1, 1, 0, 0, 0), (421, .iconst 1, 1, 0, 0, 0, 1), (422, .iastore, 1, 0, 0, 0, 0), (423, .iinc 1 1, 3, 1, 0, 0, 1), (426, .goto (-16), 3, 410, 0, 0, 0), (429, .aload_n 0, 1, 0, 0, 0, 0), (430, .bipush 11, 2, 0, 0, 0, 11), (432, .putfield 131, 3, 8, 0, 789, 0), (435, .aload_n 0, 1, 0, 0, 0, 0), (436, .getfield 50, 3, 8, 16, 805, 0), (439, .iconst 0, 1, 0, 0, 0, 0), (440, .iconst (-1), 1, 0, 0, 0, (-1)), (441, .iastore, 1, 0, 0, 0, 0), (442, .aload_n 0, 1, 0, 0, 0, 0), (443, .iconst 1, 1, 0, 0, 0, 1), (444, .putfield 135, 3, 8, 13, 802, 0), (447, .aload_n 0, 1, 0, 0, 0, 0), (448, .sipush 256, 3, 0, 0, 0, 256), (451, .putfield 138, 3, 8, 1, 790, 0), (454, .return_, 1, 0, 0, 0, 0)]
def kiC : List (Nat × ai_I) := [(144, .aload_n 0, 1, 0, 0, 0, 0), (145, .iconst 0, 1, 0, 0, 0, 0), (146, .putfield 74, 3, 7, 8, 294, 0), (149, .return_, 1, 0, 0, 0, 0)]
def gM : ab_G := [(0, 1, 2147483904, 2147483904), (0, 13, 2147483649, 2147483649), (14, 0, 2147483647, 2147483647), (0, 0, 2147483659, 2147483659), (7, 10, 2147483649, 2147483649), (7, 9, 2147483649, 2147483649), (7, 8, 2147483649, 2147483649), (7, 7, 2147483649, 2147483649), (7, 6, 2147483649, 2147483649), (7, 5, 2147483649, 2147483649), (7, 4, 2147483649, 2147483649), (7, 3, 2147483649, 2147483649), (7, 2, 2147483649, 2147483649), (7, 1, 2147483649, 2147483649), (7, 0, 2147483649, 2147483649), (5, 10, 2147483647, 2147483647), (1, 10, 2147483653, 2147483653), (5, 9, 2147483647, 2147483647), (2, 9, 2147483647, 2147483647), (1, 9, 2147483650, 2147483650), (5, 8, 2147483647, 2147483647), (2, 8, 2147483647, 2147483647), (1, 8, 2147483649, 2147483649), (5, 7, 2147483647, 2147483647), (2, 7, 2147483647, 2147483647), (1, 7, 2147483648, 2147483648), (5, 6, 2147483647, 2147483647), (2, 6, 2147483647, 2147483647), (1, 6, 2147483648, 2147483648), (5, 5, 2147483647, 2147483647), (2, 5, 2147483647, 2147483647), (1, 5, 2147483648, 2147483648), (5, 4, 2147483647, 2147483647), (2, 4, 2147483647, 2147483647), (1, 4, 2147483648, 2147483648), (5, 3, 2147483647, 2147483647), (2, 3, 2147483647, 2147483647), (1, 3, 2147483648, 2147483648), (5, 2, 2147483647, 2147483647), (2, 2, 2147483647, 2147483647), (1, 2, 2147483648, 2147483648), (5, 1, 2147483647, 2147483647), (2, 1, 2147483647, 2147483647), (1, 1, 2147483648, 2147483648), (5, 0, 2147483647, 2147483647), (2, 0, 2147483647, 2147483647), (1, 0, 2147483648, 2147483648)]
def gD : ab_G := [(0, 11, 2147483649, 2147483649), (5, 0, 2147483647, 2147483647), (4, 0, 2147483649, 2147483649), (3, 0, 2147483647, 2147483647)]
def gT : ab_G := [(0, 10, 2147483848, 2147483848), (0, 9, 2147483659, 2147483659), (8, 10, 2147483648, 2147483648), (7, 10, 2147483648, 2147483648), (6, 10, 2147483649, 2147483649), (5, 32, 2147483647, 2147483647), (5, 31, 2147483647, 2147483647), (5, 30, 2147483647, 2147483647), (4, 10, 2147483647, 2147483647), (3, 10, 2147483647, 2147483647), (2, 10, 2147483648, 2147483648), (1, 10, 2147483653, 2147483653), (8, 9, 2147483648, 2147483648), (7, 9, 2147483648, 2147483648), (6, 9, 2147483649, 2147483649), (5, 29, 2147483647, 2147483647), (5, 28, 2147483647, 2147483647), (5, 27, 2147483647, 2147483647), (4, 9, 2147483647, 2147483647), (3, 9, 2147483647, 2147483647), (2, 9, 2147483647, 2147483647), (1, 9, 2147483650, 2147483650), (8, 8, 2147483648, 2147483648), (7, 8, 2147483648, 2147483648), (6, 8, 2147483649, 2147483649), (5, 26, 2147483647, 2147483647), (5, 25, 2147483647, 2147483647), (5, 24, 2147483647, 2147483647), (4, 8, 2147483647, 2147483647), (3, 8, 2147483647, 2147483647), (2, 8, 2147483647, 2147483647), (1, 8, 2147483649, 2147483649), (8, 7, 2147483648, 2147483648), (7, 7, 2147483648, 2147483648), (6, 7, 2147483649, 2147483649), (5, 23, 2147483647, 2147483647), (5, 22, 2147483647, 2147483647), (5, 21, 2147483647, 2147483647), (4, 7, 2147483647, 2147483647), (3, 7, 2147483647, 2147483647), (2, 7, 2147483647, 2147483647), (1, 7, 2147483648, 2147483648), (8, 6, 2147483648, 2147483648), (7, 6, 2147483648, 2147483648), (6, 6, 2147483649, 2147483649), (5, 20, 2147483647, 2147483647), (5, 19, 2147483647, 2147483647), (5, 18, 2147483647, 2147483647), (4, 6, 2147483647, 2147483647), (3, 6, 2147483647, 2147483647), (2, 6, 2147483647, 2147483647), (1, 6, 2147483648, 2147483648), (8, 5, 2147483648, 2147483648), (7, 5, 2147483648, 2147483648), (6, 5, 2147483649, 2147483649), (5, 17, 2147483647, 2147483647), (5, 16, 2147483647, 2147483647), (5, 15, 2147483647, 2147483647), (4, 5, 2147483647, 2147483647), (3, 5, 2147483647, 2147483647), (2, 5, 2147483647, 2147483647), (1, 5, 2147483648, 2147483648), (8, 4, 2147483648, 2147483648), (7, 4, 2147483648, 2147483648), (6, 4, 2147483649, 2147483649), (5, 14, 2147483647, 2147483647), (5, 13, 2147483647, 2147483647), (5, 12, 2147483647, 2147483647), (4, 4, 2147483647, 2147483647), (3, 4, 2147483647, 2147483647), (2, 4, 2147483647, 2147483647), (1, 4, 2147483648, 2147483648), (8, 3, 2147483648, 2147483648), (7, 3, 2147483648, 2147483648), (6, 3, 2147483649, 2147483649), (5, 11, 2147483647, 2147483647), (5, 10, 2147483647, 2147483647), (5, 9, 2147483647, 2147483647), (4, 3, 2147483647, 2147483647), (3, 3, 2147483647, 2147483647), (2, 3, 2147483647, 2147483647), (1, 3, 2147483648, 2147483648), (8, 2, 2147483648, 2147483648), (7, 2, 2147483648, 2147483648), (6, 2, 2147483649, 2147483649), (5, 8, 2147483647, 2147483647), (5, 7, 2147483647, 2147483647), (5, 6, 2147483647, 2147483647), (4, 2, 2147483647, 2147483647), (3, 2, 2147483647, 2147483647), (2, 2, 2147483647, 2147483647), (1, 2, 2147483648, 2147483648), (8, 1, 2147483648, 2147483648), (7, 1, 2147483648, 2147483648), (6, 1, 2147483649, 2147483649), (5, 5, 2147483647, 2147483647), (5, 4, 2147483647, 2147483647), (5, 3, 2147483647, 2147483647), (4, 1, 2147483647, 2147483647), (3, 1, 2147483647, 2147483647), (2, 1, 2147483647, 2147483647), (1, 1, 2147483648, 2147483648), (8, 0, 2147483648, 2147483648), (7, 0, 2147483648, 2147483648), (6, 0, 2147483649, 2147483649), (5, 2, 2147483647, 2147483647), (5, 1, 2147483647, 2147483647), (5, 0, 2147483647, 2147483647), (4, 0, 2147483647, 2147483647), (3, 0, 2147483647, 2147483647), (2, 0, 2147483647, 2147483647), (1, 0, 2147483648, 2147483648)]
def gC : ab_G := (29, 8, 2147483648, 2147483648) :: (gT.map (fun e => (e.1 + 12, e.2)) ++ gD)
theorem ruM : ab_e shM mciM (ab_ec shM mciM mlM cdM 300 0) (ai_lu kiM) 1000 337 (ab_ent 2 [.inl 0]) [] [] = some (none, gM) := by decide +kernel
theorem ruD : ab_e shD mciC (ab_ec shD mciC mlC cdC 300 0) (ai_lu kiD) 1000 92 (ab_ent 1 [.inl 0]) [] [] = some (none, gD) := by decide +kernel
theorem ruT : ab_e shT mciC (ab_ec shT mciC mlC cdC 300 1) (ai_lu kiT) 1000 81 (ab_ent 3 [.inl 0, .inl 9]) [] [] = some (none, gT) := by decide +kernel
end
section
/-! every call on a fresh object: both sides answer alike -/
def ab_both (iC iM : Nat) (as : List ab_V) : Bool := match ab_ec shC mciC mlC cdC 300 7 iC (.inl 29 :: as) gC, ab_ec shM mciM mlM cdM 300 7 iM (.inl 0 :: as) gM with
  | some (some p, _), some (some q, _) => Nat.beq p.1 p.2 && Nat.beq q.1 q.2 && Nat.beq p.1 q.1
  | _, _ => false
def ab_b1 (P : List (Nat × Nat)) (f : List ab_V → Bool) : Bool := P.all fun p => f [.inr (some p)]
def ab_b2 (P Q : List (Nat × Nat)) (f : List ab_V → Bool) : Bool := P.all fun p => Q.all fun q => f [.inr (some p), .inr (some q)]
def ab_b3 (P Q R : List (Nat × Nat)) (f : List ab_V → Bool) : Bool := P.all fun p => Q.all fun q => R.all fun r => f [.inr (some p), .inr (some q), .inr (some r)]
def ab_bj (P : List (Nat × Nat)) (f : List ab_V → Bool) : Bool := P.all fun p => f [.inr (some p), .inr none]
def bx_0 : List (Nat × Nat) := [(0, 2147483647), (2147483648, 2147483648), (2147483649, 2147483649), (2147483650, 2147483650), (2147483651, 4294967295)]
def bx_1 : List (Nat × Nat) := [(0, 2147483647), (2147483648, 2147483648), (2147483649, 2147483649), (2147483650, 2147483650), (2147483651, 2147483651), (2147483652, 4294967295)]
def bx_2 : List (Nat × Nat) := [(0, 2147483646), (2147483647, 2147483647), (2147483648, 2147483648), (2147483649, 4294967295)]
theorem bo_0 : ab_b3 bx_0 bx_1 bx_2 (ab_both 78 32) = true := by decide +kernel
def bx_3 : List (Nat × Nat) := [(0, 2147483647), (2147483648, 2147483648), (2147483649, 4294967295)]
def bx_4 : List (Nat × Nat) := [(0, 2147483647), (2147483648, 4294967295)]
theorem bo_1 : ab_b2 bx_3 bx_4 (ab_both 79 33) = true := by decide +kernel
def bx_5 : List (Nat × Nat) := [(0, 4294967295)]
theorem bo_2 : ab_b3 bx_3 bx_4 bx_5 (ab_both 80 35) = true := by decide +kernel
theorem bo_3 : ab_b2 bx_3 bx_5 (ab_both 81 37) = true := by decide +kernel
def bx_6 : List (Nat × Nat) := [(0, 2147483647), (2147483648, 2147483648), (2147483649, 2147483649), (2147483650, 2147483650), (2147483651, 2147483651), (2147483652, 2147483652), (2147483653, 2147483653), (2147483654, 2147483654), (2147483655, 2147483655), (2147483656, 2147483656), (2147483657, 2147483657), (2147483658, 2147483658), (2147483659, 4294967295)]
theorem bo_4 : ab_b2 bx_1 bx_6 (ab_both 82 38) = true := by decide +kernel
def bx_7 : List (Nat × Nat) := [(0, 2147483646), (2147483647, 2147483647), (2147483648, 2147483648), (2147483649, 2147483649), (2147483650, 2147483650), (2147483651, 2147483651), (2147483652, 2147483652), (2147483653, 2147483653), (2147483654, 2147483654), (2147483655, 2147483655), (2147483656, 2147483656), (2147483657, 2147483657), (2147483658, 2147483658), (2147483659, 4294967295)]
theorem bo_5 : ab_b2 bx_3 bx_7 (ab_both 83 40) = true := by decide +kernel
theorem bo_6 : ab_b1 bx_6 (ab_both 84 41) = true := by decide +kernel
def bx_8 : List (Nat × Nat) := [(0, 2147483647), (2147483648, 2147483648), (2147483649, 2147483649), (2147483650, 2147483650), (2147483651, 2147483651), (2147483652, 2147483652), (2147483653, 2147483653), (2147483654, 2147483654), (2147483655, 2147483655), (2147483656, 2147483656), (2147483657, 2147483657), (2147483658, 2147483658), (2147483659, 2147483659), (2147483660, 2147483660), (2147483661, 4294967295)]
theorem bo_7 : ab_b2 bx_6 bx_8 (ab_both 85 42) = true := by decide +kernel
theorem bo_8 : ab_b2 bx_6 bx_6 (ab_both 86 43) = true := by decide +kernel
theorem bo_9 : ab_b1 bx_6 (ab_both 87 44) = true := by decide +kernel
theorem bo_10 : ab_b1 bx_6 (ab_both 88 45) = true := by decide +kernel
theorem bo_11 : ab_b2 bx_6 bx_3 (ab_both 89 46) = true := by decide +kernel
theorem bo_12 : ab_b2 bx_6 bx_6 (ab_both 90 47) = true := by decide +kernel
def bx_9 : List (Nat × Nat) := [(0, 2147483648), (2147483649, 2147483649), (2147483650, 2147483650), (2147483651, 2147483651), (2147483652, 2147483652), (2147483653, 2147483653), (2147483654, 2147483654), (2147483655, 2147483655), (2147483656, 2147483656), (2147483657, 4294967295)]
theorem bo_13 : ab_bj bx_9 (ab_both 91 48) = true := by decide +kernel
theorem bo_14 : ab_both 92 59 [] = true := by decide +kernel
theorem bo_15 : ab_b1 bx_6 (ab_both 93 62) = true := by decide +kernel
theorem bo_16 : ab_b1 bx_4 (ab_both 94 63) = true := by decide +kernel
def bx_10 : List (Nat × Nat) := [(0, 2147483647), (2147483648, 2147483648), (2147483649, 2147483649), (2147483650, 2147483650), (2147483651, 2147483651), (2147483652, 2147483652), (2147483653, 2147483653), (2147483654, 2147483667), (2147483668, 2147483668), (2147483669, 4294967295)]
theorem bo_17 : ab_b1 bx_10 (ab_both 95 64) = true := by decide +kernel
end
section
theorem okM_0 : (kM_0.all (fun e => ai_okb mtM RX8 cX8_in (some .boolean) e.1 e.2)) = true := by decide +kernel
theorem okM_1 : (kM_1.all (fun e => ai_okb mtM RX8 cX8_isNode (some .boolean) e.1 e.2)) = true := by decide +kernel
theorem okM_2 : (kM_2.all (fun e => ai_okb mtM RX8 cX8_isDecl (some .boolean) e.1 e.2)) = true := by decide +kernel
theorem okM_3 : (kM_3.all (fun e => ai_okb mtM RX8 cX8_isSame (some .boolean) e.1 e.2)) = true := by decide +kernel
theorem okM_4 : (kM_4.all (fun e => ai_okb mtM RX8 cX8_write none e.1 e.2)) = true := by decide +kernel
theorem okM_5 : (kM_5.all (fun e => ai_okb mtM RX8 cX8_type (some .int) e.1 e.2)) = true := by decide +kernel
theorem okM_6 : (kM_6.all (fun e => ai_okb mtM RX8 cX8_arrayOf (some .int) e.1 e.2)) = true := by decide +kernel
theorem okM_7 : (kM_7.all (fun e => ai_okb mtM RX8 cX8_bare (some .int) e.1 e.2)) = true := by decide +kernel
theorem okM_8 : (kM_8.all (fun e => ai_okb mtM RX8 cX8_lower (some .int) e.1 e.2)) = true := by decide +kernel
theorem okM_9 : (kM_9.all (fun e => ai_okb mtM RX8 cX8_higher (some .int) e.1 e.2)) = true := by decide +kernel
theorem okM_10 : (kM_10.all (fun e => ai_okb mtM RX8 cX8_reach none e.1 e.2)) = true := by decide +kernel
theorem okM_11 : (kM_11.all (fun e => ai_okb mtM RX8 cX8_hasVariable (some .boolean) e.1 e.2)) = true := by decide +kernel
theorem okM_12 : (kM_12.all (fun e => ai_okb mtM RX8 cX8_isRaw (some .boolean) e.1 e.2)) = true := by decide +kernel
theorem okM_13 : (kM_13.all (fun e => ai_okb mtM RX8 cX8_erasedOf (some .int) e.1 e.2)) = true := by decide +kernel
theorem okM_14 : (kM_14.all (fun e => ai_okb mtM RX8 cX8_isTold (some .boolean) e.1 e.2)) = true := by decide +kernel
theorem okM_15 : (kM_15.all (fun e => ai_okb mtM RX8 cX8_putVariable (some .int) e.1 e.2)) = true := by decide +kernel
theorem okM_16 : (kM_16.all (fun e => ai_okb mtM RX8 cX8_putArgument none e.1 e.2)) = true := by decide +kernel
theorem okM_17 : (kM_17.all (fun e => ai_okb mtM RX8 cX8_putIn (some .int) e.1 e.2)) = true := by decide +kernel
theorem okM_18 : (kM_18.all (fun e => ai_okb mtM RX8 cX8_putPart none e.1 e.2)) = true := by decide +kernel
theorem okM_19 : (kM_19.all (fun e => ai_okb mtM RX8 cX8_comesTo (some .boolean) e.1 e.2)) = true := by decide +kernel
theorem okM_20 : (kM_20.all (fun e => ai_okb mtM RX8 cX8_superOf (some .int) e.1 e.2)) = true := by decide +kernel
theorem okM_21 : (kM_21.all (fun e => ai_okb mtM RX8 cX8_isPlain (some .boolean) e.1 e.2)) = true := by decide +kernel
theorem okM_22 : (kM_22.all (fun e => ai_okb mtM RX8 cX8_isWider (some .boolean) e.1 e.2)) = true := by decide +kernel
theorem okM_23 : (kM_23.all (fun e => ai_okb mtM RX8 cX8_atOnce (some .int) e.1 e.2)) = true := by decide +kernel
theorem okM_24 : (kM_24.all (fun e => ai_okb mtM RX8 cX8_isObject (some .boolean) e.1 e.2)) = true := by decide +kernel
theorem okM_25 : (kM_25.all (fun e => ai_okb mtM RX8 cX8_belowOf (some .int) e.1 e.2)) = true := by decide +kernel
theorem okM_26 : (kM_26.all (fun e => ai_okb mtM RX8 cX8_goOn (some .int) e.1 e.2)) = true := by decide +kernel
theorem okM_27 : (kM_27.all (fun e => ai_okb mtM RX8 cX8_ask none e.1 e.2)) = true := by decide +kernel
theorem okM_28 : (kM_28.all (fun e => ai_okb mtM RX8 cX8_part (some .int) e.1 e.2)) = true := by decide +kernel
theorem okM_29 : (kM_29.all (fun e => ai_okb mtM RX8 cX8_told (some .int) e.1 e.2)) = true := by decide +kernel
theorem okM_30 : (kM_30.all (fun e => ai_okb mtM RX8 cX8_real (some .int) e.1 e.2)) = true := by decide +kernel
theorem okM_31 : (kM_31.all (fun e => ai_okb mtM RX8 cX8_copy none e.1 e.2)) = true := by decide +kernel
theorem okM_32 : (kM_32.all (fun e => ai_okb mtM RX8 cX8_declare (some .int) e.1 e.2)) = true := by decide +kernel
theorem okM_33 : (kM_33.all (fun e => ai_okb mtM RX8 cX8_variable (some .int) e.1 e.2)) = true := by decide +kernel
theorem okM_34 : (kM_34.all (fun e => ai_okb mtM RX8 cX8_isTellable (some .boolean) e.1 e.2)) = true := by decide +kernel
theorem okM_35 : (kM_35.all (fun e => ai_okb mtM RX8 cX8_bound (some .int) e.1 e.2)) = true := by decide +kernel
theorem okM_36 : (kM_36.all (fun e => ai_okb mtM RX8 cX8_leadsTo (some .boolean) e.1 e.2)) = true := by decide +kernel
theorem okM_37 : (kM_37.all (fun e => ai_okb mtM RX8 cX8_parent (some .int) e.1 e.2)) = true := by decide +kernel
theorem okM_38 : (kM_38.all (fun e => ai_okb mtM RX8 cX8_argument (some .int) e.1 e.2)) = true := by decide +kernel
theorem okM_39 : (kM_39.all (fun e => ai_okb mtM RX8 cX8_wrong (some .int) e.1 e.2)) = true := by decide +kernel
theorem okM_40 : (kM_40.all (fun e => ai_okb mtM RX8 cX8_make (some .int) e.1 e.2)) = true := by decide +kernel
theorem okM_41 : (kM_41.all (fun e => ai_okb mtM RX8 cX8_array (some .int) e.1 e.2)) = true := by decide +kernel
theorem okM_42 : (kM_42.all (fun e => ai_okb mtM RX8 cX8_about (some .int) e.1 e.2)) = true := by decide +kernel
theorem okM_43 : (kM_43.all (fun e => ai_okb mtM RX8 cX8_below (some .int) e.1 e.2)) = true := by decide +kernel
theorem okM_44 : (kM_44.all (fun e => ai_okb mtM RX8 cX8_erased (some .int) e.1 e.2)) = true := by decide +kernel
theorem okM_45 : (kM_45.all (fun e => ai_okb mtM RX8 cX8_whole (some .int) e.1 e.2)) = true := by decide +kernel
theorem okM_46 : (kM_46.all (fun e => ai_okb mtM RX8 cX8_above (some .int) e.1 e.2)) = true := by decide +kernel
theorem okM_47 : (kM_47.all (fun e => ai_okb mtM RX8 cX8_member (some .int) e.1 e.2)) = true := by decide +kernel
theorem okM_48 : (kM_48.all (fun e => ai_okb mtM RX8 cX8_feed (some .int) e.1 e.2)) = true := by decide +kernel
theorem okM_49 : (kM_49.all (fun e => ai_okb mtM RX8 cX8_byteAt (some .int) e.1 e.2)) = true := by decide +kernel
theorem okM_50 : (kM_50.all (fun e => ai_okb mtM RX8 cX8_faultAt (some .int) e.1 e.2)) = true := by decide +kernel
theorem okM_51 : (kM_51.all (fun e => ai_okb mtM RX8 cX8_readType (some .int) e.1 e.2)) = true := by decide +kernel
theorem okM_52 : (kM_52.all (fun e => ai_okb mtM RX8 cX8_readLetter (some .int) e.1 e.2)) = true := by decide +kernel
theorem okM_53 : (kM_53.all (fun e => ai_okb mtM RX8 cX8_readPart (some .int) e.1 e.2)) = true := by decide +kernel
theorem okM_54 : (kM_54.all (fun e => ai_okb mtM RX8 cX8_readArgument (some .int) e.1 e.2)) = true := by decide +kernel
theorem okM_55 : (kM_55.all (fun e => ai_okb mtM RX8 cX8_keep none e.1 e.2)) = true := by decide +kernel
theorem okM_56 : (kM_56.all (fun e => ai_okb mtM RX8 cX8_readBehind (some .int) e.1 e.2)) = true := by decide +kernel
theorem okM_57 : (kM_57.all (fun e => ai_okb mtM RX8 cX8_readClosed (some .int) e.1 e.2)) = true := by decide +kernel
theorem okM_58 : (kM_58.all (fun e => ai_okb mtM RX8 cX8_readSuffix (some .int) e.1 e.2)) = true := by decide +kernel
theorem okM_59 : (kM_59.all (fun e => ai_okb mtM RX8 cX8_read (some .int) e.1 e.2)) = true := by decide +kernel
theorem okM_60 : (kM_60.all (fun e => ai_okb mtM RX8 cX8_push none e.1 e.2)) = true := by decide +kernel
theorem okM_61 : (kM_61.all (fun e => ai_okb mtM RX8 cX8_pushParts none e.1 e.2)) = true := by decide +kernel
theorem okM_62 : (kM_62.all (fun e => ai_okb mtM RX8 cX8_print (some .int) e.1 e.2)) = true := by decide +kernel
theorem okM_63 : (kM_63.all (fun e => ai_okb mtM RX8 cX8_out (some .int) e.1 e.2)) = true := by decide +kernel
theorem okM_64 : (kM_64.all (fun e => ai_okb mtM RX8 cX8_count (some .int) e.1 e.2)) = true := by decide +kernel
theorem okM : ai_all mtM mtML kML := ⟨okM_0, okM_1, okM_2, okM_3, okM_4, okM_5, okM_6, okM_7, okM_8, okM_9, okM_10, okM_11, okM_12, okM_13, okM_14, okM_15, okM_16, okM_17, okM_18, okM_19, okM_20, okM_21, okM_22, okM_23, okM_24, okM_25, okM_26, okM_27, okM_28, okM_29, okM_30, okM_31, okM_32, okM_33, okM_34, okM_35, okM_36, okM_37, okM_38, okM_39, okM_40, okM_41, okM_42, okM_43, okM_44, okM_45, okM_46, okM_47, okM_48, okM_49, okM_50, okM_51, okM_52, okM_53, okM_54, okM_55, okM_56, okM_57, okM_58, okM_59, okM_60, okM_61, okM_62, okM_63, okM_64, trivial⟩
theorem ckM : ∀ i q, mtM i = some q → ∀ pc r, cdM i pc = some r → ai_okb mtM q.1.cls q.2.1 q.2.2.2.1 pc r = true := fun i q hq pc r hl => ai_all_at mtML kML okM i q hq pc r hl
theorem mokM_0 : ai_mokP (yX8_in, cX8_in, 3, some .boolean, 8, true, 3) := ⟨List.mem_of_getElem? (i := 968) (by decide +kernel), List.mem_of_getElem? (i := 81) (by decide +kernel), by decide +kernel, by decide +kernel, by decide +kernel, by decide, by decide +kernel, List.mem_of_getElem? (i := 967) (by decide +kernel)⟩
theorem mokM_1 : ai_mokP (yX8_isNode, cX8_isNode, 2, some .boolean, 8, false, 1) := ⟨List.mem_of_getElem? (i := 992) (by decide +kernel), List.mem_of_getElem? (i := 81) (by decide +kernel), by decide +kernel, by decide +kernel, by decide +kernel, by decide, by decide +kernel, ⟨List.mem_of_getElem? (i := 991) (by decide +kernel), List.mem_of_getElem? (i := 31) (by decide +kernel), rfl⟩⟩
theorem mokM_2 : ai_mokP (yX8_isDecl, cX8_isDecl, 2, some .boolean, 8, false, 1) := ⟨List.mem_of_getElem? (i := 965) (by decide +kernel), List.mem_of_getElem? (i := 81) (by decide +kernel), by decide +kernel, by decide +kernel, by decide +kernel, by decide, by decide +kernel, ⟨List.mem_of_getElem? (i := 964) (by decide +kernel), List.mem_of_getElem? (i := 27) (by decide +kernel), rfl⟩⟩
theorem mokM_3 : ai_mokP (yX8_isSame, cX8_isSame, 9, some .boolean, 8, false, 6) := ⟨List.mem_of_getElem? (i := 984) (by decide +kernel), List.mem_of_getElem? (i := 81) (by decide +kernel), by decide +kernel, by decide +kernel, by decide +kernel, by decide, by decide +kernel, ⟨List.mem_of_getElem? (i := 983) (by decide +kernel), List.mem_of_getElem? (i := 30) (by decide +kernel), rfl⟩⟩
theorem mokM_4 : ai_mokP (yX8_write, cX8_write, 8, none, 8, false, 6) := ⟨List.mem_of_getElem? (i := 972) (by decide +kernel), List.mem_of_getElem? (i := 81) (by decide +kernel), by decide +kernel, by decide +kernel, by decide +kernel, by decide, by decide +kernel, ⟨List.mem_of_getElem? (i := 971) (by decide +kernel), List.mem_of_getElem? (i := 28) (by decide +kernel), rfl⟩⟩
theorem mokM_5 : ai_mokP (yX8_type, cX8_type, 7, some .int, 8, false, 5) := ⟨List.mem_of_getElem? (i := 980) (by decide +kernel), List.mem_of_getElem? (i := 81) (by decide +kernel), by decide +kernel, by decide +kernel, by decide +kernel, by decide, by decide +kernel, ⟨List.mem_of_getElem? (i := 979) (by decide +kernel), List.mem_of_getElem? (i := 29) (by decide +kernel), rfl⟩⟩
theorem mokM_6 : ai_mokP (yX8_arrayOf, cX8_arrayOf, 2, some .int, 8, false, 1) := ⟨List.mem_of_getElem? (i := 1052) (by decide +kernel), List.mem_of_getElem? (i := 81) (by decide +kernel), by decide +kernel, by decide +kernel, by decide +kernel, by decide, by decide +kernel, ⟨List.mem_of_getElem? (i := 1051) (by decide +kernel), List.mem_of_getElem? (i := 43) (by decide +kernel), rfl⟩⟩
theorem mokM_7 : ai_mokP (yX8_bare, cX8_bare, 3, some .int, 8, false, 2) := ⟨List.mem_of_getElem? (i := 1048) (by decide +kernel), List.mem_of_getElem? (i := 81) (by decide +kernel), by decide +kernel, by decide +kernel, by decide +kernel, by decide, by decide +kernel, ⟨List.mem_of_getElem? (i := 1047) (by decide +kernel), List.mem_of_getElem? (i := 42) (by decide +kernel), rfl⟩⟩
theorem mokM_8 : ai_mokP (yX8_lower, cX8_lower, 2, some .int, 8, false, 1) := ⟨List.mem_of_getElem? (i := 1008) (by decide +kernel), List.mem_of_getElem? (i := 81) (by decide +kernel), by decide +kernel, by decide +kernel, by decide +kernel, by decide, by decide +kernel, ⟨List.mem_of_getElem? (i := 1007) (by decide +kernel), List.mem_of_getElem? (i := 35) (by decide +kernel), rfl⟩⟩
theorem mokM_9 : ai_mokP (yX8_higher, cX8_higher, 2, some .int, 8, false, 1) := ⟨List.mem_of_getElem? (i := 1056) (by decide +kernel), List.mem_of_getElem? (i := 81) (by decide +kernel), by decide +kernel, by decide +kernel, by decide +kernel, by decide, by decide +kernel, ⟨List.mem_of_getElem? (i := 1055) (by decide +kernel), List.mem_of_getElem? (i := 44) (by decide +kernel), rfl⟩⟩
theorem mokM_10 : ai_mokP (yX8_reach, cX8_reach, 4, none, 8, false, 1) := ⟨List.mem_of_getElem? (i := 1004) (by decide +kernel), List.mem_of_getElem? (i := 81) (by decide +kernel), by decide +kernel, by decide +kernel, by decide +kernel, by decide, by decide +kernel, ⟨List.mem_of_getElem? (i := 1003) (by decide +kernel), List.mem_of_getElem? (i := 34) (by decide +kernel), rfl⟩⟩
theorem mokM_11 : ai_mokP (yX8_hasVariable, cX8_hasVariable, 4, some .boolean, 8, false, 1) := ⟨List.mem_of_getElem? (i := 1000) (by decide +kernel), List.mem_of_getElem? (i := 81) (by decide +kernel), by decide +kernel, by decide +kernel, by decide +kernel, by decide, by decide +kernel, ⟨List.mem_of_getElem? (i := 999) (by decide +kernel), List.mem_of_getElem? (i := 33) (by decide +kernel), rfl⟩⟩
theorem mokM_12 : ai_mokP (yX8_isRaw, cX8_isRaw, 4, some .boolean, 8, false, 1) := ⟨List.mem_of_getElem? (i := 1036) (by decide +kernel), List.mem_of_getElem? (i := 81) (by decide +kernel), by decide +kernel, by decide +kernel, by decide +kernel, by decide, by decide +kernel, ⟨List.mem_of_getElem? (i := 1035) (by decide +kernel), List.mem_of_getElem? (i := 39) (by decide +kernel), rfl⟩⟩
theorem mokM_13 : ai_mokP (yX8_erasedOf, cX8_erasedOf, 5, some .int, 8, false, 1) := ⟨List.mem_of_getElem? (i := 1044) (by decide +kernel), List.mem_of_getElem? (i := 81) (by decide +kernel), by decide +kernel, by decide +kernel, by decide +kernel, by decide, by decide +kernel, ⟨List.mem_of_getElem? (i := 1043) (by decide +kernel), List.mem_of_getElem? (i := 41) (by decide +kernel), rfl⟩⟩
theorem mokM_14 : ai_mokP (yX8_isTold, cX8_isTold, 4, some .boolean, 8, false, 2) := ⟨List.mem_of_getElem? (i := 1068) (by decide +kernel), List.mem_of_getElem? (i := 81) (by decide +kernel), by decide +kernel, by decide +kernel, by decide +kernel, by decide, by decide +kernel, ⟨List.mem_of_getElem? (i := 1067) (by decide +kernel), List.mem_of_getElem? (i := 47) (by decide +kernel), rfl⟩⟩
theorem mokM_15 : ai_mokP (yX8_putVariable, cX8_putVariable, 3, some .int, 8, false, 2) := ⟨List.mem_of_getElem? (i := 1064) (by decide +kernel), List.mem_of_getElem? (i := 81) (by decide +kernel), by decide +kernel, by decide +kernel, by decide +kernel, by decide, by decide +kernel, ⟨List.mem_of_getElem? (i := 1063) (by decide +kernel), List.mem_of_getElem? (i := 46) (by decide +kernel), rfl⟩⟩
theorem mokM_16 : ai_mokP (yX8_putArgument, cX8_putArgument, 6, none, 8, false, 4) := ⟨List.mem_of_getElem? (i := 1072) (by decide +kernel), List.mem_of_getElem? (i := 81) (by decide +kernel), by decide +kernel, by decide +kernel, by decide +kernel, by decide, by decide +kernel, ⟨List.mem_of_getElem? (i := 1071) (by decide +kernel), List.mem_of_getElem? (i := 48) (by decide +kernel), rfl⟩⟩
theorem mokM_17 : ai_mokP (yX8_putIn, cX8_putIn, 4, some .int, 8, false, 2) := ⟨List.mem_of_getElem? (i := 1040) (by decide +kernel), List.mem_of_getElem? (i := 81) (by decide +kernel), by decide +kernel, by decide +kernel, by decide +kernel, by decide, by decide +kernel, ⟨List.mem_of_getElem? (i := 1039) (by decide +kernel), List.mem_of_getElem? (i := 40) (by decide +kernel), rfl⟩⟩
theorem mokM_18 : ai_mokP (yX8_putPart, cX8_putPart, 5, none, 8, false, 2) := ⟨List.mem_of_getElem? (i := 1060) (by decide +kernel), List.mem_of_getElem? (i := 81) (by decide +kernel), by decide +kernel, by decide +kernel, by decide +kernel, by decide, by decide +kernel, ⟨List.mem_of_getElem? (i := 1059) (by decide +kernel), List.mem_of_getElem? (i := 45) (by decide +kernel), rfl⟩⟩
theorem mokM_19 : ai_mokP (yX8_comesTo, cX8_comesTo, 6, some .boolean, 8, false, 2) := ⟨List.mem_of_getElem? (i := 1095) (by decide +kernel), List.mem_of_getElem? (i := 81) (by decide +kernel), by decide +kernel, by decide +kernel, by decide +kernel, by decide, by decide +kernel, ⟨List.mem_of_getElem? (i := 1094) (by decide +kernel), List.mem_of_getElem? (i := 53) (by decide +kernel), rfl⟩⟩
theorem mokM_20 : ai_mokP (yX8_superOf, cX8_superOf, 5, some .int, 8, false, 2) := ⟨List.mem_of_getElem? (i := 1091) (by decide +kernel), List.mem_of_getElem? (i := 81) (by decide +kernel), by decide +kernel, by decide +kernel, by decide +kernel, by decide, by decide +kernel, ⟨List.mem_of_getElem? (i := 1090) (by decide +kernel), List.mem_of_getElem? (i := 52) (by decide +kernel), rfl⟩⟩
theorem mokM_21 : ai_mokP (yX8_isPlain, cX8_isPlain, 2, some .boolean, 8, false, 1) := ⟨List.mem_of_getElem? (i := 1024) (by decide +kernel), List.mem_of_getElem? (i := 81) (by decide +kernel), by decide +kernel, by decide +kernel, by decide +kernel, by decide, by decide +kernel, ⟨List.mem_of_getElem? (i := 1023) (by decide +kernel), List.mem_of_getElem? (i := 37) (by decide +kernel), rfl⟩⟩
theorem mokM_22 : ai_mokP (yX8_isWider, cX8_isWider, 2, some .boolean, 8, true, 2) := ⟨List.mem_of_getElem? (i := 1083) (by decide +kernel), List.mem_of_getElem? (i := 81) (by decide +kernel), by decide +kernel, by decide +kernel, by decide +kernel, by decide, by decide +kernel, List.mem_of_getElem? (i := 1082) (by decide +kernel)⟩
theorem mokM_23 : ai_mokP (yX8_atOnce, cX8_atOnce, 3, some .int, 8, false, 2) := ⟨List.mem_of_getElem? (i := 1080) (by decide +kernel), List.mem_of_getElem? (i := 81) (by decide +kernel), by decide +kernel, by decide +kernel, by decide +kernel, by decide, by decide +kernel, ⟨List.mem_of_getElem? (i := 1079) (by decide +kernel), List.mem_of_getElem? (i := 50) (by decide +kernel), rfl⟩⟩
theorem mokM_24 : ai_mokP (yX8_isObject, cX8_isObject, 2, some .boolean, 8, false, 1) := ⟨List.mem_of_getElem? (i := 1087) (by decide +kernel), List.mem_of_getElem? (i := 81) (by decide +kernel), by decide +kernel, by decide +kernel, by decide +kernel, by decide, by decide +kernel, ⟨List.mem_of_getElem? (i := 1086) (by decide +kernel), List.mem_of_getElem? (i := 51) (by decide +kernel), rfl⟩⟩
theorem mokM_25 : ai_mokP (yX8_belowOf, cX8_belowOf, 9, some .int, 8, false, 2) := ⟨List.mem_of_getElem? (i := 1076) (by decide +kernel), List.mem_of_getElem? (i := 81) (by decide +kernel), by decide +kernel, by decide +kernel, by decide +kernel, by decide, by decide +kernel, ⟨List.mem_of_getElem? (i := 1075) (by decide +kernel), List.mem_of_getElem? (i := 49) (by decide +kernel), rfl⟩⟩
theorem mokM_26 : ai_mokP (yX8_goOn, cX8_goOn, 7, some .int, 8, false, 2) := ⟨List.mem_of_getElem? (i := 1099) (by decide +kernel), List.mem_of_getElem? (i := 81) (by decide +kernel), by decide +kernel, by decide +kernel, by decide +kernel, by decide, by decide +kernel, ⟨List.mem_of_getElem? (i := 1098) (by decide +kernel), List.mem_of_getElem? (i := 54) (by decide +kernel), rfl⟩⟩
theorem mokM_27 : ai_mokP (yX8_ask, cX8_ask, 4, none, 8, false, 3) := ⟨List.mem_of_getElem? (i := 1103) (by decide +kernel), List.mem_of_getElem? (i := 81) (by decide +kernel), by decide +kernel, by decide +kernel, by decide +kernel, by decide, by decide +kernel, ⟨List.mem_of_getElem? (i := 1102) (by decide +kernel), List.mem_of_getElem? (i := 55) (by decide +kernel), rfl⟩⟩
theorem mokM_28 : ai_mokP (yX8_part, cX8_part, 3, some .int, 8, false, 2) := ⟨List.mem_of_getElem? (i := 1111) (by decide +kernel), List.mem_of_getElem? (i := 81) (by decide +kernel), by decide +kernel, by decide +kernel, by decide +kernel, by decide, by decide +kernel, ⟨List.mem_of_getElem? (i := 1110) (by decide +kernel), List.mem_of_getElem? (i := 57) (by decide +kernel), rfl⟩⟩
theorem mokM_29 : ai_mokP (yX8_told, cX8_told, 6, some .int, 8, false, 1) := ⟨List.mem_of_getElem? (i := 1107) (by decide +kernel), List.mem_of_getElem? (i := 81) (by decide +kernel), by decide +kernel, by decide +kernel, by decide +kernel, by decide, by decide +kernel, ⟨List.mem_of_getElem? (i := 1106) (by decide +kernel), List.mem_of_getElem? (i := 56) (by decide +kernel), rfl⟩⟩
theorem mokM_30 : ai_mokP (yX8_real, cX8_real, 2, some .int, 8, false, 1) := ⟨List.mem_of_getElem? (i := 1119) (by decide +kernel), List.mem_of_getElem? (i := 81) (by decide +kernel), by decide +kernel, by decide +kernel, by decide +kernel, by decide, by decide +kernel, ⟨List.mem_of_getElem? (i := 1118) (by decide +kernel), List.mem_of_getElem? (i := 59) (by decide +kernel), rfl⟩⟩
theorem mokM_31 : ai_mokP (yX8_copy, cX8_copy, 3, none, 8, false, 1) := ⟨List.mem_of_getElem? (i := 1115) (by decide +kernel), List.mem_of_getElem? (i := 81) (by decide +kernel), by decide +kernel, by decide +kernel, by decide +kernel, by decide, by decide +kernel, ⟨List.mem_of_getElem? (i := 1114) (by decide +kernel), List.mem_of_getElem? (i := 58) (by decide +kernel), rfl⟩⟩
theorem mokM_32 : ai_mokP (yX8_declare, cX8_declare, 6, some .int, 8, false, 3) := ⟨List.mem_of_getElem? (i := 961) (by decide +kernel), List.mem_of_getElem? (i := 81) (by decide +kernel), by decide +kernel, by decide +kernel, by decide +kernel, by decide, by decide +kernel, ⟨List.mem_of_getElem? (i := 959) (by decide +kernel), List.mem_of_getElem? (i := 960) (by decide +kernel), rfl⟩⟩
theorem mokM_33 : ai_mokP (yX8_variable, cX8_variable, 4, some .int, 8, false, 2) := ⟨List.mem_of_getElem? (i := 976) (by decide +kernel), List.mem_of_getElem? (i := 81) (by decide +kernel), by decide +kernel, by decide +kernel, by decide +kernel, by decide, by decide +kernel, ⟨List.mem_of_getElem? (i := 974) (by decide +kernel), List.mem_of_getElem? (i := 975) (by decide +kernel), rfl⟩⟩
theorem mokM_34 : ai_mokP (yX8_isTellable, cX8_isTellable, 7, some .boolean, 8, false, 2) := ⟨List.mem_of_getElem? (i := 996) (by decide +kernel), List.mem_of_getElem? (i := 81) (by decide +kernel), by decide +kernel, by decide +kernel, by decide +kernel, by decide, by decide +kernel, ⟨List.mem_of_getElem? (i := 995) (by decide +kernel), List.mem_of_getElem? (i := 32) (by decide +kernel), rfl⟩⟩
theorem mokM_35 : ai_mokP (yX8_bound, cX8_bound, 6, some .int, 8, false, 3) := ⟨List.mem_of_getElem? (i := 988) (by decide +kernel), List.mem_of_getElem? (i := 81) (by decide +kernel), by decide +kernel, by decide +kernel, by decide +kernel, by decide, by decide +kernel, ⟨List.mem_of_getElem? (i := 986) (by decide +kernel), List.mem_of_getElem? (i := 987) (by decide +kernel), rfl⟩⟩
theorem mokM_36 : ai_mokP (yX8_leadsTo, cX8_leadsTo, 5, some .boolean, 8, false, 2) := ⟨List.mem_of_getElem? (i := 1012) (by decide +kernel), List.mem_of_getElem? (i := 81) (by decide +kernel), by decide +kernel, by decide +kernel, by decide +kernel, by decide, by decide +kernel, ⟨List.mem_of_getElem? (i := 1011) (by decide +kernel), List.mem_of_getElem? (i := 36) (by decide +kernel), rfl⟩⟩
theorem mokM_37 : ai_mokP (yX8_parent, cX8_parent, 3, some .int, 8, false, 2) := ⟨List.mem_of_getElem? (i := 1016) (by decide +kernel), List.mem_of_getElem? (i := 81) (by decide +kernel), by decide +kernel, by decide +kernel, by decide +kernel, by decide, by decide +kernel, ⟨List.mem_of_getElem? (i := 1014) (by decide +kernel), List.mem_of_getElem? (i := 1015) (by decide +kernel), rfl⟩⟩
theorem mokM_38 : ai_mokP (yX8_argument, cX8_argument, 3, some .int, 8, false, 2) := ⟨List.mem_of_getElem? (i := 1020) (by decide +kernel), List.mem_of_getElem? (i := 81) (by decide +kernel), by decide +kernel, by decide +kernel, by decide +kernel, by decide, by decide +kernel, ⟨List.mem_of_getElem? (i := 1018) (by decide +kernel), List.mem_of_getElem? (i := 1019) (by decide +kernel), rfl⟩⟩
theorem mokM_39 : ai_mokP (yX8_wrong, cX8_wrong, 11, some .int, 8, false, 6) := ⟨List.mem_of_getElem? (i := 1032) (by decide +kernel), List.mem_of_getElem? (i := 81) (by decide +kernel), by decide +kernel, by decide +kernel, by decide +kernel, by decide, by decide +kernel, ⟨List.mem_of_getElem? (i := 1031) (by decide +kernel), List.mem_of_getElem? (i := 38) (by decide +kernel), rfl⟩⟩
theorem mokM_40 : ai_mokP (yX8_make, cX8_make, 5, some .int, 8, false, 2) := ⟨List.mem_of_getElem? (i := 1028) (by decide +kernel), List.mem_of_getElem? (i := 81) (by decide +kernel), by decide +kernel, by decide +kernel, by decide +kernel, by decide, by decide +kernel, ⟨List.mem_of_getElem? (i := 1026) (by decide +kernel), List.mem_of_getElem? (i := 1027) (by decide +kernel), rfl⟩⟩
theorem mokM_41 : ai_mokP (yX8_array, cX8_array, 2, some .int, 8, false, 1) := ⟨List.mem_of_getElem? (i := 1123) (by decide +kernel), List.mem_of_getElem? (i := 81) (by decide +kernel), by decide +kernel, by decide +kernel, by decide +kernel, by decide, by decide +kernel, ⟨List.mem_of_getElem? (i := 1121) (by decide +kernel), List.mem_of_getElem? (i := 1122) (by decide +kernel), rfl⟩⟩
theorem mokM_42 : ai_mokP (yX8_about, cX8_about, 5, some .int, 8, false, 2) := ⟨List.mem_of_getElem? (i := 1127) (by decide +kernel), List.mem_of_getElem? (i := 81) (by decide +kernel), by decide +kernel, by decide +kernel, by decide +kernel, by decide, by decide +kernel, ⟨List.mem_of_getElem? (i := 1125) (by decide +kernel), List.mem_of_getElem? (i := 1126) (by decide +kernel), rfl⟩⟩
theorem mokM_43 : ai_mokP (yX8_below, cX8_below, 4, some .int, 8, false, 2) := ⟨List.mem_of_getElem? (i := 1131) (by decide +kernel), List.mem_of_getElem? (i := 81) (by decide +kernel), by decide +kernel, by decide +kernel, by decide +kernel, by decide, by decide +kernel, ⟨List.mem_of_getElem? (i := 1129) (by decide +kernel), List.mem_of_getElem? (i := 1130) (by decide +kernel), rfl⟩⟩
theorem mokM_44 : ai_mokP (yX8_erased, cX8_erased, 2, some .int, 8, false, 1) := ⟨List.mem_of_getElem? (i := 1135) (by decide +kernel), List.mem_of_getElem? (i := 81) (by decide +kernel), by decide +kernel, by decide +kernel, by decide +kernel, by decide, by decide +kernel, ⟨List.mem_of_getElem? (i := 1133) (by decide +kernel), List.mem_of_getElem? (i := 1134) (by decide +kernel), rfl⟩⟩
theorem mokM_45 : ai_mokP (yX8_whole, cX8_whole, 5, some .int, 8, false, 1) := ⟨List.mem_of_getElem? (i := 1139) (by decide +kernel), List.mem_of_getElem? (i := 81) (by decide +kernel), by decide +kernel, by decide +kernel, by decide +kernel, by decide, by decide +kernel, ⟨List.mem_of_getElem? (i := 1137) (by decide +kernel), List.mem_of_getElem? (i := 1138) (by decide +kernel), rfl⟩⟩
theorem mokM_46 : ai_mokP (yX8_above, cX8_above, 4, some .int, 8, false, 2) := ⟨List.mem_of_getElem? (i := 1143) (by decide +kernel), List.mem_of_getElem? (i := 81) (by decide +kernel), by decide +kernel, by decide +kernel, by decide +kernel, by decide, by decide +kernel, ⟨List.mem_of_getElem? (i := 1141) (by decide +kernel), List.mem_of_getElem? (i := 1142) (by decide +kernel), rfl⟩⟩
theorem mokM_47 : ai_mokP (yX8_member, cX8_member, 3, some .int, 8, false, 2) := ⟨List.mem_of_getElem? (i := 1147) (by decide +kernel), List.mem_of_getElem? (i := 81) (by decide +kernel), by decide +kernel, by decide +kernel, by decide +kernel, by decide, by decide +kernel, ⟨List.mem_of_getElem? (i := 1145) (by decide +kernel), List.mem_of_getElem? (i := 1146) (by decide +kernel), rfl⟩⟩
theorem mokM_48 : ai_mokP (yX8_feed, cX8_feed, 5, some .int, 8, false, 2) := ⟨List.mem_of_getElem? (i := 1151) (by decide +kernel), List.mem_of_getElem? (i := 81) (by decide +kernel), by decide +kernel, by decide +kernel, by decide +kernel, by decide, by decide +kernel, ⟨List.mem_of_getElem? (i := 1149) (by decide +kernel), List.mem_of_getElem? (i := 1150) (by decide +kernel), rfl⟩⟩
theorem mokM_49 : ai_mokP (yX8_byteAt, cX8_byteAt, 2, some .int, 8, false, 1) := ⟨List.mem_of_getElem? (i := 1163) (by decide +kernel), List.mem_of_getElem? (i := 81) (by decide +kernel), by decide +kernel, by decide +kernel, by decide +kernel, by decide, by decide +kernel, ⟨List.mem_of_getElem? (i := 1162) (by decide +kernel), List.mem_of_getElem? (i := 61) (by decide +kernel), rfl⟩⟩
theorem mokM_50 : ai_mokP (yX8_faultAt, cX8_faultAt, 2, some .int, 8, false, 1) := ⟨List.mem_of_getElem? (i := 1167) (by decide +kernel), List.mem_of_getElem? (i := 81) (by decide +kernel), by decide +kernel, by decide +kernel, by decide +kernel, by decide, by decide +kernel, ⟨List.mem_of_getElem? (i := 1166) (by decide +kernel), List.mem_of_getElem? (i := 62) (by decide +kernel), rfl⟩⟩
theorem mokM_51 : ai_mokP (yX8_readType, cX8_readType, 3, some .int, 8, false, 0) := ⟨List.mem_of_getElem? (i := 1159) (by decide +kernel), List.mem_of_getElem? (i := 81) (by decide +kernel), by decide +kernel, by decide +kernel, by decide +kernel, by decide, by decide +kernel, ⟨List.mem_of_getElem? (i := 1158) (by decide +kernel), List.mem_of_getElem? (i := 60) (by decide +kernel), rfl⟩⟩
theorem mokM_52 : ai_mokP (yX8_readLetter, cX8_readLetter, 3, some .int, 8, false, 1) := ⟨List.mem_of_getElem? (i := 1171) (by decide +kernel), List.mem_of_getElem? (i := 81) (by decide +kernel), by decide +kernel, by decide +kernel, by decide +kernel, by decide, by decide +kernel, ⟨List.mem_of_getElem? (i := 1170) (by decide +kernel), List.mem_of_getElem? (i := 63) (by decide +kernel), rfl⟩⟩
theorem mokM_53 : ai_mokP (yX8_readPart, cX8_readPart, 1, some .int, 8, false, 0) := ⟨List.mem_of_getElem? (i := 1175) (by decide +kernel), List.mem_of_getElem? (i := 81) (by decide +kernel), by decide +kernel, by decide +kernel, by decide +kernel, by decide, by decide +kernel, ⟨List.mem_of_getElem? (i := 1174) (by decide +kernel), List.mem_of_getElem? (i := 64) (by decide +kernel), rfl⟩⟩
theorem mokM_54 : ai_mokP (yX8_readArgument, cX8_readArgument, 2, some .int, 8, false, 0) := ⟨List.mem_of_getElem? (i := 1179) (by decide +kernel), List.mem_of_getElem? (i := 81) (by decide +kernel), by decide +kernel, by decide +kernel, by decide +kernel, by decide, by decide +kernel, ⟨List.mem_of_getElem? (i := 1178) (by decide +kernel), List.mem_of_getElem? (i := 65) (by decide +kernel), rfl⟩⟩
theorem mokM_55 : ai_mokP (yX8_keep, cX8_keep, 3, none, 8, false, 2) := ⟨List.mem_of_getElem? (i := 1183) (by decide +kernel), List.mem_of_getElem? (i := 81) (by decide +kernel), by decide +kernel, by decide +kernel, by decide +kernel, by decide, by decide +kernel, ⟨List.mem_of_getElem? (i := 1182) (by decide +kernel), List.mem_of_getElem? (i := 66) (by decide +kernel), rfl⟩⟩
theorem mokM_56 : ai_mokP (yX8_readBehind, cX8_readBehind, 2, some .int, 8, false, 0) := ⟨List.mem_of_getElem? (i := 1187) (by decide +kernel), List.mem_of_getElem? (i := 81) (by decide +kernel), by decide +kernel, by decide +kernel, by decide +kernel, by decide, by decide +kernel, ⟨List.mem_of_getElem? (i := 1186) (by decide +kernel), List.mem_of_getElem? (i := 67) (by decide +kernel), rfl⟩⟩
theorem mokM_57 : ai_mokP (yX8_readClosed, cX8_readClosed, 1, some .int, 8, false, 0) := ⟨List.mem_of_getElem? (i := 1191) (by decide +kernel), List.mem_of_getElem? (i := 81) (by decide +kernel), by decide +kernel, by decide +kernel, by decide +kernel, by decide, by decide +kernel, ⟨List.mem_of_getElem? (i := 1190) (by decide +kernel), List.mem_of_getElem? (i := 68) (by decide +kernel), rfl⟩⟩
theorem mokM_58 : ai_mokP (yX8_readSuffix, cX8_readSuffix, 1, some .int, 8, false, 0) := ⟨List.mem_of_getElem? (i := 1195) (by decide +kernel), List.mem_of_getElem? (i := 81) (by decide +kernel), by decide +kernel, by decide +kernel, by decide +kernel, by decide, by decide +kernel, ⟨List.mem_of_getElem? (i := 1194) (by decide +kernel), List.mem_of_getElem? (i := 69) (by decide +kernel), rfl⟩⟩
theorem mokM_59 : ai_mokP (yX8_read, cX8_read, 2, some .int, 8, false, 0) := ⟨List.mem_of_getElem? (i := 1155) (by decide +kernel), List.mem_of_getElem? (i := 81) (by decide +kernel), by decide +kernel, by decide +kernel, by decide +kernel, by decide, by decide +kernel, ⟨List.mem_of_getElem? (i := 1153) (by decide +kernel), List.mem_of_getElem? (i := 1154) (by decide +kernel), rfl⟩⟩
theorem mokM_60 : ai_mokP (yX8_push, cX8_push, 2, none, 8, false, 1) := ⟨List.mem_of_getElem? (i := 1203) (by decide +kernel), List.mem_of_getElem? (i := 81) (by decide +kernel), by decide +kernel, by decide +kernel, by decide +kernel, by decide, by decide +kernel, ⟨List.mem_of_getElem? (i := 1202) (by decide +kernel), List.mem_of_getElem? (i := 70) (by decide +kernel), rfl⟩⟩
theorem mokM_61 : ai_mokP (yX8_pushParts, cX8_pushParts, 4, none, 8, false, 1) := ⟨List.mem_of_getElem? (i := 1207) (by decide +kernel), List.mem_of_getElem? (i := 81) (by decide +kernel), by decide +kernel, by decide +kernel, by decide +kernel, by decide, by decide +kernel, ⟨List.mem_of_getElem? (i := 1206) (by decide +kernel), List.mem_of_getElem? (i := 71) (by decide +kernel), rfl⟩⟩
theorem mokM_62 : ai_mokP (yX8_print, cX8_print, 3, some .int, 8, false, 1) := ⟨List.mem_of_getElem? (i := 1199) (by decide +kernel), List.mem_of_getElem? (i := 81) (by decide +kernel), by decide +kernel, by decide +kernel, by decide +kernel, by decide, by decide +kernel, ⟨List.mem_of_getElem? (i := 1197) (by decide +kernel), List.mem_of_getElem? (i := 1198) (by decide +kernel), rfl⟩⟩
theorem mokM_63 : ai_mokP (yX8_out, cX8_out, 2, some .int, 8, false, 1) := ⟨List.mem_of_getElem? (i := 1211) (by decide +kernel), List.mem_of_getElem? (i := 81) (by decide +kernel), by decide +kernel, by decide +kernel, by decide +kernel, by decide, by decide +kernel, ⟨List.mem_of_getElem? (i := 1209) (by decide +kernel), List.mem_of_getElem? (i := 1210) (by decide +kernel), rfl⟩⟩
theorem mokM_64 : ai_mokP (yX8_count, cX8_count, 4, some .int, 8, false, 1) := ⟨List.mem_of_getElem? (i := 1215) (by decide +kernel), List.mem_of_getElem? (i := 81) (by decide +kernel), by decide +kernel, by decide +kernel, by decide +kernel, by decide, by decide +kernel, ⟨List.mem_of_getElem? (i := 1213) (by decide +kernel), List.mem_of_getElem? (i := 1214) (by decide +kernel), rfl⟩⟩
set_option maxRecDepth 20000 in
theorem mokM_l : ∀ q ∈ mtML, ai_mokP q := List.forall_mem_cons.mpr ⟨mokM_0, List.forall_mem_cons.mpr ⟨mokM_1, List.forall_mem_cons.mpr ⟨mokM_2, List.forall_mem_cons.mpr ⟨mokM_3, List.forall_mem_cons.mpr ⟨mokM_4, List.forall_mem_cons.mpr ⟨mokM_5, List.forall_mem_cons.mpr ⟨mokM_6, List.forall_mem_cons.mpr ⟨mokM_7, List.forall_mem_cons.mpr ⟨mokM_8, List.forall_mem_cons.mpr ⟨mokM_9, List.forall_mem_cons.mpr ⟨mokM_10, List.forall_mem_cons.mpr ⟨mokM_11, List.forall_mem_cons.mpr ⟨mokM_12, List.forall_mem_cons.mpr ⟨mokM_13, List.forall_mem_cons.mpr ⟨mokM_14, List.forall_mem_cons.mpr ⟨mokM_15, List.forall_mem_cons.mpr ⟨mokM_16, List.forall_mem_cons.mpr ⟨mokM_17, List.forall_mem_cons.mpr ⟨mokM_18, List.forall_mem_cons.mpr ⟨mokM_19, List.forall_mem_cons.mpr ⟨mokM_20, List.forall_mem_cons.mpr ⟨mokM_21, List.forall_mem_cons.mpr ⟨mokM_22, List.forall_mem_cons.mpr ⟨mokM_23, List.forall_mem_cons.mpr ⟨mokM_24, List.forall_mem_cons.mpr ⟨mokM_25, List.forall_mem_cons.mpr ⟨mokM_26, List.forall_mem_cons.mpr ⟨mokM_27, List.forall_mem_cons.mpr ⟨mokM_28, List.forall_mem_cons.mpr ⟨mokM_29, List.forall_mem_cons.mpr ⟨mokM_30, List.forall_mem_cons.mpr ⟨mokM_31, List.forall_mem_cons.mpr ⟨mokM_32, List.forall_mem_cons.mpr ⟨mokM_33, List.forall_mem_cons.mpr ⟨mokM_34, List.forall_mem_cons.mpr ⟨mokM_35, List.forall_mem_cons.mpr ⟨mokM_36, List.forall_mem_cons.mpr ⟨mokM_37, List.forall_mem_cons.mpr ⟨mokM_38, List.forall_mem_cons.mpr ⟨mokM_39, List.forall_mem_cons.mpr ⟨mokM_40, List.forall_mem_cons.mpr ⟨mokM_41, List.forall_mem_cons.mpr ⟨mokM_42, List.forall_mem_cons.mpr ⟨mokM_43, List.forall_mem_cons.mpr ⟨mokM_44, List.forall_mem_cons.mpr ⟨mokM_45, List.forall_mem_cons.mpr ⟨mokM_46, List.forall_mem_cons.mpr ⟨mokM_47, List.forall_mem_cons.mpr ⟨mokM_48, List.forall_mem_cons.mpr ⟨mokM_49, List.forall_mem_cons.mpr ⟨mokM_50, List.forall_mem_cons.mpr ⟨mokM_51, List.forall_mem_cons.mpr ⟨mokM_52, List.forall_mem_cons.mpr ⟨mokM_53, List.forall_mem_cons.mpr ⟨mokM_54, List.forall_mem_cons.mpr ⟨mokM_55, List.forall_mem_cons.mpr ⟨mokM_56, List.forall_mem_cons.mpr ⟨mokM_57, List.forall_mem_cons.mpr ⟨mokM_58, List.forall_mem_cons.mpr ⟨mokM_59, List.forall_mem_cons.mpr ⟨mokM_60, List.forall_mem_cons.mpr ⟨mokM_61, List.forall_mem_cons.mpr ⟨mokM_62, List.forall_mem_cons.mpr ⟨mokM_63, List.forall_mem_cons.mpr ⟨mokM_64, fun _ h => absurd h List.not_mem_nil⟩⟩⟩⟩⟩⟩⟩⟩⟩⟩⟩⟩⟩⟩⟩⟩⟩⟩⟩⟩⟩⟩⟩⟩⟩⟩⟩⟩⟩⟩⟩⟩⟩⟩⟩⟩⟩⟩⟩⟩⟩⟩⟩⟩⟩⟩⟩⟩⟩⟩⟩⟩⟩⟩⟩⟩⟩⟩⟩⟩⟩⟩⟩⟩⟩
theorem mokM : ∀ i q, mtM i = some q → ai_mokP q ∧ mlM i = q.2.2.1 ∧ mciM i = q.2.2.2.2.1 := by
  intro i q hq
  have h1 : mtML[i]? = some q := hq
  exact ⟨mokM_l q (List.mem_of_getElem? h1), by simp [mlM, h1], by simp [mciM, h1]⟩
end
section
theorem okC_0 : (kC_0.all (fun e => ai_okb mtC RX0 cX0_number (some .int) e.1 e.2)) = true := by decide +kernel
theorem okC_1 : (kC_1.all (fun e => ai_okb mtC RX0 cX0_has (some .boolean) e.1 e.2)) = true := by decide +kernel
theorem okC_2 : (kC_2.all (fun e => ai_okb mtC RX0 cX0_hasRoom (some .boolean) e.1 e.2)) = true := by decide +kernel
theorem okC_3 : (kC_3.all (fun e => ai_okb mtC RX0 cX0_add (some .int) e.1 e.2)) = true := by decide +kernel
theorem okC_4 : (kC_4.all (fun e => ai_okb mtC RX0 cX0_isInterface (some .boolean) e.1 e.2)) = true := by decide +kernel
theorem okC_5 : (kC_5.all (fun e => ai_okb mtC RX0 cX0_parametersOf (some .int) e.1 e.2)) = true := by decide +kernel
theorem okC_6 : (kC_6.all (fun e => ai_okb mtC RX0 cX0_outerOf (some .int) e.1 e.2)) = true := by decide +kernel
theorem okC_7 : (kC_7.all (fun e => ai_okb mtC RX0 cX0_isWithin (some .boolean) e.1 e.2)) = true := by decide +kernel
theorem okC_8 : (kC_8.all (fun e => ai_okb mtC RX0 cX0_hasPlace (some .boolean) e.1 e.2)) = true := by decide +kernel
theorem okC_9 : (kC_9.all (fun e => ai_okb mtC RX0 cX0_variableAt (some .int) e.1 e.2)) = true := by decide +kernel
theorem okC_10 : (kC_10.all (fun e => ai_okb mtC RX0 cX0_boundsOf (some .int) e.1 e.2)) = true := by decide +kernel
theorem okC_11 : (kC_11.all (fun e => ai_okb mtC RX0 cX0_boundAt (some .int) e.1 e.2)) = true := by decide +kernel
theorem okC_12 : (kC_12.all (fun e => ai_okb mtC RX0 cX0_allBoundsOf (some .int) e.1 e.2)) = true := by decide +kernel
theorem okC_13 : (kC_13.all (fun e => ai_okb mtC RX0 cX0_addBound (some .int) e.1 e.2)) = true := by decide +kernel
theorem okC_14 : (kC_14.all (fun e => ai_okb mtC RX0 cX0_parentsOf (some .int) e.1 e.2)) = true := by decide +kernel
theorem okC_15 : (kC_15.all (fun e => ai_okb mtC RX0 cX0_addParent (some .int) e.1 e.2)) = true := by decide +kernel
theorem okC_16 : (kC_16.all (fun e => ai_okb mtC RX0 cX0_findAncestors none e.1 e.2)) = true := by decide +kernel
theorem okC_17 : (kC_17.all (fun e => ai_okb mtC RX0 cX0_parentToward (some .int) e.1 e.2)) = true := by decide +kernel
theorem okC_18 : (kC_18.all (fun e => ai_okb mtC RX1 cX1_erase (some .int) e.1 e.2)) = true := by decide +kernel
theorem okC_19 : (kC_19.all (fun e => ai_okb mtC RX1 cX1_putIn (some .int) e.1 e.2)) = true := by decide +kernel
theorem okC_20 : (kC_20.all (fun e => ai_okb mtC RX1 cX1_putInArgument (some .int) e.1 e.2)) = true := by decide +kernel
theorem okC_21 : (kC_21.all (fun e => ai_okb mtC RX1 cX1_tellerOf (some .int) e.1 e.2)) = true := by decide +kernel
theorem okC_22 : (kC_22.all (fun e => ai_okb mtC RX1 cX1_told (some .int) e.1 e.2)) = true := by decide +kernel
theorem okC_23 : (kC_23.all (fun e => ai_okb mtC RX1 cX1_superOf (some .int) e.1 e.2)) = true := by decide +kernel
theorem okC_24 : (kC_24.all (fun e => ai_okb mtC RX1 cX1_isWhole (some .boolean) e.1 e.2)) = true := by decide +kernel
theorem okC_25 : (kC_25.all (fun e => ai_okb mtC RX2 cX2_ask (some .int) e.1 e.2)) = true := by decide +kernel
theorem okC_26 : (kC_26.all (fun e => ai_okb mtC RX2 cX2_isNarrower (some .boolean) e.1 e.2)) = true := by decide +kernel
theorem okC_27 : (kC_27.all (fun e => ai_okb mtC RX2 cX2_askBounds (some .int) e.1 e.2)) = true := by decide +kernel
theorem okC_28 : (kC_28.all (fun e => ai_okb mtC RX2 cX2_askElements (some .int) e.1 e.2)) = true := by decide +kernel
theorem okC_29 : (kC_29.all (fun e => ai_okb mtC RX2 cX2_askClasses (some .int) e.1 e.2)) = true := by decide +kernel
theorem okC_30 : (kC_30.all (fun e => ai_okb mtC RX2 cX2_askSame (some .int) e.1 e.2)) = true := by decide +kernel
theorem okC_31 : (kC_31.all (fun e => ai_okb mtC RX2 cX2_askIn (some .int) e.1 e.2)) = true := by decide +kernel
theorem okC_32 : (kC_32.all (fun e => ai_okb mtC RX3 cX3_length (some .int) e.1 e.2)) = true := by decide +kernel
theorem okC_33 : (kC_33.all (fun e => ai_okb mtC RX3 cX3_byteAt (some .int) e.1 e.2)) = true := by decide +kernel
theorem okC_34 : (kC_34.all (fun e => ai_okb mtC RX3 cX3_put (some .int) e.1 e.2)) = true := by decide +kernel
theorem okC_35 : (kC_35.all (fun e => ai_okb mtC RX3 cX3_write none e.1 e.2)) = true := by decide +kernel
theorem okC_36 : (kC_36.all (fun e => ai_okb mtC RX3 cX3_writeType none e.1 e.2)) = true := by decide +kernel
theorem okC_37 : (kC_37.all (fun e => ai_okb mtC RX3 cX3_writeArguments none e.1 e.2)) = true := by decide +kernel
theorem okC_38 : (kC_38.all (fun e => ai_okb mtC RX4 cX4_length (some .int) e.1 e.2)) = true := by decide +kernel
theorem okC_39 : (kC_39.all (fun e => ai_okb mtC RX4 cX4_take (some .int) e.1 e.2)) = true := by decide +kernel
theorem okC_40 : (kC_40.all (fun e => ai_okb mtC RX4 cX4_start none e.1 e.2)) = true := by decide +kernel
theorem okC_41 : (kC_41.all (fun e => ai_okb mtC RX4 cX4_finish (some .int) e.1 e.2)) = true := by decide +kernel
theorem okC_42 : (kC_42.all (fun e => ai_okb mtC RX4 cX4_next (some .int) e.1 e.2)) = true := by decide +kernel
theorem okC_43 : (kC_43.all (fun e => ai_okb mtC RX4 cX4_faultAt (some .int) e.1 e.2)) = true := by decide +kernel
theorem okC_44 : (kC_44.all (fun e => ai_okb mtC RX4 cX4_typeText (some .int) e.1 e.2)) = true := by decide +kernel
theorem okC_45 : (kC_45.all (fun e => ai_okb mtC RX4 cX4_baseText (some .int) e.1 e.2)) = true := by decide +kernel
theorem okC_46 : (kC_46.all (fun e => ai_okb mtC RX4 cX4_variableText (some .int) e.1 e.2)) = true := by decide +kernel
theorem okC_47 : (kC_47.all (fun e => ai_okb mtC RX4 cX4_partText (some .int) e.1 e.2)) = true := by decide +kernel
theorem okC_48 : (kC_48.all (fun e => ai_okb mtC RX4 cX4_argumentText (some .int) e.1 e.2)) = true := by decide +kernel
theorem okC_49 : (kC_49.all (fun e => ai_okb mtC RX5 cX5_ofBound (some .int) e.1 e.2)) = true := by decide +kernel
theorem okC_50 : (kC_50.all (fun e => ai_okb mtC RX5 cX5_ofParent (some .int) e.1 e.2)) = true := by decide +kernel
theorem okC_51 : (kC_51.all (fun e => ai_okb mtC RX5 cX5_isAsTold (some .boolean) e.1 e.2)) = true := by decide +kernel
theorem okC_52 : (kC_52.all (fun e => ai_okb mtC RX5 cX5_comesTo (some .boolean) e.1 e.2)) = true := by decide +kernel
theorem okC_53 : (kC_53.all (fun e => ai_okb mtC RX5 cX5_ofMade (some .int) e.1 e.2)) = true := by decide +kernel
theorem okC_54 : (kC_54.all (fun e => ai_okb mtC RX5 cX5_ofMadeShape (some .int) e.1 e.2)) = true := by decide +kernel
theorem okC_55 : (kC_55.all (fun e => ai_okb mtC RX6 cX6_setPlain none e.1 e.2)) = true := by decide +kernel
theorem okC_56 : (kC_56.all (fun e => ai_okb mtC RX6 cX6_number (some .int) e.1 e.2)) = true := by decide +kernel
theorem okC_57 : (kC_57.all (fun e => ai_okb mtC RX6 cX6_isNode (some .boolean) e.1 e.2)) = true := by decide +kernel
theorem okC_58 : (kC_58.all (fun e => ai_okb mtC RX6 cX6_hasRoomFor (some .boolean) e.1 e.2)) = true := by decide +kernel
theorem okC_59 : (kC_59.all (fun e => ai_okb mtC RX6 cX6_addVariables (some .int) e.1 e.2)) = true := by decide +kernel
theorem okC_60 : (kC_60.all (fun e => ai_okb mtC RX6 cX6_formOf (some .int) e.1 e.2)) = true := by decide +kernel
theorem okC_61 : (kC_61.all (fun e => ai_okb mtC RX6 cX6_ownerOf (some .int) e.1 e.2)) = true := by decide +kernel
theorem okC_62 : (kC_62.all (fun e => ai_okb mtC RX6 cX6_placeOf (some .int) e.1 e.2)) = true := by decide +kernel
theorem okC_63 : (kC_63.all (fun e => ai_okb mtC RX6 cX6_elementOf (some .int) e.1 e.2)) = true := by decide +kernel
theorem okC_64 : (kC_64.all (fun e => ai_okb mtC RX6 cX6_outerOf (some .int) e.1 e.2)) = true := by decide +kernel
theorem okC_65 : (kC_65.all (fun e => ai_okb mtC RX6 cX6_argumentAt (some .int) e.1 e.2)) = true := by decide +kernel
theorem okC_66 : (kC_66.all (fun e => ai_okb mtC RX6 cX6_argumentsOf (some .int) e.1 e.2)) = true := by decide +kernel
theorem okC_67 : (kC_67.all (fun e => ai_okb mtC RX6 cX6_isRaw (some .boolean) e.1 e.2)) = true := by decide +kernel
theorem okC_68 : (kC_68.all (fun e => ai_okb mtC RX6 cX6_isOpen (some .boolean) e.1 e.2)) = true := by decide +kernel
theorem okC_69 : (kC_69.all (fun e => ai_okb mtC RX6 cX6_canBeArgument (some .boolean) e.1 e.2)) = true := by decide +kernel
theorem okC_70 : (kC_70.all (fun e => ai_okb mtC RX6 cX6_canBeElement (some .boolean) e.1 e.2)) = true := by decide +kernel
theorem okC_71 : (kC_71.all (fun e => ai_okb mtC RX6 cX6_mark (some .int) e.1 e.2)) = true := by decide +kernel
theorem okC_72 : (kC_72.all (fun e => ai_okb mtC RX6 cX6_release none e.1 e.2)) = true := by decide +kernel
theorem okC_73 : (kC_73.all (fun e => ai_okb mtC RX6 cX6_forget none e.1 e.2)) = true := by decide +kernel
theorem okC_74 : (kC_74.all (fun e => ai_okb mtC RX6 cX6_shaped (some .int) e.1 e.2)) = true := by decide +kernel
theorem okC_75 : (kC_75.all (fun e => ai_okb mtC RX6 cX6_answer (some .int) e.1 e.2)) = true := by decide +kernel
theorem okC_76 : (kC_76.all (fun e => ai_okb mtC RX6 cX6_keep (some .int) e.1 e.2)) = true := by decide +kernel
theorem okC_77 : (kC_77.all (fun e => ai_okb mtC RX6 cX6_keepArgument (some .int) e.1 e.2)) = true := by decide +kernel
theorem okC_78 : (kC_78.all (fun e => ai_okb mtC RX7 cX7_declare (some .int) e.1 e.2)) = true := by decide +kernel
theorem okC_79 : (kC_79.all (fun e => ai_okb mtC RX7 cX7_variable (some .int) e.1 e.2)) = true := by decide +kernel
theorem okC_80 : (kC_80.all (fun e => ai_okb mtC RX7 cX7_bound (some .int) e.1 e.2)) = true := by decide +kernel
theorem okC_81 : (kC_81.all (fun e => ai_okb mtC RX7 cX7_parent (some .int) e.1 e.2)) = true := by decide +kernel
theorem okC_82 : (kC_82.all (fun e => ai_okb mtC RX7 cX7_argument (some .int) e.1 e.2)) = true := by decide +kernel
theorem okC_83 : (kC_83.all (fun e => ai_okb mtC RX7 cX7_make (some .int) e.1 e.2)) = true := by decide +kernel
theorem okC_84 : (kC_84.all (fun e => ai_okb mtC RX7 cX7_array (some .int) e.1 e.2)) = true := by decide +kernel
theorem okC_85 : (kC_85.all (fun e => ai_okb mtC RX7 cX7_about (some .int) e.1 e.2)) = true := by decide +kernel
theorem okC_86 : (kC_86.all (fun e => ai_okb mtC RX7 cX7_below (some .int) e.1 e.2)) = true := by decide +kernel
theorem okC_87 : (kC_87.all (fun e => ai_okb mtC RX7 cX7_erased (some .int) e.1 e.2)) = true := by decide +kernel
theorem okC_88 : (kC_88.all (fun e => ai_okb mtC RX7 cX7_whole (some .int) e.1 e.2)) = true := by decide +kernel
theorem okC_89 : (kC_89.all (fun e => ai_okb mtC RX7 cX7_above (some .int) e.1 e.2)) = true := by decide +kernel
theorem okC_90 : (kC_90.all (fun e => ai_okb mtC RX7 cX7_member (some .int) e.1 e.2)) = true := by decide +kernel
theorem okC_91 : (kC_91.all (fun e => ai_okb mtC RX7 cX7_feed (some .int) e.1 e.2)) = true := by decide +kernel
theorem okC_92 : (kC_92.all (fun e => ai_okb mtC RX7 cX7_read (some .int) e.1 e.2)) = true := by decide +kernel
theorem okC_93 : (kC_93.all (fun e => ai_okb mtC RX7 cX7_print (some .int) e.1 e.2)) = true := by decide +kernel
theorem okC_94 : (kC_94.all (fun e => ai_okb mtC RX7 cX7_out (some .int) e.1 e.2)) = true := by decide +kernel
theorem okC_95 : (kC_95.all (fun e => ai_okb mtC RX7 cX7_count (some .int) e.1 e.2)) = true := by decide +kernel
theorem okC_96 : (kC_96.all (fun e => ai_okb mtC RX7 cX7_argumentOf (some .int) e.1 e.2)) = true := by decide +kernel
theorem okC_97 : (kC_97.all (fun e => ai_okb mtC RX7 cX7_wildOf (some .int) e.1 e.2)) = true := by decide +kernel
theorem okC_98 : (kC_98.all (fun e => ai_okb mtC RX7 cX7_typeOf (some .int) e.1 e.2)) = true := by decide +kernel
theorem okC : ai_all mtC mtCL kCL := ⟨okC_0, okC_1, okC_2, okC_3, okC_4, okC_5, okC_6, okC_7, okC_8, okC_9, okC_10, okC_11, okC_12, okC_13, okC_14, okC_15, okC_16, okC_17, okC_18, okC_19, okC_20, okC_21, okC_22, okC_23, okC_24, okC_25, okC_26, okC_27, okC_28, okC_29, okC_30, okC_31, okC_32, okC_33, okC_34, okC_35, okC_36, okC_37, okC_38, okC_39, okC_40, okC_41, okC_42, okC_43, okC_44, okC_45, okC_46, okC_47, okC_48, okC_49, okC_50, okC_51, okC_52, okC_53, okC_54, okC_55, okC_56, okC_57, okC_58, okC_59, okC_60, okC_61, okC_62, okC_63, okC_64, okC_65, okC_66, okC_67, okC_68, okC_69, okC_70, okC_71, okC_72, okC_73, okC_74, okC_75, okC_76, okC_77, okC_78, okC_79, okC_80, okC_81, okC_82, okC_83, okC_84, okC_85, okC_86, okC_87, okC_88, okC_89, okC_90, okC_91, okC_92, okC_93, okC_94, okC_95, okC_96, okC_97, okC_98, trivial⟩
theorem ckC : ∀ i q, mtC i = some q → ∀ pc r, cdC i pc = some r → ai_okb mtC q.1.cls q.2.1 q.2.2.2.1 pc r = true := fun i q hq pc r hl => ai_all_at mtCL kCL okC i q hq pc r hl
theorem mokC_0 : ai_mokP (yX0_number, cX0_number, 1, some .int, 0, false, 0) := ⟨List.mem_of_getElem? (i := 333) (by decide +kernel), List.mem_of_getElem? (i := 74) (by decide +kernel), by decide +kernel, by decide +kernel, by decide +kernel, by decide, by decide +kernel, ⟨List.mem_of_getElem? (i := 331) (by decide +kernel), List.mem_of_getElem? (i := 332) (by decide +kernel), rfl⟩⟩
theorem mokC_1 : ai_mokP (yX0_has, cX0_has, 2, some .boolean, 0, false, 1) := ⟨List.mem_of_getElem? (i := 321) (by decide +kernel), List.mem_of_getElem? (i := 74) (by decide +kernel), by decide +kernel, by decide +kernel, by decide +kernel, by decide, by decide +kernel, ⟨List.mem_of_getElem? (i := 319) (by decide +kernel), List.mem_of_getElem? (i := 320) (by decide +kernel), rfl⟩⟩
theorem mokC_2 : ai_mokP (yX0_hasRoom, cX0_hasRoom, 1, some .boolean, 0, false, 0) := ⟨List.mem_of_getElem? (i := 325) (by decide +kernel), List.mem_of_getElem? (i := 74) (by decide +kernel), by decide +kernel, by decide +kernel, by decide +kernel, by decide, by decide +kernel, ⟨List.mem_of_getElem? (i := 323) (by decide +kernel), List.mem_of_getElem? (i := 324) (by decide +kernel), rfl⟩⟩
theorem mokC_3 : ai_mokP (yX0_add, cX0_add, 6, some .int, 0, false, 4) := ⟨List.mem_of_getElem? (i := 341) (by decide +kernel), List.mem_of_getElem? (i := 74) (by decide +kernel), by decide +kernel, by decide +kernel, by decide +kernel, by decide, by decide +kernel, ⟨List.mem_of_getElem? (i := 339) (by decide +kernel), List.mem_of_getElem? (i := 340) (by decide +kernel), rfl⟩⟩
theorem mokC_4 : ai_mokP (yX0_isInterface, cX0_isInterface, 2, some .boolean, 0, false, 1) := ⟨List.mem_of_getElem? (i := 409) (by decide +kernel), List.mem_of_getElem? (i := 74) (by decide +kernel), by decide +kernel, by decide +kernel, by decide +kernel, by decide, by decide +kernel, ⟨List.mem_of_getElem? (i := 407) (by decide +kernel), List.mem_of_getElem? (i := 408) (by decide +kernel), rfl⟩⟩
theorem mokC_5 : ai_mokP (yX0_parametersOf, cX0_parametersOf, 2, some .int, 0, false, 1) := ⟨List.mem_of_getElem? (i := 480) (by decide +kernel), List.mem_of_getElem? (i := 74) (by decide +kernel), by decide +kernel, by decide +kernel, by decide +kernel, by decide, by decide +kernel, ⟨List.mem_of_getElem? (i := 478) (by decide +kernel), List.mem_of_getElem? (i := 479) (by decide +kernel), rfl⟩⟩
theorem mokC_6 : ai_mokP (yX0_outerOf, cX0_outerOf, 2, some .int, 0, false, 1) := ⟨List.mem_of_getElem? (i := 484) (by decide +kernel), List.mem_of_getElem? (i := 74) (by decide +kernel), by decide +kernel, by decide +kernel, by decide +kernel, by decide, by decide +kernel, ⟨List.mem_of_getElem? (i := 482) (by decide +kernel), List.mem_of_getElem? (i := 483) (by decide +kernel), rfl⟩⟩
theorem mokC_7 : ai_mokP (yX0_isWithin, cX0_isWithin, 3, some .boolean, 0, false, 2) := ⟨List.mem_of_getElem? (i := 521) (by decide +kernel), List.mem_of_getElem? (i := 74) (by decide +kernel), by decide +kernel, by decide +kernel, by decide +kernel, by decide, by decide +kernel, ⟨List.mem_of_getElem? (i := 519) (by decide +kernel), List.mem_of_getElem? (i := 520) (by decide +kernel), rfl⟩⟩
theorem mokC_8 : ai_mokP (yX0_hasPlace, cX0_hasPlace, 3, some .boolean, 0, false, 2) := ⟨List.mem_of_getElem? (i := 354) (by decide +kernel), List.mem_of_getElem? (i := 74) (by decide +kernel), by decide +kernel, by decide +kernel, by decide +kernel, by decide, by decide +kernel, ⟨List.mem_of_getElem? (i := 353) (by decide +kernel), List.mem_of_getElem? (i := 1) (by decide +kernel), rfl⟩⟩
theorem mokC_9 : ai_mokP (yX0_variableAt, cX0_variableAt, 3, some .int, 0, false, 2) := ⟨List.mem_of_getElem? (i := 350) (by decide +kernel), List.mem_of_getElem? (i := 74) (by decide +kernel), by decide +kernel, by decide +kernel, by decide +kernel, by decide, by decide +kernel, ⟨List.mem_of_getElem? (i := 348) (by decide +kernel), List.mem_of_getElem? (i := 349) (by decide +kernel), rfl⟩⟩
theorem mokC_10 : ai_mokP (yX0_boundsOf, cX0_boundsOf, 3, some .int, 0, false, 2) := ⟨List.mem_of_getElem? (i := 426) (by decide +kernel), List.mem_of_getElem? (i := 74) (by decide +kernel), by decide +kernel, by decide +kernel, by decide +kernel, by decide, by decide +kernel, ⟨List.mem_of_getElem? (i := 424) (by decide +kernel), List.mem_of_getElem? (i := 425) (by decide +kernel), rfl⟩⟩
theorem mokC_11 : ai_mokP (yX0_boundAt, cX0_boundAt, 5, some .int, 0, false, 3) := ⟨List.mem_of_getElem? (i := 405) (by decide +kernel), List.mem_of_getElem? (i := 74) (by decide +kernel), by decide +kernel, by decide +kernel, by decide +kernel, by decide, by decide +kernel, ⟨List.mem_of_getElem? (i := 403) (by decide +kernel), List.mem_of_getElem? (i := 404) (by decide +kernel), rfl⟩⟩
theorem mokC_12 : ai_mokP (yX0_allBoundsOf, cX0_allBoundsOf, 4, some .int, 0, false, 1) := ⟨List.mem_of_getElem? (i := 781) (by decide +kernel), List.mem_of_getElem? (i := 74) (by decide +kernel), by decide +kernel, by decide +kernel, by decide +kernel, by decide, by decide +kernel, ⟨List.mem_of_getElem? (i := 779) (by decide +kernel), List.mem_of_getElem? (i := 780) (by decide +kernel), rfl⟩⟩
theorem mokC_13 : ai_mokP (yX0_addBound, cX0_addBound, 6, some .int, 0, false, 3) := ⟨List.mem_of_getElem? (i := 422) (by decide +kernel), List.mem_of_getElem? (i := 74) (by decide +kernel), by decide +kernel, by decide +kernel, by decide +kernel, by decide, by decide +kernel, ⟨List.mem_of_getElem? (i := 420) (by decide +kernel), List.mem_of_getElem? (i := 421) (by decide +kernel), rfl⟩⟩
theorem mokC_14 : ai_mokP (yX0_parentsOf, cX0_parentsOf, 2, some .int, 0, false, 1) := ⟨List.mem_of_getElem? (i := 438) (by decide +kernel), List.mem_of_getElem? (i := 74) (by decide +kernel), by decide +kernel, by decide +kernel, by decide +kernel, by decide, by decide +kernel, ⟨List.mem_of_getElem? (i := 436) (by decide +kernel), List.mem_of_getElem? (i := 437) (by decide +kernel), rfl⟩⟩
theorem mokC_15 : ai_mokP (yX0_addParent, cX0_addParent, 5, some .int, 0, false, 3) := ⟨List.mem_of_getElem? (i := 443) (by decide +kernel), List.mem_of_getElem? (i := 74) (by decide +kernel), by decide +kernel, by decide +kernel, by decide +kernel, by decide, by decide +kernel, ⟨List.mem_of_getElem? (i := 441) (by decide +kernel), List.mem_of_getElem? (i := 442) (by decide +kernel), rfl⟩⟩
theorem mokC_16 : ai_mokP (yX0_findAncestors, cX0_findAncestors, 3, none, 0, false, 0) := ⟨List.mem_of_getElem? (i := 448) (by decide +kernel), List.mem_of_getElem? (i := 74) (by decide +kernel), by decide +kernel, by decide +kernel, by decide +kernel, by decide, by decide +kernel, ⟨List.mem_of_getElem? (i := 447) (by decide +kernel), List.mem_of_getElem? (i := 4) (by decide +kernel), rfl⟩⟩
theorem mokC_17 : ai_mokP (yX0_parentToward, cX0_parentToward, 5, some .int, 0, false, 2) := ⟨List.mem_of_getElem? (i := 575) (by decide +kernel), List.mem_of_getElem? (i := 74) (by decide +kernel), by decide +kernel, by decide +kernel, by decide +kernel, by decide, by decide +kernel, ⟨List.mem_of_getElem? (i := 573) (by decide +kernel), List.mem_of_getElem? (i := 574) (by decide +kernel), rfl⟩⟩
theorem mokC_18 : ai_mokP (yX1_erase, cX1_erase, 6, some .int, 1, false, 1) := ⟨List.mem_of_getElem? (i := 509) (by decide +kernel), List.mem_of_getElem? (i := 76) (by decide +kernel), by decide +kernel, by decide +kernel, by decide +kernel, by decide, by decide +kernel, ⟨List.mem_of_getElem? (i := 507) (by decide +kernel), List.mem_of_getElem? (i := 508) (by decide +kernel), rfl⟩⟩
theorem mokC_19 : ai_mokP (yX1_putIn, cX1_putIn, 8, some .int, 1, false, 3) := ⟨List.mem_of_getElem? (i := 504) (by decide +kernel), List.mem_of_getElem? (i := 76) (by decide +kernel), by decide +kernel, by decide +kernel, by decide +kernel, by decide, by decide +kernel, ⟨List.mem_of_getElem? (i := 503) (by decide +kernel), List.mem_of_getElem? (i := 6) (by decide +kernel), rfl⟩⟩
theorem mokC_20 : ai_mokP (yX1_putInArgument, cX1_putInArgument, 6, some .int, 1, false, 3) := ⟨List.mem_of_getElem? (i := 536) (by decide +kernel), List.mem_of_getElem? (i := 76) (by decide +kernel), by decide +kernel, by decide +kernel, by decide +kernel, by decide, by decide +kernel, ⟨List.mem_of_getElem? (i := 535) (by decide +kernel), List.mem_of_getElem? (i := 8) (by decide +kernel), rfl⟩⟩
theorem mokC_21 : ai_mokP (yX1_tellerOf, cX1_tellerOf, 5, some .int, 1, false, 2) := ⟨List.mem_of_getElem? (i := 527) (by decide +kernel), List.mem_of_getElem? (i := 76) (by decide +kernel), by decide +kernel, by decide +kernel, by decide +kernel, by decide, by decide +kernel, ⟨List.mem_of_getElem? (i := 526) (by decide +kernel), List.mem_of_getElem? (i := 7) (by decide +kernel), rfl⟩⟩
theorem mokC_22 : ai_mokP (yX1_told, cX1_told, 3, some .int, 1, true, 2) := ⟨List.mem_of_getElem? (i := 540) (by decide +kernel), List.mem_of_getElem? (i := 76) (by decide +kernel), by decide +kernel, by decide +kernel, by decide +kernel, by decide, by decide +kernel, List.mem_of_getElem? (i := 539) (by decide +kernel)⟩
theorem mokC_23 : ai_mokP (yX1_superOf, cX1_superOf, 6, some .int, 1, false, 2) := ⟨List.mem_of_getElem? (i := 571) (by decide +kernel), List.mem_of_getElem? (i := 76) (by decide +kernel), by decide +kernel, by decide +kernel, by decide +kernel, by decide, by decide +kernel, ⟨List.mem_of_getElem? (i := 569) (by decide +kernel), List.mem_of_getElem? (i := 570) (by decide +kernel), rfl⟩⟩
theorem mokC_24 : ai_mokP (yX1_isWhole, cX1_isWhole, 5, some .boolean, 1, false, 1) := ⟨List.mem_of_getElem? (i := 653) (by decide +kernel), List.mem_of_getElem? (i := 76) (by decide +kernel), by decide +kernel, by decide +kernel, by decide +kernel, by decide, by decide +kernel, ⟨List.mem_of_getElem? (i := 651) (by decide +kernel), List.mem_of_getElem? (i := 652) (by decide +kernel), rfl⟩⟩
theorem mokC_25 : ai_mokP (yX2_ask, cX2_ask, 6, some .int, 2, false, 3) := ⟨List.mem_of_getElem? (i := 544) (by decide +kernel), List.mem_of_getElem? (i := 77) (by decide +kernel), by decide +kernel, by decide +kernel, by decide +kernel, by decide, by decide +kernel, ⟨List.mem_of_getElem? (i := 543) (by decide +kernel), List.mem_of_getElem? (i := 9) (by decide +kernel), rfl⟩⟩
theorem mokC_26 : ai_mokP (yX2_isNarrower, cX2_isNarrower, 2, some .boolean, 2, true, 2) := ⟨List.mem_of_getElem? (i := 548) (by decide +kernel), List.mem_of_getElem? (i := 77) (by decide +kernel), by decide +kernel, by decide +kernel, by decide +kernel, by decide, by decide +kernel, List.mem_of_getElem? (i := 547) (by decide +kernel)⟩
theorem mokC_27 : ai_mokP (yX2_askBounds, cX2_askBounds, 8, some .int, 2, false, 3) := ⟨List.mem_of_getElem? (i := 552) (by decide +kernel), List.mem_of_getElem? (i := 77) (by decide +kernel), by decide +kernel, by decide +kernel, by decide +kernel, by decide, by decide +kernel, ⟨List.mem_of_getElem? (i := 551) (by decide +kernel), List.mem_of_getElem? (i := 10) (by decide +kernel), rfl⟩⟩
theorem mokC_28 : ai_mokP (yX2_askElements, cX2_askElements, 5, some .int, 2, false, 3) := ⟨List.mem_of_getElem? (i := 562) (by decide +kernel), List.mem_of_getElem? (i := 77) (by decide +kernel), by decide +kernel, by decide +kernel, by decide +kernel, by decide, by decide +kernel, ⟨List.mem_of_getElem? (i := 561) (by decide +kernel), List.mem_of_getElem? (i := 11) (by decide +kernel), rfl⟩⟩
theorem mokC_29 : ai_mokP (yX2_askClasses, cX2_askClasses, 7, some .int, 2, false, 3) := ⟨List.mem_of_getElem? (i := 566) (by decide +kernel), List.mem_of_getElem? (i := 77) (by decide +kernel), by decide +kernel, by decide +kernel, by decide +kernel, by decide, by decide +kernel, ⟨List.mem_of_getElem? (i := 565) (by decide +kernel), List.mem_of_getElem? (i := 12) (by decide +kernel), rfl⟩⟩
theorem mokC_30 : ai_mokP (yX2_askSame, cX2_askSame, 7, some .int, 2, false, 3) := ⟨List.mem_of_getElem? (i := 579) (by decide +kernel), List.mem_of_getElem? (i := 77) (by decide +kernel), by decide +kernel, by decide +kernel, by decide +kernel, by decide, by decide +kernel, ⟨List.mem_of_getElem? (i := 578) (by decide +kernel), List.mem_of_getElem? (i := 13) (by decide +kernel), rfl⟩⟩
theorem mokC_31 : ai_mokP (yX2_askIn, cX2_askIn, 5, some .int, 2, false, 3) := ⟨List.mem_of_getElem? (i := 587) (by decide +kernel), List.mem_of_getElem? (i := 77) (by decide +kernel), by decide +kernel, by decide +kernel, by decide +kernel, by decide, by decide +kernel, ⟨List.mem_of_getElem? (i := 586) (by decide +kernel), List.mem_of_getElem? (i := 14) (by decide +kernel), rfl⟩⟩
theorem mokC_32 : ai_mokP (yX3_length, cX3_length, 1, some .int, 3, false, 0) := ⟨List.mem_of_getElem? (i := 777) (by decide +kernel), List.mem_of_getElem? (i := 80) (by decide +kernel), by decide +kernel, by decide +kernel, by decide +kernel, by decide, by decide +kernel, ⟨List.mem_of_getElem? (i := 775) (by decide +kernel), List.mem_of_getElem? (i := 776) (by decide +kernel), rfl⟩⟩
theorem mokC_33 : ai_mokP (yX3_byteAt, cX3_byteAt, 2, some .int, 3, false, 1) := ⟨List.mem_of_getElem? (i := 761) (by decide +kernel), List.mem_of_getElem? (i := 80) (by decide +kernel), by decide +kernel, by decide +kernel, by decide +kernel, by decide, by decide +kernel, ⟨List.mem_of_getElem? (i := 759) (by decide +kernel), List.mem_of_getElem? (i := 760) (by decide +kernel), rfl⟩⟩
theorem mokC_34 : ai_mokP (yX3_put, cX3_put, 2, some .int, 3, false, 1) := ⟨List.mem_of_getElem? (i := 729) (by decide +kernel), List.mem_of_getElem? (i := 80) (by decide +kernel), by decide +kernel, by decide +kernel, by decide +kernel, by decide, by decide +kernel, ⟨List.mem_of_getElem? (i := 727) (by decide +kernel), List.mem_of_getElem? (i := 728) (by decide +kernel), rfl⟩⟩
theorem mokC_35 : ai_mokP (yX3_write, cX3_write, 2, none, 3, false, 1) := ⟨List.mem_of_getElem? (i := 738) (by decide +kernel), List.mem_of_getElem? (i := 80) (by decide +kernel), by decide +kernel, by decide +kernel, by decide +kernel, by decide, by decide +kernel, ⟨List.mem_of_getElem? (i := 737) (by decide +kernel), List.mem_of_getElem? (i := 25) (by decide +kernel), rfl⟩⟩
theorem mokC_36 : ai_mokP (yX3_writeType, cX3_writeType, 4, none, 3, false, 2) := ⟨List.mem_of_getElem? (i := 733) (by decide +kernel), List.mem_of_getElem? (i := 80) (by decide +kernel), by decide +kernel, by decide +kernel, by decide +kernel, by decide, by decide +kernel, ⟨List.mem_of_getElem? (i := 732) (by decide +kernel), List.mem_of_getElem? (i := 24) (by decide +kernel), rfl⟩⟩
theorem mokC_37 : ai_mokP (yX3_writeArguments, cX3_writeArguments, 7, none, 3, false, 2) := ⟨List.mem_of_getElem? (i := 746) (by decide +kernel), List.mem_of_getElem? (i := 80) (by decide +kernel), by decide +kernel, by decide +kernel, by decide +kernel, by decide, by decide +kernel, ⟨List.mem_of_getElem? (i := 745) (by decide +kernel), List.mem_of_getElem? (i := 26) (by decide +kernel), rfl⟩⟩
theorem mokC_38 : ai_mokP (yX4_length, cX4_length, 1, some .int, 4, false, 0) := ⟨List.mem_of_getElem? (i := 773) (by decide +kernel), List.mem_of_getElem? (i := 79) (by decide +kernel), by decide +kernel, by decide +kernel, by decide +kernel, by decide, by decide +kernel, ⟨List.mem_of_getElem? (i := 771) (by decide +kernel), List.mem_of_getElem? (i := 772) (by decide +kernel), rfl⟩⟩
theorem mokC_39 : ai_mokP (yX4_take, cX4_take, 5, some .int, 4, false, 2) := ⟨List.mem_of_getElem? (i := 672) (by decide +kernel), List.mem_of_getElem? (i := 79) (by decide +kernel), by decide +kernel, by decide +kernel, by decide +kernel, by decide, by decide +kernel, ⟨List.mem_of_getElem? (i := 670) (by decide +kernel), List.mem_of_getElem? (i := 671) (by decide +kernel), rfl⟩⟩
theorem mokC_40 : ai_mokP (yX4_start, cX4_start, 1, none, 4, false, 0) := ⟨List.mem_of_getElem? (i := 681) (by decide +kernel), List.mem_of_getElem? (i := 79) (by decide +kernel), by decide +kernel, by decide +kernel, by decide +kernel, by decide, by decide +kernel, ⟨List.mem_of_getElem? (i := 679) (by decide +kernel), List.mem_of_getElem? (i := 680) (by decide +kernel), rfl⟩⟩
theorem mokC_41 : ai_mokP (yX4_finish, cX4_finish, 1, some .int, 4, false, 0) := ⟨List.mem_of_getElem? (i := 721) (by decide +kernel), List.mem_of_getElem? (i := 79) (by decide +kernel), by decide +kernel, by decide +kernel, by decide +kernel, by decide, by decide +kernel, ⟨List.mem_of_getElem? (i := 719) (by decide +kernel), List.mem_of_getElem? (i := 720) (by decide +kernel), rfl⟩⟩
theorem mokC_42 : ai_mokP (yX4_next, cX4_next, 1, some .int, 4, false, 0) := ⟨List.mem_of_getElem? (i := 693) (by decide +kernel), List.mem_of_getElem? (i := 79) (by decide +kernel), by decide +kernel, by decide +kernel, by decide +kernel, by decide, by decide +kernel, ⟨List.mem_of_getElem? (i := 692) (by decide +kernel), List.mem_of_getElem? (i := 19) (by decide +kernel), rfl⟩⟩
theorem mokC_43 : ai_mokP (yX4_faultAt, cX4_faultAt, 2, some .int, 4, false, 1) := ⟨List.mem_of_getElem? (i := 702) (by decide +kernel), List.mem_of_getElem? (i := 79) (by decide +kernel), by decide +kernel, by decide +kernel, by decide +kernel, by decide, by decide +kernel, ⟨List.mem_of_getElem? (i := 701) (by decide +kernel), List.mem_of_getElem? (i := 21) (by decide +kernel), rfl⟩⟩
theorem mokC_44 : ai_mokP (yX4_typeText, cX4_typeText, 4, some .int, 4, false, 1) := ⟨List.mem_of_getElem? (i := 685) (by decide +kernel), List.mem_of_getElem? (i := 79) (by decide +kernel), by decide +kernel, by decide +kernel, by decide +kernel, by decide, by decide +kernel, ⟨List.mem_of_getElem? (i := 684) (by decide +kernel), List.mem_of_getElem? (i := 17) (by decide +kernel), rfl⟩⟩
theorem mokC_45 : ai_mokP (yX4_baseText, cX4_baseText, 5, some .int, 4, false, 1) := ⟨List.mem_of_getElem? (i := 689) (by decide +kernel), List.mem_of_getElem? (i := 79) (by decide +kernel), by decide +kernel, by decide +kernel, by decide +kernel, by decide, by decide +kernel, ⟨List.mem_of_getElem? (i := 688) (by decide +kernel), List.mem_of_getElem? (i := 18) (by decide +kernel), rfl⟩⟩
theorem mokC_46 : ai_mokP (yX4_variableText, cX4_variableText, 3, some .int, 4, false, 1) := ⟨List.mem_of_getElem? (i := 697) (by decide +kernel), List.mem_of_getElem? (i := 79) (by decide +kernel), by decide +kernel, by decide +kernel, by decide +kernel, by decide, by decide +kernel, ⟨List.mem_of_getElem? (i := 696) (by decide +kernel), List.mem_of_getElem? (i := 20) (by decide +kernel), rfl⟩⟩
theorem mokC_47 : ai_mokP (yX4_partText, cX4_partText, 8, some .int, 4, false, 2) := ⟨List.mem_of_getElem? (i := 707) (by decide +kernel), List.mem_of_getElem? (i := 79) (by decide +kernel), by decide +kernel, by decide +kernel, by decide +kernel, by decide, by decide +kernel, ⟨List.mem_of_getElem? (i := 706) (by decide +kernel), List.mem_of_getElem? (i := 22) (by decide +kernel), rfl⟩⟩
theorem mokC_48 : ai_mokP (yX4_argumentText, cX4_argumentText, 6, some .int, 4, false, 1) := ⟨List.mem_of_getElem? (i := 711) (by decide +kernel), List.mem_of_getElem? (i := 79) (by decide +kernel), by decide +kernel, by decide +kernel, by decide +kernel, by decide, by decide +kernel, ⟨List.mem_of_getElem? (i := 710) (by decide +kernel), List.mem_of_getElem? (i := 23) (by decide +kernel), rfl⟩⟩
theorem mokC_49 : ai_mokP (yX5_ofBound, cX5_ofBound, 6, some .int, 5, false, 3) := ⟨List.mem_of_getElem? (i := 366) (by decide +kernel), List.mem_of_getElem? (i := 78) (by decide +kernel), by decide +kernel, by decide +kernel, by decide +kernel, by decide, by decide +kernel, ⟨List.mem_of_getElem? (i := 364) (by decide +kernel), List.mem_of_getElem? (i := 365) (by decide +kernel), rfl⟩⟩
theorem mokC_50 : ai_mokP (yX5_ofParent, cX5_ofParent, 4, some .int, 5, false, 2) := ⟨List.mem_of_getElem? (i := 434) (by decide +kernel), List.mem_of_getElem? (i := 78) (by decide +kernel), by decide +kernel, by decide +kernel, by decide +kernel, by decide, by decide +kernel, ⟨List.mem_of_getElem? (i := 432) (by decide +kernel), List.mem_of_getElem? (i := 433) (by decide +kernel), rfl⟩⟩
theorem mokC_51 : ai_mokP (yX5_isAsTold, cX5_isAsTold, 7, some .boolean, 5, false, 2) := ⟨List.mem_of_getElem? (i := 378) (by decide +kernel), List.mem_of_getElem? (i := 78) (by decide +kernel), by decide +kernel, by decide +kernel, by decide +kernel, by decide, by decide +kernel, ⟨List.mem_of_getElem? (i := 377) (by decide +kernel), List.mem_of_getElem? (i := 2) (by decide +kernel), rfl⟩⟩
theorem mokC_52 : ai_mokP (yX5_comesTo, cX5_comesTo, 5, some .boolean, 5, false, 2) := ⟨List.mem_of_getElem? (i := 414) (by decide +kernel), List.mem_of_getElem? (i := 78) (by decide +kernel), by decide +kernel, by decide +kernel, by decide +kernel, by decide, by decide +kernel, ⟨List.mem_of_getElem? (i := 413) (by decide +kernel), List.mem_of_getElem? (i := 3) (by decide +kernel), rfl⟩⟩
theorem mokC_53 : ai_mokP (yX5_ofMade, cX5_ofMade, 13, some .int, 5, false, 5) := ⟨List.mem_of_getElem? (i := 472) (by decide +kernel), List.mem_of_getElem? (i := 78) (by decide +kernel), by decide +kernel, by decide +kernel, by decide +kernel, by decide, by decide +kernel, ⟨List.mem_of_getElem? (i := 470) (by decide +kernel), List.mem_of_getElem? (i := 471) (by decide +kernel), rfl⟩⟩
theorem mokC_54 : ai_mokP (yX5_ofMadeShape, cX5_ofMadeShape, 9, some .int, 5, false, 5) := ⟨List.mem_of_getElem? (i := 476) (by decide +kernel), List.mem_of_getElem? (i := 78) (by decide +kernel), by decide +kernel, by decide +kernel, by decide +kernel, by decide, by decide +kernel, ⟨List.mem_of_getElem? (i := 475) (by decide +kernel), List.mem_of_getElem? (i := 5) (by decide +kernel), rfl⟩⟩
theorem mokC_55 : ai_mokP (yX6_setPlain, cX6_setPlain, 6, none, 6, false, 4) := ⟨List.mem_of_getElem? (i := 146) (by decide +kernel), List.mem_of_getElem? (i := 75) (by decide +kernel), by decide +kernel, by decide +kernel, by decide +kernel, by decide, by decide +kernel, ⟨List.mem_of_getElem? (i := 145) (by decide +kernel), List.mem_of_getElem? (i := 0) (by decide +kernel), rfl⟩⟩
theorem mokC_56 : ai_mokP (yX6_number, cX6_number, 1, some .int, 6, false, 0) := ⟨List.mem_of_getElem? (i := 769) (by decide +kernel), List.mem_of_getElem? (i := 75) (by decide +kernel), by decide +kernel, by decide +kernel, by decide +kernel, by decide, by decide +kernel, ⟨List.mem_of_getElem? (i := 767) (by decide +kernel), List.mem_of_getElem? (i := 768) (by decide +kernel), rfl⟩⟩
theorem mokC_57 : ai_mokP (yX6_isNode, cX6_isNode, 2, some .boolean, 6, false, 1) := ⟨List.mem_of_getElem? (i := 362) (by decide +kernel), List.mem_of_getElem? (i := 75) (by decide +kernel), by decide +kernel, by decide +kernel, by decide +kernel, by decide, by decide +kernel, ⟨List.mem_of_getElem? (i := 360) (by decide +kernel), List.mem_of_getElem? (i := 361) (by decide +kernel), rfl⟩⟩
theorem mokC_58 : ai_mokP (yX6_hasRoomFor, cX6_hasRoomFor, 2, some .boolean, 6, false, 1) := ⟨List.mem_of_getElem? (i := 329) (by decide +kernel), List.mem_of_getElem? (i := 75) (by decide +kernel), by decide +kernel, by decide +kernel, by decide +kernel, by decide, by decide +kernel, ⟨List.mem_of_getElem? (i := 327) (by decide +kernel), List.mem_of_getElem? (i := 328) (by decide +kernel), rfl⟩⟩
theorem mokC_59 : ai_mokP (yX6_addVariables, cX6_addVariables, 5, some .int, 6, false, 2) := ⟨List.mem_of_getElem? (i := 337) (by decide +kernel), List.mem_of_getElem? (i := 75) (by decide +kernel), by decide +kernel, by decide +kernel, by decide +kernel, by decide, by decide +kernel, ⟨List.mem_of_getElem? (i := 335) (by decide +kernel), List.mem_of_getElem? (i := 336) (by decide +kernel), rfl⟩⟩
theorem mokC_60 : ai_mokP (yX6_formOf, cX6_formOf, 2, some .int, 6, false, 1) := ⟨List.mem_of_getElem? (i := 370) (by decide +kernel), List.mem_of_getElem? (i := 75) (by decide +kernel), by decide +kernel, by decide +kernel, by decide +kernel, by decide, by decide +kernel, ⟨List.mem_of_getElem? (i := 368) (by decide +kernel), List.mem_of_getElem? (i := 369) (by decide +kernel), rfl⟩⟩
theorem mokC_61 : ai_mokP (yX6_ownerOf, cX6_ownerOf, 2, some .int, 6, false, 1) := ⟨List.mem_of_getElem? (i := 374) (by decide +kernel), List.mem_of_getElem? (i := 75) (by decide +kernel), by decide +kernel, by decide +kernel, by decide +kernel, by decide, by decide +kernel, ⟨List.mem_of_getElem? (i := 372) (by decide +kernel), List.mem_of_getElem? (i := 373) (by decide +kernel), rfl⟩⟩
theorem mokC_62 : ai_mokP (yX6_placeOf, cX6_placeOf, 2, some .int, 6, false, 1) := ⟨List.mem_of_getElem? (i := 418) (by decide +kernel), List.mem_of_getElem? (i := 75) (by decide +kernel), by decide +kernel, by decide +kernel, by decide +kernel, by decide, by decide +kernel, ⟨List.mem_of_getElem? (i := 416) (by decide +kernel), List.mem_of_getElem? (i := 417) (by decide +kernel), rfl⟩⟩
theorem mokC_63 : ai_mokP (yX6_elementOf, cX6_elementOf, 2, some .int, 6, false, 1) := ⟨List.mem_of_getElem? (i := 514) (by decide +kernel), List.mem_of_getElem? (i := 75) (by decide +kernel), by decide +kernel, by decide +kernel, by decide +kernel, by decide, by decide +kernel, ⟨List.mem_of_getElem? (i := 512) (by decide +kernel), List.mem_of_getElem? (i := 513) (by decide +kernel), rfl⟩⟩
theorem mokC_64 : ai_mokP (yX6_outerOf, cX6_outerOf, 2, some .int, 6, false, 1) := ⟨List.mem_of_getElem? (i := 382) (by decide +kernel), List.mem_of_getElem? (i := 75) (by decide +kernel), by decide +kernel, by decide +kernel, by decide +kernel, by decide, by decide +kernel, ⟨List.mem_of_getElem? (i := 380) (by decide +kernel), List.mem_of_getElem? (i := 381) (by decide +kernel), rfl⟩⟩
theorem mokC_65 : ai_mokP (yX6_argumentAt, cX6_argumentAt, 4, some .int, 6, false, 2) := ⟨List.mem_of_getElem? (i := 394) (by decide +kernel), List.mem_of_getElem? (i := 75) (by decide +kernel), by decide +kernel, by decide +kernel, by decide +kernel, by decide, by decide +kernel, ⟨List.mem_of_getElem? (i := 392) (by decide +kernel), List.mem_of_getElem? (i := 393) (by decide +kernel), rfl⟩⟩
theorem mokC_66 : ai_mokP (yX6_argumentsOf, cX6_argumentsOf, 4, some .int, 6, false, 1) := ⟨List.mem_of_getElem? (i := 390) (by decide +kernel), List.mem_of_getElem? (i := 75) (by decide +kernel), by decide +kernel, by decide +kernel, by decide +kernel, by decide, by decide +kernel, ⟨List.mem_of_getElem? (i := 388) (by decide +kernel), List.mem_of_getElem? (i := 389) (by decide +kernel), rfl⟩⟩
theorem mokC_67 : ai_mokP (yX6_isRaw, cX6_isRaw, 2, some .boolean, 6, false, 1) := ⟨List.mem_of_getElem? (i := 488) (by decide +kernel), List.mem_of_getElem? (i := 75) (by decide +kernel), by decide +kernel, by decide +kernel, by decide +kernel, by decide, by decide +kernel, ⟨List.mem_of_getElem? (i := 486) (by decide +kernel), List.mem_of_getElem? (i := 487) (by decide +kernel), rfl⟩⟩
theorem mokC_68 : ai_mokP (yX6_isOpen, cX6_isOpen, 2, some .boolean, 6, false, 1) := ⟨List.mem_of_getElem? (i := 386) (by decide +kernel), List.mem_of_getElem? (i := 75) (by decide +kernel), by decide +kernel, by decide +kernel, by decide +kernel, by decide, by decide +kernel, ⟨List.mem_of_getElem? (i := 384) (by decide +kernel), List.mem_of_getElem? (i := 385) (by decide +kernel), rfl⟩⟩
theorem mokC_69 : ai_mokP (yX6_canBeArgument, cX6_canBeArgument, 2, some .boolean, 6, false, 1) := ⟨List.mem_of_getElem? (i := 456) (by decide +kernel), List.mem_of_getElem? (i := 75) (by decide +kernel), by decide +kernel, by decide +kernel, by decide +kernel, by decide, by decide +kernel, ⟨List.mem_of_getElem? (i := 454) (by decide +kernel), List.mem_of_getElem? (i := 455) (by decide +kernel), rfl⟩⟩
theorem mokC_70 : ai_mokP (yX6_canBeElement, cX6_canBeElement, 2, some .boolean, 6, false, 1) := ⟨List.mem_of_getElem? (i := 622) (by decide +kernel), List.mem_of_getElem? (i := 75) (by decide +kernel), by decide +kernel, by decide +kernel, by decide +kernel, by decide, by decide +kernel, ⟨List.mem_of_getElem? (i := 620) (by decide +kernel), List.mem_of_getElem? (i := 621) (by decide +kernel), rfl⟩⟩
theorem mokC_71 : ai_mokP (yX6_mark, cX6_mark, 1, some .int, 6, false, 0) := ⟨List.mem_of_getElem? (i := 492) (by decide +kernel), List.mem_of_getElem? (i := 75) (by decide +kernel), by decide +kernel, by decide +kernel, by decide +kernel, by decide, by decide +kernel, ⟨List.mem_of_getElem? (i := 490) (by decide +kernel), List.mem_of_getElem? (i := 491) (by decide +kernel), rfl⟩⟩
theorem mokC_72 : ai_mokP (yX6_release, cX6_release, 2, none, 6, false, 1) := ⟨List.mem_of_getElem? (i := 596) (by decide +kernel), List.mem_of_getElem? (i := 75) (by decide +kernel), by decide +kernel, by decide +kernel, by decide +kernel, by decide, by decide +kernel, ⟨List.mem_of_getElem? (i := 594) (by decide +kernel), List.mem_of_getElem? (i := 595) (by decide +kernel), rfl⟩⟩
theorem mokC_73 : ai_mokP (yX6_forget, cX6_forget, 1, none, 6, false, 0) := ⟨List.mem_of_getElem? (i := 468) (by decide +kernel), List.mem_of_getElem? (i := 75) (by decide +kernel), by decide +kernel, by decide +kernel, by decide +kernel, by decide, by decide +kernel, ⟨List.mem_of_getElem? (i := 466) (by decide +kernel), List.mem_of_getElem? (i := 467) (by decide +kernel), rfl⟩⟩
theorem mokC_74 : ai_mokP (yX6_shaped, cX6_shaped, 13, some .int, 6, false, 6) := ⟨List.mem_of_getElem? (i := 496) (by decide +kernel), List.mem_of_getElem? (i := 75) (by decide +kernel), by decide +kernel, by decide +kernel, by decide +kernel, by decide, by decide +kernel, ⟨List.mem_of_getElem? (i := 494) (by decide +kernel), List.mem_of_getElem? (i := 495) (by decide +kernel), rfl⟩⟩
theorem mokC_75 : ai_mokP (yX6_answer, cX6_answer, 4, some .int, 6, false, 1) := ⟨List.mem_of_getElem? (i := 602) (by decide +kernel), List.mem_of_getElem? (i := 75) (by decide +kernel), by decide +kernel, by decide +kernel, by decide +kernel, by decide, by decide +kernel, ⟨List.mem_of_getElem? (i := 600) (by decide +kernel), List.mem_of_getElem? (i := 601) (by decide +kernel), rfl⟩⟩
theorem mokC_76 : ai_mokP (yX6_keep, cX6_keep, 7, some .int, 6, false, 2) := ⟨List.mem_of_getElem? (i := 606) (by decide +kernel), List.mem_of_getElem? (i := 75) (by decide +kernel), by decide +kernel, by decide +kernel, by decide +kernel, by decide, by decide +kernel, ⟨List.mem_of_getElem? (i := 605) (by decide +kernel), List.mem_of_getElem? (i := 15) (by decide +kernel), rfl⟩⟩
theorem mokC_77 : ai_mokP (yX6_keepArgument, cX6_keepArgument, 4, some .int, 6, false, 2) := ⟨List.mem_of_getElem? (i := 610) (by decide +kernel), List.mem_of_getElem? (i := 75) (by decide +kernel), by decide +kernel, by decide +kernel, by decide +kernel, by decide, by decide +kernel, ⟨List.mem_of_getElem? (i := 609) (by decide +kernel), List.mem_of_getElem? (i := 16) (by decide +kernel), rfl⟩⟩
theorem mokC_78 : ai_mokP (yX7_declare, cX7_declare, 5, some .int, 7, false, 3) := ⟨List.mem_of_getElem? (i := 317) (by decide +kernel), List.mem_of_getElem? (i := 73) (by decide +kernel), by decide +kernel, by decide +kernel, by decide +kernel, by decide, by decide +kernel, ⟨List.mem_of_getElem? (i := 315) (by decide +kernel), List.mem_of_getElem? (i := 316) (by decide +kernel), rfl⟩⟩
theorem mokC_79 : ai_mokP (yX7_variable, cX7_variable, 4, some .int, 7, false, 2) := ⟨List.mem_of_getElem? (i := 346) (by decide +kernel), List.mem_of_getElem? (i := 73) (by decide +kernel), by decide +kernel, by decide +kernel, by decide +kernel, by decide, by decide +kernel, ⟨List.mem_of_getElem? (i := 344) (by decide +kernel), List.mem_of_getElem? (i := 345) (by decide +kernel), rfl⟩⟩
theorem mokC_80 : ai_mokP (yX7_bound, cX7_bound, 5, some .int, 7, false, 3) := ⟨List.mem_of_getElem? (i := 358) (by decide +kernel), List.mem_of_getElem? (i := 73) (by decide +kernel), by decide +kernel, by decide +kernel, by decide +kernel, by decide, by decide +kernel, ⟨List.mem_of_getElem? (i := 356) (by decide +kernel), List.mem_of_getElem? (i := 357) (by decide +kernel), rfl⟩⟩
theorem mokC_81 : ai_mokP (yX7_parent, cX7_parent, 4, some .int, 7, false, 2) := ⟨List.mem_of_getElem? (i := 430) (by decide +kernel), List.mem_of_getElem? (i := 73) (by decide +kernel), by decide +kernel, by decide +kernel, by decide +kernel, by decide, by decide +kernel, ⟨List.mem_of_getElem? (i := 428) (by decide +kernel), List.mem_of_getElem? (i := 429) (by decide +kernel), rfl⟩⟩
theorem mokC_82 : ai_mokP (yX7_argument, cX7_argument, 3, some .int, 7, false, 2) := ⟨List.mem_of_getElem? (i := 452) (by decide +kernel), List.mem_of_getElem? (i := 73) (by decide +kernel), by decide +kernel, by decide +kernel, by decide +kernel, by decide, by decide +kernel, ⟨List.mem_of_getElem? (i := 450) (by decide +kernel), List.mem_of_getElem? (i := 451) (by decide +kernel), rfl⟩⟩
theorem mokC_83 : ai_mokP (yX7_make, cX7_make, 7, some .int, 7, false, 2) := ⟨List.mem_of_getElem? (i := 464) (by decide +kernel), List.mem_of_getElem? (i := 73) (by decide +kernel), by decide +kernel, by decide +kernel, by decide +kernel, by decide, by decide +kernel, ⟨List.mem_of_getElem? (i := 462) (by decide +kernel), List.mem_of_getElem? (i := 463) (by decide +kernel), rfl⟩⟩
theorem mokC_84 : ai_mokP (yX7_array, cX7_array, 2, some .int, 7, false, 1) := ⟨List.mem_of_getElem? (i := 618) (by decide +kernel), List.mem_of_getElem? (i := 73) (by decide +kernel), by decide +kernel, by decide +kernel, by decide +kernel, by decide, by decide +kernel, ⟨List.mem_of_getElem? (i := 616) (by decide +kernel), List.mem_of_getElem? (i := 617) (by decide +kernel), rfl⟩⟩
theorem mokC_85 : ai_mokP (yX7_about, cX7_about, 3, some .int, 7, false, 2) := ⟨List.mem_of_getElem? (i := 626) (by decide +kernel), List.mem_of_getElem? (i := 73) (by decide +kernel), by decide +kernel, by decide +kernel, by decide +kernel, by decide, by decide +kernel, ⟨List.mem_of_getElem? (i := 624) (by decide +kernel), List.mem_of_getElem? (i := 625) (by decide +kernel), rfl⟩⟩
theorem mokC_86 : ai_mokP (yX7_below, cX7_below, 3, some .int, 7, false, 2) := ⟨List.mem_of_getElem? (i := 639) (by decide +kernel), List.mem_of_getElem? (i := 73) (by decide +kernel), by decide +kernel, by decide +kernel, by decide +kernel, by decide, by decide +kernel, ⟨List.mem_of_getElem? (i := 637) (by decide +kernel), List.mem_of_getElem? (i := 638) (by decide +kernel), rfl⟩⟩
theorem mokC_87 : ai_mokP (yX7_erased, cX7_erased, 2, some .int, 7, false, 1) := ⟨List.mem_of_getElem? (i := 644) (by decide +kernel), List.mem_of_getElem? (i := 73) (by decide +kernel), by decide +kernel, by decide +kernel, by decide +kernel, by decide, by decide +kernel, ⟨List.mem_of_getElem? (i := 642) (by decide +kernel), List.mem_of_getElem? (i := 643) (by decide +kernel), rfl⟩⟩
theorem mokC_88 : ai_mokP (yX7_whole, cX7_whole, 2, some .int, 7, false, 1) := ⟨List.mem_of_getElem? (i := 649) (by decide +kernel), List.mem_of_getElem? (i := 73) (by decide +kernel), by decide +kernel, by decide +kernel, by decide +kernel, by decide, by decide +kernel, ⟨List.mem_of_getElem? (i := 647) (by decide +kernel), List.mem_of_getElem? (i := 648) (by decide +kernel), rfl⟩⟩
theorem mokC_89 : ai_mokP (yX7_above, cX7_above, 4, some .int, 7, false, 2) := ⟨List.mem_of_getElem? (i := 658) (by decide +kernel), List.mem_of_getElem? (i := 73) (by decide +kernel), by decide +kernel, by decide +kernel, by decide +kernel, by decide, by decide +kernel, ⟨List.mem_of_getElem? (i := 656) (by decide +kernel), List.mem_of_getElem? (i := 657) (by decide +kernel), rfl⟩⟩
theorem mokC_90 : ai_mokP (yX7_member, cX7_member, 3, some .int, 7, false, 2) := ⟨List.mem_of_getElem? (i := 663) (by decide +kernel), List.mem_of_getElem? (i := 73) (by decide +kernel), by decide +kernel, by decide +kernel, by decide +kernel, by decide, by decide +kernel, ⟨List.mem_of_getElem? (i := 661) (by decide +kernel), List.mem_of_getElem? (i := 662) (by decide +kernel), rfl⟩⟩
theorem mokC_91 : ai_mokP (yX7_feed, cX7_feed, 4, some .int, 7, false, 2) := ⟨List.mem_of_getElem? (i := 668) (by decide +kernel), List.mem_of_getElem? (i := 73) (by decide +kernel), by decide +kernel, by decide +kernel, by decide +kernel, by decide, by decide +kernel, ⟨List.mem_of_getElem? (i := 666) (by decide +kernel), List.mem_of_getElem? (i := 667) (by decide +kernel), rfl⟩⟩
theorem mokC_92 : ai_mokP (yX7_read, cX7_read, 3, some .int, 7, false, 0) := ⟨List.mem_of_getElem? (i := 677) (by decide +kernel), List.mem_of_getElem? (i := 73) (by decide +kernel), by decide +kernel, by decide +kernel, by decide +kernel, by decide, by decide +kernel, ⟨List.mem_of_getElem? (i := 675) (by decide +kernel), List.mem_of_getElem? (i := 676) (by decide +kernel), rfl⟩⟩
theorem mokC_93 : ai_mokP (yX7_print, cX7_print, 2, some .int, 7, false, 1) := ⟨List.mem_of_getElem? (i := 725) (by decide +kernel), List.mem_of_getElem? (i := 73) (by decide +kernel), by decide +kernel, by decide +kernel, by decide +kernel, by decide, by decide +kernel, ⟨List.mem_of_getElem? (i := 723) (by decide +kernel), List.mem_of_getElem? (i := 724) (by decide +kernel), rfl⟩⟩
theorem mokC_94 : ai_mokP (yX7_out, cX7_out, 2, some .int, 7, false, 1) := ⟨List.mem_of_getElem? (i := 757) (by decide +kernel), List.mem_of_getElem? (i := 73) (by decide +kernel), by decide +kernel, by decide +kernel, by decide +kernel, by decide, by decide +kernel, ⟨List.mem_of_getElem? (i := 755) (by decide +kernel), List.mem_of_getElem? (i := 756) (by decide +kernel), rfl⟩⟩
theorem mokC_95 : ai_mokP (yX7_count, cX7_count, 2, some .int, 7, false, 1) := ⟨List.mem_of_getElem? (i := 765) (by decide +kernel), List.mem_of_getElem? (i := 73) (by decide +kernel), by decide +kernel, by decide +kernel, by decide +kernel, by decide, by decide +kernel, ⟨List.mem_of_getElem? (i := 763) (by decide +kernel), List.mem_of_getElem? (i := 764) (by decide +kernel), rfl⟩⟩
theorem mokC_96 : ai_mokP (yX7_argumentOf, cX7_argumentOf, 2, some .int, 7, true, 2) := ⟨List.mem_of_getElem? (i := 460) (by decide +kernel), List.mem_of_getElem? (i := 73) (by decide +kernel), by decide +kernel, by decide +kernel, by decide +kernel, by decide, by decide +kernel, List.mem_of_getElem? (i := 459) (by decide +kernel)⟩
theorem mokC_97 : ai_mokP (yX7_wildOf, cX7_wildOf, 1, some .int, 7, true, 1) := ⟨List.mem_of_getElem? (i := 401) (by decide +kernel), List.mem_of_getElem? (i := 73) (by decide +kernel), by decide +kernel, by decide +kernel, by decide +kernel, by decide, by decide +kernel, List.mem_of_getElem? (i := 400) (by decide +kernel)⟩
theorem mokC_98 : ai_mokP (yX7_typeOf, cX7_typeOf, 1, some .int, 7, true, 1) := ⟨List.mem_of_getElem? (i := 398) (by decide +kernel), List.mem_of_getElem? (i := 73) (by decide +kernel), by decide +kernel, by decide +kernel, by decide +kernel, by decide, by decide +kernel, List.mem_of_getElem? (i := 397) (by decide +kernel)⟩
set_option maxRecDepth 20000 in
theorem mokC_l : ∀ q ∈ mtCL, ai_mokP q := List.forall_mem_cons.mpr ⟨mokC_0, List.forall_mem_cons.mpr ⟨mokC_1, List.forall_mem_cons.mpr ⟨mokC_2, List.forall_mem_cons.mpr ⟨mokC_3, List.forall_mem_cons.mpr ⟨mokC_4, List.forall_mem_cons.mpr ⟨mokC_5, List.forall_mem_cons.mpr ⟨mokC_6, List.forall_mem_cons.mpr ⟨mokC_7, List.forall_mem_cons.mpr ⟨mokC_8, List.forall_mem_cons.mpr ⟨mokC_9, List.forall_mem_cons.mpr ⟨mokC_10, List.forall_mem_cons.mpr ⟨mokC_11, List.forall_mem_cons.mpr ⟨mokC_12, List.forall_mem_cons.mpr ⟨mokC_13, List.forall_mem_cons.mpr ⟨mokC_14, List.forall_mem_cons.mpr ⟨mokC_15, List.forall_mem_cons.mpr ⟨mokC_16, List.forall_mem_cons.mpr ⟨mokC_17, List.forall_mem_cons.mpr ⟨mokC_18, List.forall_mem_cons.mpr ⟨mokC_19, List.forall_mem_cons.mpr ⟨mokC_20, List.forall_mem_cons.mpr ⟨mokC_21, List.forall_mem_cons.mpr ⟨mokC_22, List.forall_mem_cons.mpr ⟨mokC_23, List.forall_mem_cons.mpr ⟨mokC_24, List.forall_mem_cons.mpr ⟨mokC_25, List.forall_mem_cons.mpr ⟨mokC_26, List.forall_mem_cons.mpr ⟨mokC_27, List.forall_mem_cons.mpr ⟨mokC_28, List.forall_mem_cons.mpr ⟨mokC_29, List.forall_mem_cons.mpr ⟨mokC_30, List.forall_mem_cons.mpr ⟨mokC_31, List.forall_mem_cons.mpr ⟨mokC_32, List.forall_mem_cons.mpr ⟨mokC_33, List.forall_mem_cons.mpr ⟨mokC_34, List.forall_mem_cons.mpr ⟨mokC_35, List.forall_mem_cons.mpr ⟨mokC_36, List.forall_mem_cons.mpr ⟨mokC_37, List.forall_mem_cons.mpr ⟨mokC_38, List.forall_mem_cons.mpr ⟨mokC_39, List.forall_mem_cons.mpr ⟨mokC_40, List.forall_mem_cons.mpr ⟨mokC_41, List.forall_mem_cons.mpr ⟨mokC_42, List.forall_mem_cons.mpr ⟨mokC_43, List.forall_mem_cons.mpr ⟨mokC_44, List.forall_mem_cons.mpr ⟨mokC_45, List.forall_mem_cons.mpr ⟨mokC_46, List.forall_mem_cons.mpr ⟨mokC_47, List.forall_mem_cons.mpr ⟨mokC_48, List.forall_mem_cons.mpr ⟨mokC_49, List.forall_mem_cons.mpr ⟨mokC_50, List.forall_mem_cons.mpr ⟨mokC_51, List.forall_mem_cons.mpr ⟨mokC_52, List.forall_mem_cons.mpr ⟨mokC_53, List.forall_mem_cons.mpr ⟨mokC_54, List.forall_mem_cons.mpr ⟨mokC_55, List.forall_mem_cons.mpr ⟨mokC_56, List.forall_mem_cons.mpr ⟨mokC_57, List.forall_mem_cons.mpr ⟨mokC_58, List.forall_mem_cons.mpr ⟨mokC_59, List.forall_mem_cons.mpr ⟨mokC_60, List.forall_mem_cons.mpr ⟨mokC_61, List.forall_mem_cons.mpr ⟨mokC_62, List.forall_mem_cons.mpr ⟨mokC_63, List.forall_mem_cons.mpr ⟨mokC_64, List.forall_mem_cons.mpr ⟨mokC_65, List.forall_mem_cons.mpr ⟨mokC_66, List.forall_mem_cons.mpr ⟨mokC_67, List.forall_mem_cons.mpr ⟨mokC_68, List.forall_mem_cons.mpr ⟨mokC_69, List.forall_mem_cons.mpr ⟨mokC_70, List.forall_mem_cons.mpr ⟨mokC_71, List.forall_mem_cons.mpr ⟨mokC_72, List.forall_mem_cons.mpr ⟨mokC_73, List.forall_mem_cons.mpr ⟨mokC_74, List.forall_mem_cons.mpr ⟨mokC_75, List.forall_mem_cons.mpr ⟨mokC_76, List.forall_mem_cons.mpr ⟨mokC_77, List.forall_mem_cons.mpr ⟨mokC_78, List.forall_mem_cons.mpr ⟨mokC_79, List.forall_mem_cons.mpr ⟨mokC_80, List.forall_mem_cons.mpr ⟨mokC_81, List.forall_mem_cons.mpr ⟨mokC_82, List.forall_mem_cons.mpr ⟨mokC_83, List.forall_mem_cons.mpr ⟨mokC_84, List.forall_mem_cons.mpr ⟨mokC_85, List.forall_mem_cons.mpr ⟨mokC_86, List.forall_mem_cons.mpr ⟨mokC_87, List.forall_mem_cons.mpr ⟨mokC_88, List.forall_mem_cons.mpr ⟨mokC_89, List.forall_mem_cons.mpr ⟨mokC_90, List.forall_mem_cons.mpr ⟨mokC_91, List.forall_mem_cons.mpr ⟨mokC_92, List.forall_mem_cons.mpr ⟨mokC_93, List.forall_mem_cons.mpr ⟨mokC_94, List.forall_mem_cons.mpr ⟨mokC_95, List.forall_mem_cons.mpr ⟨mokC_96, List.forall_mem_cons.mpr ⟨mokC_97, List.forall_mem_cons.mpr ⟨mokC_98, fun _ h => absurd h List.not_mem_nil⟩⟩⟩⟩⟩⟩⟩⟩⟩⟩⟩⟩⟩⟩⟩⟩⟩⟩⟩⟩⟩⟩⟩⟩⟩⟩⟩⟩⟩⟩⟩⟩⟩⟩⟩⟩⟩⟩⟩⟩⟩⟩⟩⟩⟩⟩⟩⟩⟩⟩⟩⟩⟩⟩⟩⟩⟩⟩⟩⟩⟩⟩⟩⟩⟩⟩⟩⟩⟩⟩⟩⟩⟩⟩⟩⟩⟩⟩⟩⟩⟩⟩⟩⟩⟩⟩⟩⟩⟩⟩⟩⟩⟩⟩⟩⟩⟩⟩⟩
theorem mokC : ∀ i q, mtC i = some q → ai_mokP q ∧ mlC i = q.2.2.1 ∧ mciC i = q.2.2.2.2.1 := by
  intro i q hq
  have h1 : mtCL[i]? = some q := hq
  exact ⟨mokC_l q (List.mem_of_getElem? h1), by simp [mlC, h1], by simp [mciC, h1]⟩
end
section
/-! every call on a fresh object has one answer on both sides -/
def ab_cov : Nat → List (Nat × Nat) → Bool
  | n, [] => Nat.ble 4294967296 n
  | n, (lo, hi) :: P => Nat.ble lo n && ab_cov (hi + 1) P
theorem ab_cov_ok : ∀ (P : List (Nat × Nat)) (n : Nat), ab_cov n P = true → ∀ x : Int32, n ≤ ab_U x → ∃ p ∈ P, ab_in p x
  | [], n, h, x, hx => by
    have h1 := Nat.le_of_ble_eq_true h
    have h2 := (ab_Ub x).2
    omega
  | (lo, hi) :: P, n, h, x, hx => by
    simp only [ab_cov, Bool.and_eq_true, Nat.ble_eq] at h
    by_cases h1 : ab_U x ≤ hi
    · exact ⟨(lo, hi), List.mem_cons_self, by show lo ≤ ab_U x; omega, h1⟩
    · obtain ⟨p, h2, h3⟩ := ab_cov_ok P (hi + 1) h.2 x (by omega)
      exact ⟨p, List.mem_cons_of_mem _ h2, h3⟩
theorem ab_b1_ok {P : List (Nat × Nat)} {f : List ab_V → Bool} (h : ab_b1 P f = true) (c1 : ab_cov 0 P = true) (x : Int32) : ∃ as, f as = true ∧ ab_s as [.int x] := by
  obtain ⟨p, p1, p2⟩ := ab_cov_ok P 0 c1 x (Nat.zero_le _)
  exact ⟨_, List.all_eq_true.mp h p p1, p2, trivial⟩
theorem ab_bj_ok {P : List (Nat × Nat)} {f : List ab_V → Bool} (h : ab_bj P f = true) (c1 : ab_cov 0 P = true) (x : Int32) (w : Int64) : ∃ as, f as = true ∧ ab_s as [.int x, .long w] := by
  obtain ⟨p, p1, p2⟩ := ab_cov_ok P 0 c1 x (Nat.zero_le _)
  exact ⟨_, List.all_eq_true.mp h p p1, p2, trivial, trivial⟩
theorem ab_b2_ok {P Q : List (Nat × Nat)} {f : List ab_V → Bool} (h : ab_b2 P Q f = true) (c1 : ab_cov 0 P = true) (c2 : ab_cov 0 Q = true) (x y : Int32) : ∃ as, f as = true ∧ ab_s as [.int x, .int y] := by
  obtain ⟨p, p1, p2⟩ := ab_cov_ok P 0 c1 x (Nat.zero_le _)
  obtain ⟨q, q1, q2⟩ := ab_cov_ok Q 0 c2 y (Nat.zero_le _)
  exact ⟨_, List.all_eq_true.mp (List.all_eq_true.mp h p p1) q q1, p2, q2, trivial⟩
theorem ab_b3_ok {P Q R : List (Nat × Nat)} {f : List ab_V → Bool} (h : ab_b3 P Q R f = true) (c1 : ab_cov 0 P = true) (c2 : ab_cov 0 Q = true) (c3 : ab_cov 0 R = true) (x y z : Int32) : ∃ as, f as = true ∧ ab_s as [.int x, .int y, .int z] := by
  obtain ⟨p, p1, p2⟩ := ab_cov_ok P 0 c1 x (Nat.zero_le _)
  obtain ⟨q, q1, q2⟩ := ab_cov_ok Q 0 c2 y (Nat.zero_le _)
  obtain ⟨r, r1, r2⟩ := ab_cov_ok R 0 c3 z (Nat.zero_le _)
  exact ⟨_, List.all_eq_true.mp (List.all_eq_true.mp (List.all_eq_true.mp h p p1) q q1) r r1, p2, q2, r2, trivial⟩
theorem ab_r_int {p : Nat × Nat} {v : Option Value} (h : ab_r (some p) v) : ∃ x : Int32, v = some (.int x) ∧ ab_in p x := by
  cases v with
  | none => exact h.elim
  | some v => cases v <;> first | exact h.elim | exact ⟨_, rfl, h⟩
def sa_P (iC iM : Nat) (vs : List Value) (hC hM : ai_H) : Prop := ∃ (r : Int32) (a b : ai_H), CC 7 iC (.ref 29 :: vs) hC (some (.int r)) a ∧ CM 7 iM (.ref 0 :: vs) hM (some (.int r)) b
theorem ab_same {iC iM : Nat} {as : List ab_V} {vs : List Value} {hC hM : ai_H} (hb : ab_both iC iM as = true ∧ ab_s as vs) (h1 : ab_h gC hC) (h2 : ab_h gM hM) : sa_P iC iM vs hC hM := by
  obtain ⟨hb, hs⟩ := hb
  unfold ab_both at hb
  split at hb
  · rename_i p G1 q G2 e1 e2
    obtain ⟨v1, a, c1, c2, -⟩ := ab_call 7 iC _ _ _ _ e1 (.ref 29 :: vs) hC ⟨rfl, hs⟩ h1
    obtain ⟨v2, b, d1, d2, -⟩ := ab_call 7 iM _ _ _ _ e2 (.ref 0 :: vs) hM ⟨rfl, hs⟩ h2
    obtain ⟨x, rfl, hx⟩ := ab_r_int c2
    obtain ⟨y, rfl, hy⟩ := ab_r_int d2
    simp only [Bool.and_eq_true] at hb
    have e : x = y := by rw [← ab_one hx hb.1.1, ← ab_one hy hb.1.2, Nat.eq_of_beq_eq_true hb.2]
    subst e
    exact ⟨x, a, b, c1, d1⟩
  · cases hb
theorem cv_0 : ab_cov 0 bx_0 = true := by decide +kernel
theorem cv_1 : ab_cov 0 bx_1 = true := by decide +kernel
theorem cv_2 : ab_cov 0 bx_2 = true := by decide +kernel
theorem cv_3 : ab_cov 0 bx_3 = true := by decide +kernel
theorem cv_4 : ab_cov 0 bx_4 = true := by decide +kernel
theorem cv_5 : ab_cov 0 bx_5 = true := by decide +kernel
theorem cv_6 : ab_cov 0 bx_6 = true := by decide +kernel
theorem cv_7 : ab_cov 0 bx_7 = true := by decide +kernel
theorem cv_8 : ab_cov 0 bx_8 = true := by decide +kernel
theorem cv_9 : ab_cov 0 bx_9 = true := by decide +kernel
theorem cv_10 : ab_cov 0 bx_10 = true := by decide +kernel
theorem sa_0 {hC hM : ai_H} (h1 : ab_h gC hC) (h2 : ab_h gM hM) (x y z : Int32) : sa_P 78 32 [.int x, .int y, .int z] hC hM := by
  obtain ⟨as, e⟩ := ab_b3_ok bo_0 cv_0 cv_1 cv_2 x y z
  exact ab_same e h1 h2
theorem sa_1 {hC hM : ai_H} (h1 : ab_h gC hC) (h2 : ab_h gM hM) (x y : Int32) : sa_P 79 33 [.int x, .int y] hC hM := by
  obtain ⟨as, e⟩ := ab_b2_ok bo_1 cv_3 cv_4 x y
  exact ab_same e h1 h2
theorem sa_2 {hC hM : ai_H} (h1 : ab_h gC hC) (h2 : ab_h gM hM) (x y z : Int32) : sa_P 80 35 [.int x, .int y, .int z] hC hM := by
  obtain ⟨as, e⟩ := ab_b3_ok bo_2 cv_3 cv_4 cv_5 x y z
  exact ab_same e h1 h2
theorem sa_3 {hC hM : ai_H} (h1 : ab_h gC hC) (h2 : ab_h gM hM) (x y : Int32) : sa_P 81 37 [.int x, .int y] hC hM := by
  obtain ⟨as, e⟩ := ab_b2_ok bo_3 cv_3 cv_5 x y
  exact ab_same e h1 h2
theorem sa_4 {hC hM : ai_H} (h1 : ab_h gC hC) (h2 : ab_h gM hM) (x y : Int32) : sa_P 82 38 [.int x, .int y] hC hM := by
  obtain ⟨as, e⟩ := ab_b2_ok bo_4 cv_1 cv_6 x y
  exact ab_same e h1 h2
theorem sa_5 {hC hM : ai_H} (h1 : ab_h gC hC) (h2 : ab_h gM hM) (x y : Int32) : sa_P 83 40 [.int x, .int y] hC hM := by
  obtain ⟨as, e⟩ := ab_b2_ok bo_5 cv_3 cv_7 x y
  exact ab_same e h1 h2
theorem sa_6 {hC hM : ai_H} (h1 : ab_h gC hC) (h2 : ab_h gM hM) (x : Int32) : sa_P 84 41 [.int x] hC hM := by
  obtain ⟨as, e⟩ := ab_b1_ok bo_6 cv_6 x
  exact ab_same e h1 h2
theorem sa_7 {hC hM : ai_H} (h1 : ab_h gC hC) (h2 : ab_h gM hM) (x y : Int32) : sa_P 85 42 [.int x, .int y] hC hM := by
  obtain ⟨as, e⟩ := ab_b2_ok bo_7 cv_6 cv_8 x y
  exact ab_same e h1 h2
theorem sa_8 {hC hM : ai_H} (h1 : ab_h gC hC) (h2 : ab_h gM hM) (x y : Int32) : sa_P 86 43 [.int x, .int y] hC hM := by
  obtain ⟨as, e⟩ := ab_b2_ok bo_8 cv_6 cv_6 x y
  exact ab_same e h1 h2
theorem sa_9 {hC hM : ai_H} (h1 : ab_h gC hC) (h2 : ab_h gM hM) (x : Int32) : sa_P 87 44 [.int x] hC hM := by
  obtain ⟨as, e⟩ := ab_b1_ok bo_9 cv_6 x
  exact ab_same e h1 h2
theorem sa_10 {hC hM : ai_H} (h1 : ab_h gC hC) (h2 : ab_h gM hM) (x : Int32) : sa_P 88 45 [.int x] hC hM := by
  obtain ⟨as, e⟩ := ab_b1_ok bo_10 cv_6 x
  exact ab_same e h1 h2
theorem sa_11 {hC hM : ai_H} (h1 : ab_h gC hC) (h2 : ab_h gM hM) (x y : Int32) : sa_P 89 46 [.int x, .int y] hC hM := by
  obtain ⟨as, e⟩ := ab_b2_ok bo_11 cv_6 cv_3 x y
  exact ab_same e h1 h2
theorem sa_12 {hC hM : ai_H} (h1 : ab_h gC hC) (h2 : ab_h gM hM) (x y : Int32) : sa_P 90 47 [.int x, .int y] hC hM := by
  obtain ⟨as, e⟩ := ab_b2_ok bo_12 cv_6 cv_6 x y
  exact ab_same e h1 h2
theorem sa_13 {hC hM : ai_H} (h1 : ab_h gC hC) (h2 : ab_h gM hM) (x : Int32) (w : Int64) : sa_P 91 48 [.int x, .long w] hC hM := by
  obtain ⟨as, e⟩ := ab_bj_ok bo_13 cv_9 x w
  exact ab_same e h1 h2
theorem sa_14 {hC hM : ai_H} (h1 : ab_h gC hC) (h2 : ab_h gM hM) : sa_P 92 59 [] hC hM := ab_same ⟨bo_14, trivial⟩ h1 h2
theorem sa_15 {hC hM : ai_H} (h1 : ab_h gC hC) (h2 : ab_h gM hM) (x : Int32) : sa_P 93 62 [.int x] hC hM := by
  obtain ⟨as, e⟩ := ab_b1_ok bo_15 cv_6 x
  exact ab_same e h1 h2
theorem sa_16 {hC hM : ai_H} (h1 : ab_h gC hC) (h2 : ab_h gM hM) (x : Int32) : sa_P 94 63 [.int x] hC hM := by
  obtain ⟨as, e⟩ := ab_b1_ok bo_16 cv_4 x
  exact ab_same e h1 h2
theorem sa_17 {hC hM : ai_H} (h1 : ab_h gC hC) (h2 : ab_h gM hM) (x : Int32) : sa_P 95 64 [.int x] hC hM := by
  obtain ⟨as, e⟩ := ab_b1_ok bo_17 cv_10 x
  exact ab_same e h1 h2
end
section
/-! CONSTRUCTORS: new arrays, and references out of locals, into the fields of one new object; then a run of the small machine -/
abbrev ac_Op : Type := Nat × Nat × Nat × ((Instr × Nat × Int32 × Nat × Bool) ⊕ (Instr × Nat × Nat))
def ac_z (z : Bool) : FieldType := if z = true then .boolean else .int
def ac_at (z : Bool) : ArrayType := if z = true then .boolean else .int
def ac_fs (r : Nat → Nat) : List Value → List ac_Op → List Nat → List Value
  | fs, (k, _, _, .inl _) :: ops, q :: qs => ac_fs r (fs.set k (.ref q)) ops qs
  | fs, (k, _, _, .inr (_, _, j)) :: ops, qs => ac_fs r (fs.set k (.ref (r j))) ops qs
  | fs, _, _ => fs
def ac_ar (cA : Bool → ClassId) : List ac_Op → List Nat → va_W
  | (_, _, _, .inl (_, _, _, N, z)) :: ops, q :: qs => (q, .inl (cA z, N, .inl (fun _ => 0))) :: ac_ar cA ops qs
  | (_, _, _, .inr _) :: ops, qs => ac_ar cA ops qs
  | _, _ => []
def ac_n : List ac_Op → Nat
  | [] => 0
  | (_, _, _, .inl _) :: ops => ac_n ops + 1
  | (_, _, _, .inr _) :: ops => ac_n ops
def ac_sum : List ac_Op → Nat
  | [] => 0
  | (_, _, _, .inl (_, _, _, N, _)) :: ops => ac_sum ops + N
  | (_, _, _, .inr _) :: ops => ac_sum ops
def ac_obj (o : Option FieldType) : Bool := match o with
  | some (.object _) => true
  | _ => false
def ac_push (i : Instr) (len : Nat) (n : Int32) : Bool := match i with
  | .iconst v => decide (len = 1) && decide (Int32.ofInt v = n)
  | .bipush v => decide (len = 2) && decide ((Int8.ofInt v).toInt32 = n)
  | .sipush v => decide (len = 3) && decide ((Int16.ofInt v).toInt32 = n)
  | _ => false
def ac_load (i : Instr) (len j : Nat) : Bool := match i with
  | .aload_n v => decide (len = 1) && decide (v.val = j)
  | .aload v => decide (len = 2) && decide (v = j)
  | _ => false
def ac_ok (own : String) (bs : ByteArray) (T : u_T) (N nr : Nat) : Nat → List ac_Op → Nat → Bool
  | pc, [], e => decide (pc = e)
  | pc, (k, ix, w, .inl (i, len, n, NN, z)) :: ops, e => (decide (decode bs pc = .ok (.aload_n 0, 1)) && decide (k < N) && decide (lw_tbl[w]? = some (.fieldLink own ix (T k).1 (T k).2.1 (T k).2.2.1)) && decide ((T k).2.2.2 = true) && decide ((T k).1 = own)) &&
      ((decide (decode bs (pc + 1) = .ok (i, len)) && ac_push i len n && decide (¬ n < 0) && decide (n.toNatClampNeg = NN) && decide (NN ≤ 100000)) &&
      (decide (decode bs (pc + 1 + len) = .ok (.newarray (ac_at z), 2)) && decide (decode bs (pc + 1 + len + 2) = .ok (.putfield ix, 3)) && decide (parseFieldDescriptor (T k).2.2.1 = some (.array (ac_z z))) && ac_ok own bs T N nr (pc + 1 + len + 2 + 3) ops e))
  | pc, (k, ix, w, .inr (i, len, j)) :: ops, e => (decide (decode bs pc = .ok (.aload_n 0, 1)) && decide (k < N) && decide (lw_tbl[w]? = some (.fieldLink own ix (T k).1 (T k).2.1 (T k).2.2.1)) && decide ((T k).2.2.2 = true) && decide ((T k).1 = own)) &&
      ((decide (decode bs (pc + 1) = .ok (i, len)) && decide (j < nr) && ac_load i len j) &&
      (decide (decode bs (pc + 1 + len) = .ok (.putfield ix, 3)) && ac_obj (parseFieldDescriptor (T k).2.2.1) && ac_ok own bs T N nr (pc + 1 + len + 3) ops e))
theorem ac_wI : Cond.arrayClass .int ∈ lw_tbl := by decide +kernel
theorem ac_wZ : Cond.arrayClass .boolean ∈ lw_tbl := by decide +kernel
theorem ac_wO : Cond.instanceMethod Lib.objectInit ∈ lw_tbl ∧ Cond.code Lib.objectInit ⟨#[0xb1]⟩ 1 none ∈ lw_tbl := by decide +kernel
section ACW
variable {p : Program} {l : Launch} {e : Env} {R : Room} {s : State} {m : MethodId} {args : Array Value} {below : List Frame} {meth : Method} {c : Code} {cA : Bool → ClassId} {D : va_G} {A : Nat → Prop} {bs : ByteArray} {own : String} {Ts : List Cond} {Q : State → Prop}
theorem ac_newa (hx : p.tables.exec = Jvm.exec) (hb : c.code = bs) (hts : ∀ w ∈ Ts, w.before args s = true) (hin : ∀ w ∈ ai_tb, w ∈ Ts) (hK : va_K D ai_cl [(cA false, .int), (cA true, .boolean)] s) (hA : ∀ q, s.heap.size ≤ q → A q)
    {z : Bool} {n : Int32} {NN pc cells slots : Nat} {ws : va_W} {H : Heap} {locs : List Loc} {ls : Array Slot} {rest : List Value} (hP : va_P D ai_cl ws H) (hD : va_D A ws) (hS : va_S A s.heap H locs) (hn : ¬ n < 0) (hN : n.toNatClampNeg = NN) (hNN : NN ≤ 100000) (hc : cells + 1 ≤ R.cells) (hs : slots + NN ≤ R.slots) (hd : decode bs pc = .ok (.newarray (ac_at z), 2))
    (kk : ∀ (q : Nat) (H1 : Heap), va_P D ai_cl (ws ++ [(q, .inl (cA z, NN, .inl (fun _ => 0)))]) H1 → va_D A (ws ++ [(q, .inl (cA z, NN, .inl (fun _ => 0)))]) → va_S A s.heap H1 locs → W p l e R s m args below meth c H1 locs (cells + 1) (slots + NN) Q (F0 m (pc + 2) ls (.ref q :: rest))) :
    W p l e R s m args below meth c H locs cells slots Q (F0 m pc ls (.int n :: rest)) := by
  cases z with
  | false =>
    refine va_newa (atype := .int) (ty := .int) (a0 := (NN, .inl (fun _ => 0))) hx hb (hts _ (hin _ (ai_tb_in ac_wI rfl))) rfl hK hP hD hS hA (fun _ => rfl) hn hN (Nat.le_trans (Nat.mul_le_mul_right _ hNN) (by decide +kernel)) hc hs hd (fun q cA' H1 hK1 hP1 hD1 hS1 => ?_)
    have e1 : s.vm.findClass ("[" ++ FieldType.int.toString) = some (cA false) := (hK.2 0 (cA false, .int) rfl).2
    have e2 : s.vm.findClass ("[" ++ FieldType.int.toString) = some cA' := (hK1.2 2 (cA', .int) rfl).2
    have e3 : cA' = cA false := Option.some.inj (e2.symm.trans e1)
    rw [e3] at hP1 hD1
    exact kk q H1 hP1 hD1 hS1
  | true =>
    refine va_newa (atype := .boolean) (ty := .boolean) (a0 := (NN, .inl (fun _ => 0))) hx hb (hts _ (hin _ (ai_tb_in ac_wZ rfl))) rfl hK hP hD hS hA (fun _ => rfl) hn hN (Nat.le_trans (Nat.mul_le_mul_right _ hNN) (by decide +kernel)) hc hs hd (fun q cA' H1 hK1 hP1 hD1 hS1 => ?_)
    have e1 : s.vm.findClass ("[" ++ FieldType.boolean.toString) = some (cA true) := (hK.2 1 (cA true, .boolean) rfl).2
    have e2 : s.vm.findClass ("[" ++ FieldType.boolean.toString) = some cA' := (hK1.2 2 (cA', .boolean) rfl).2
    have e3 : cA' = cA true := Option.some.inj (e2.symm.trans e1)
    rw [e3] at hP1 hD1
    exact kk q H1 hP1 hD1 hS1
theorem ac_walk {ci N : Nat} {T : u_T} (hx : p.tables.exec = Jvm.exec) (hb : c.code = bs) (hown : s.vm.findClass own = some m.cls) (hts : ∀ w ∈ Ts, w.before args s = true) (hin : ∀ w ∈ ai_tb, w ∈ Ts) (hini : meth.name = "<init>") (hK : va_K D ai_cl [(cA false, .int), (cA true, .boolean)] s) (hA : ∀ q, s.heap.size ≤ q → A q)
    (hcl : ai_cl[ci]? = some (own, T, N)) {ls : Array Slot} {a nr : Nat} {r : Nat → Nat} (hl0 : ls[0]? = some (.val (.ref a))) (hlr : ∀ j, j < nr → ls[j]? = some (.val (.ref (r j)))) (pe : Nat) :
    ∀ (ops : List ac_Op) (pc cells slots : Nat) (fs : List Value) (wr : va_W) (H : Heap) (locs : List Loc), ac_ok own bs T N nr pc ops pe = true → fs.length = N → cells + ac_n ops ≤ R.cells → slots + ac_sum ops ≤ R.slots → va_P D ai_cl ((a, .inr (ci, fs)) :: wr) H → va_D A ((a, .inr (ci, fs)) :: wr) → va_S A s.heap H locs →
      (∀ (qs : List Nat) (H1 : Heap) (locs1 : List Loc), qs.length = ac_n ops → va_P D ai_cl ((a, .inr (ci, ac_fs r fs ops qs)) :: (wr ++ ac_ar cA ops qs)) H1 → va_D A ((a, .inr (ci, ac_fs r fs ops qs)) :: (wr ++ ac_ar cA ops qs)) → va_S A s.heap H1 locs1 → W p l e R s m args below meth c H1 locs1 (cells + ac_n ops) (slots + ac_sum ops) Q (F0 m pe ls [])) →
      W p l e R s m args below meth c H locs cells slots Q (F0 m pc ls []) := by
  obtain ⟨ty0, t1, t2, t3⟩ := ai_cls ci _ hcl
  have hin2 : ∀ w ∈ u_ws own T N, w ∈ Ts := fun w hw => hin w (ai_tb_in (t3 w hw).1 (t3 w hw).2)
  intro ops
  induction ops with
  | nil =>
    intro pc cells slots fs wr H locs hok hfl hc hs hP hD hS kk
    have e1 : pc = pe := by simpa [ac_ok] using hok
    subst e1
    exact kk [] H locs rfl (by simpa [ac_fs, ac_ar] using hP) (by simpa [ac_fs, ac_ar] using hD) hS
  | cons op ops ih =>
    intro pc cells slots fs wr H locs hok hfl hc hs hP hD hS kk
    obtain ⟨k, ix, w, o⟩ := op
    cases o with
    | inl o =>
      obtain ⟨i, len, n, NN, z⟩ := o
      simp only [ac_ok, Bool.and_eq_true, decide_eq_true_eq] at hok
      obtain ⟨⟨⟨⟨⟨h1, h2⟩, h3⟩, h4⟩, h5⟩, ⟨⟨⟨⟨h6, h7⟩, h8⟩, h9⟩, h10⟩, ⟨⟨h11, h12⟩, h13⟩, h14⟩ := hok
      simp only [ac_n, ac_sum] at hc hs kk
      refine lv_aload_n hx hb h1 rfl hl0 ?_
      have hpush : W p l e R s m args below meth c H locs cells slots Q (F0 m (pc + 1 + len) ls [.int n, .ref a]) → W p l e R s m args below meth c H locs cells slots Q (F0 m (pc + 1) ls [.ref a]) := by
        intro k0
        cases i
        all_goals (try exact absurd (show false = true from h7) (by decide))
        all_goals simp only [ac_push, Bool.and_eq_true, decide_eq_true_eq] at h7
        all_goals (obtain ⟨rfl, h7⟩ := h7; first | exact lv_iconst hx hb h6 h7 k0 | exact lv_bipush hx hb h6 h7 k0 | exact lv_sipush hx hb h6 h7 k0)
      refine hpush ?_
      refine ac_newa (z := z) (NN := NN) hx hb hts hin hK hA hP hD hS h8 h9 h10 (by omega) (by omega) h11 (fun q H1 hP1 hD1 hS1 => ?_)
      refine va_putF (D := D) (v := .ref q) (ty := .array (ac_z z)) hx hb hts hin2 ty0 t1 t2 hown hK hP1 hD1 hS1 0 rfl hcl k h2 (hts _ (hin _ (ai_tb_at h3 rfl))) (fun _ h9 => h9) h4 hini h5 h13 rfl rfl (by rw [hfl]; exact h2) h12 (fun H2 locs2 hP2 hD2 hS2 => ?_)
      refine ih (pc + 1 + len + 2 + 3) (cells + 1) (slots + NN) (fs.set k (.ref q)) (wr ++ [((q, .inl (cA z, NN, .inl (fun _ => 0))) : Nat × va_E)]) H2 locs2 h14 (by rw [List.length_set]; exact hfl) (by omega) (by omega) hP2 hD2 hS2 (fun qs H3 locs3 hq hP3 hD3 hS3 => ?_)
      have key := kk (q :: qs) H3 locs3 (by rw [List.length_cons, hq]) (by rw [List.append_assoc] at hP3; exact hP3) (by rw [List.append_assoc] at hD3; exact hD3) hS3
      rw [show cells + 1 + ac_n ops = cells + (ac_n ops + 1) by omega, show slots + NN + ac_sum ops = slots + (ac_sum ops + NN) by omega]
      exact key
    | inr o =>
      obtain ⟨i, len, j⟩ := o
      simp only [ac_ok, Bool.and_eq_true, decide_eq_true_eq] at hok
      obtain ⟨⟨⟨⟨⟨h1, h2⟩, h3⟩, h4⟩, h5⟩, ⟨⟨h6, h7⟩, h8⟩, ⟨h9, h10⟩, h11⟩ := hok
      simp only [ac_n, ac_sum] at hc hs kk
      refine lv_aload_n hx hb h1 rfl hl0 ?_
      have hpush : W p l e R s m args below meth c H locs cells slots Q (F0 m (pc + 1 + len) ls [.ref (r j), .ref a]) → W p l e R s m args below meth c H locs cells slots Q (F0 m (pc + 1) ls [.ref a]) := by
        intro k0
        cases i
        all_goals (try exact absurd (show false = true from h8) (by decide))
        all_goals simp only [ac_load, Bool.and_eq_true, decide_eq_true_eq] at h8
        all_goals (obtain ⟨rfl, h8⟩ := h8; first | exact lv_aload hx hb h6 (by rw [h8]; exact hlr j h7) k0 | exact lv_aload_n hx hb h6 h8 (hlr j h7) k0)
      refine hpush ?_
      have h12 : ∃ C, parseFieldDescriptor (T k).2.2.1 = some (.object C) := by
        cases hz : parseFieldDescriptor (T k).2.2.1 with
        | none => rw [hz] at h10; cases h10
        | some t => rw [hz] at h10; cases t <;> first | exact ⟨_, rfl⟩ | cases h10
      obtain ⟨C, h12⟩ := h12
      refine va_putF (D := D) (v := .ref (r j)) (ty := .object C) hx hb hts hin2 ty0 t1 t2 hown hK hP hD hS 0 rfl hcl k h2 (hts _ (hin _ (ai_tb_at h3 rfl))) (fun _ h9 => h9) h4 hini h5 h12 rfl rfl (by rw [hfl]; exact h2) h9 (fun H2 locs2 hP2 hD2 hS2 => ?_)
      exact ih (pc + 1 + len + 3) cells slots (fs.set k (.ref (r j))) wr H2 locs2 h11 (by rw [List.length_set]; exact hfl) hc hs hP2 hD2 hS2 (fun qs H3 locs3 hq hP3 hD3 hS3 => kk qs H3 locs3 hq hP3 hD3 hS3)
end ACW
def ac_ad (n h0 : Nat) (f r : Nat → Nat) : Nat → Nat
  | 0 => h0
  | k + 1 => if k < n then f k else r (k - n)
def ac_rr (h0 : Nat) (r : Nat → Nat) : Nat → Nat
  | 0 => h0
  | k + 1 => r k
def ac_w0 (h0 ci : Nat) (df : List Value) : va_W := [(h0, .inr (ci, df))]
def ac_Pre (D : va_G) (cA : Bool → ClassId) (h0 sz ci : Nat) (df : List Value) (U : State) : Prop := U.heap.size = sz ∧ va_P D ai_cl (ac_w0 h0 ci df) U.heap ∧ va_K D ai_cl [(cA false, .int), (cA true, .boolean)] U ∧ ai_N U
def ac_Rm (d mc ms : Nat) : Room := { frames := d, cells := mc, slots := ms, locals := 50 * d }
def ac_B (D : va_G) (cA : Bool → ClassId) (A : Nat → Prop) (sh : ai_Sh) (u : (Nat → Nat) × ai_H) (t : State) : Prop := va_P D ai_cl (ai_ws cA u.1 sh u.2) t.heap ∧ va_D A (ai_ws cA u.1 sh u.2)
def ac_post (k0 h0 : Nat) (rs : List Nat) (n : Nat) (g : ab_G) (u : (Nat → Nat) × ai_H) : Prop := u.1 k0 = h0 ∧ (∀ j q, rs[j]? = some q → u.1 (n + j) = q) ∧ ab_h g u.2
/-- a constructor's contract: from a new object to the cells of sh, the numbers as g has them; the object is cell k0 -/
def ac_Met (l : Launch) (D : va_G) (cA : Bool → ClassId) (y : MethodName) (bs : ByteArray) (nL ci : Nat) (df : List Value) (rs : List Nat) (sh : ai_Sh) (g : ab_G) (mc ms d k0 : Nat) : Prop :=
  ∀ h0 sz : Nat, Met l y (.code y bs nL none :: ai_tb) (ac_Rm d mc ms) (va_Pc (.ref h0 :: rs.map Value.ref) (ac_Pre D cA h0 sz ci df)) (va_Qv (ac_post k0 h0 rs sh.length g) (ac_B D cA (va_A (ac_w0 h0 ci df) sz) sh) (va_A (ac_w0 h0 ci df) sz)) mc ms (va_A (ac_w0 h0 ci df) sz)
theorem ac_fl : ∀ ks : List Nat, ai_fl (ks.map Value.ref) = ks.map (fun k => some (.ref k))
  | [] => rfl
  | k :: ks => by
    have e : ai_fl ((k :: ks).map Value.ref) = [some (.ref k)] ++ ai_fl (ks.map Value.ref) := rfl
    rw [e, ac_fl ks]
    rfl
theorem ac_ent {ks : List Nat} {n : Nat} (h : ks.length ≤ n) : (ai_ent n (ks.map Value.ref)).length = n ∧ ∀ j k : Nat, ks[j]? = some k → (ai_ent n (ks.map Value.ref))[j]? = some (some (Value.ref k)) := by
  unfold ai_ent
  rw [ac_fl, List.length_map]
  refine ⟨by simp; omega, fun j k hj => ?_⟩
  have hl : j < ks.length := (List.getElem?_eq_some_iff.mp hj).1
  rw [List.getElem?_append_left (by rw [List.length_map]; exact hl), List.getElem?_map, hj]
  rfl
theorem ac_range (qs : List Nat) : qs = (List.range qs.length).map (fun i => qs.getD i 0) := by
  apply List.ext_getElem?
  intro i
  rw [List.getElem?_map]
  by_cases hi : i < qs.length
  · rw [List.getElem?_range hi]
    simp [List.getD, hi]
  · rw [List.getElem?_eq_none (by omega), List.getElem?_eq_none (by rw [List.length_range]; omega)]
    rfl
theorem ac_dist {cA : Bool → ClassId} {ad : Nat → Nat} {sh : ai_Sh} {h : ai_H} {A : Nat → Prop} (hD : va_D A (ai_ws cA ad sh h)) : (∀ i j, i < sh.length → j < sh.length → ad i = ad j → i = j) ∧ ∀ k, k < sh.length → A (ad k) := by
  have h1 : ∀ i, i < sh.length → ∃ q, (ai_ws cA ad sh h)[i]? = some q ∧ q.1 = ad i := by
    intro i hi
    have h2 : sh[i]? = some sh[i] := List.getElem?_eq_getElem hi
    exact ⟨_, ai_ws_at h2, rfl⟩
  refine ⟨fun i j hi hj e => ?_, fun k hk => ?_⟩
  · obtain ⟨p, p1, p2⟩ := h1 i hi
    obtain ⟨q, q1, q2⟩ := h1 j hj
    exact hD.1 i j p q p1 q1 (by rw [p2, q2, e])
  · obtain ⟨p, p1, p2⟩ := h1 k hk
    have := hD.2 k p p1
    rw [p2] at this
    exact this
theorem ac_D1 (h0 ci : Nat) (df : List Value) : va_D (fun _ => True) (ac_w0 h0 ci df) := by
  have h1 : ∀ (k : Nat) (p : Nat × va_E), (ac_w0 h0 ci df)[k]? = some p → k = 0 := fun k p hk => by
    have : k < (ac_w0 h0 ci df).length := (List.getElem?_eq_some_iff.mp hk).1
    have e : (ac_w0 h0 ci df).length = 1 := rfl
    omega
  exact ⟨fun i j p q hp hq _ => by rw [h1 i p hp, h1 j q hq], fun _ _ _ => trivial⟩
def ac_ent0 (h0 : Nat) (rs : List Nat) (nL : Nat) (ls : Array Slot) : Prop := ∀ (ks : List Nat) (ad : Nat → Nat), ks.map ad = h0 :: rs → ai_lk ad ls (ai_ent nL (ks.map Value.ref))
theorem ac_lr {h0 nL : Nat} {rs : List Nat} {ls : Array Slot} (hnl : rs.length + 1 ≤ nL) (h : ac_ent0 h0 rs nL ls) : ls.size = nL ∧ ∀ j, j < rs.length + 1 → ls[j]? = some (.val (.ref (ac_rr h0 (fun j => rs.getD j 0) j))) := by
  have hk0 : (List.range (rs.length + 1)).map (ac_rr h0 (fun j => rs.getD j 0)) = h0 :: rs := by
    rw [List.range_succ_eq_map, List.map_cons, List.map_map]
    have e1 : (ac_rr h0 (fun j => rs.getD j 0) ∘ Nat.succ) = fun i => rs.getD i 0 := by funext i; rfl
    rw [e1, ← ac_range]
    rfl
  have h1 := h _ _ hk0
  have h2 := ac_ent (ks := List.range (rs.length + 1)) (n := nL) (by rw [List.length_range]; omega)
  refine ⟨by rw [h1.1, h2.1], fun j hj => ?_⟩
  exact h1.2.2 j (.ref j) (h2.2 j j (by rw [List.getElem?_range hj]))
set_option maxHeartbeats 4000000 in
set_option maxRecDepth 20000 in
theorem ac_enter (l : Launch) {D : va_G} {cA : Bool → ClassId} {y : MethodName} {bs : ByteArray} {nL ci mc ms d oix k0 : Nat} {df : List Value} {rs : List Nat} {sh : ai_Sh} {g : ab_G}
    (hy : plainName y.cls = true) (hyi : y.name = "<init>") (hnl : rs.length + 1 ≤ nL)
    (d0 : decode bs 0 = .ok (.aload_n 0, 1)) (d1 : decode bs 1 = .ok (.invokespecial oix, 3)) (hw : Cond.methodLink y.cls oix Lib.objectInit ∈ lw_tbl)
    (body : ∀ (p : Program) (e : Env) (s : State) (m : MethodId) (args : Array Value) (below : List Frame) (meth : Method) (c : Code) (h0 : Nat) (A : Nat → Prop) (ls : Array Slot),
      p.tables.exec = Jvm.exec → c.code = bs → meth.sig.returnType = none → c.maxLocals = nL → (∀ w ∈ Cond.code y bs nL none :: ai_tb, w.before args s = true) → s.vm.findClass y.cls = some m.cls → meth.locks = false → meth.name = "<init>" → va_K D ai_cl [(cA false, .int), (cA true, .boolean)] s → ai_N s → va_P D ai_cl (ac_w0 h0 ci df) s.heap → va_D A (ac_w0 h0 ci df) → (∀ q : Nat, s.heap.size ≤ q → A q) → ac_ent0 h0 rs nL ls →
      W p l e (ac_Rm (d + 1) mc ms) s m args below meth c s.heap [] 0 0 (MQ below (va_Qv (ac_post k0 h0 rs sh.length g) (ac_B D cA A sh) A) args s mc ms A) (F0 m 4 ls [])) :
    ac_Met l D cA y bs nL ci df rs sh g mc ms (d + 1) k0 := by
  intro h0 sz
  refine Met.ofW (cc := bs) (maxL := nL) (ret := none) hy rfl ?_
  intro p e s m args below meth c s₁ B hml hv
  obtain ⟨rfl, hsz, hP, hK, hN⟩ := hv
  have hx := B.exec
  have hb := B.bytes
  have hr := B.returns
  have hts := atoms_spec (ws := Cond.code y bs nL none :: ai_tb) B.pre
  have hown : s.vm.findClass y.cls = some m.cls := findClass_of_methodNamed B.named
  have hlocks := B.notSynchronized
  have hini : meth.name = "<init>" := by rw [(name_of_methodNamed B.named B.method).1]; exact hyi
  have hin : ∀ w ∈ ai_tb, w ∈ Cond.code y bs nL none :: ai_tb := fun w hw => List.mem_cons_of_mem _ hw
  subst hsz
  have hD : va_D (va_A (ac_w0 h0 ci df) s.heap.size) (ac_w0 h0 ci df) := (ac_D1 h0 ci df).self
  have hA : ∀ q : Nat, s.heap.size ≤ q → va_A (ac_w0 h0 ci df) s.heap.size q := fun q h => Or.inr h
  generalize va_A (ac_w0 h0 ci df) s.heap.size = A at hD hA ⊢
  rw [lg_entry_eq]
  have hent : ac_ent0 h0 rs nL ((lg_sl (Value.ref h0 :: rs.map Value.ref) ++ List.replicate (nL - (lg_sl (Value.ref h0 :: rs.map Value.ref)).length) Slot.unset).toArray) := by
    intro ks ad hk
    have hkl : ks.length = rs.length + 1 := by rw [← List.length_map (f := ad), hk]; rfl
    have e1 : (Value.ref h0 :: rs.map Value.ref) = (ks.map Value.ref).map (ai_cv ad) := by
      have e2 : (ks.map Value.ref).map (ai_cv ad) = (ks.map ad).map Value.ref := by
        rw [List.map_map, List.map_map]
        rfl
      rw [e2, hk]
      rfl
    rw [e1]
    exact ai_lk_ent ad (ks.map Value.ref) nL (ac_ent (by omega)).1
  generalize (lg_sl (Value.ref h0 :: rs.map Value.ref) ++ List.replicate (nL - (lg_sl (Value.ref h0 :: rs.map Value.ref)).length) Slot.unset).toArray = ls at hent ⊢
  have hlr := ac_lr hnl hent
  refine lv_aload_n hx hb d0 rfl (hlr.2 0 (Nat.succ_pos _)) ?_
  refine W.objInit hx hb hown (hts _ (hin _ (ai_tb_in hw rfl))) (hts _ (hin _ (ai_tb_in ac_wO.1 rfl))) (hts _ (hin _ (ai_tb_in ac_wO.2 rfl))) rfl (by rw [hml]; exact hlr.1) rfl d1 (Nat.succ_le_succ (Nat.zero_le _)) (by show 2 * 0 + 0 + 12 ≤ 50 * (d + 1); omega) ?_
  refine W.eq (g2 := F0 m 4 ls []) rfl ?_
  exact body p e s m _ below meth c h0 A ls hx hb hr hml hts hown hlocks hini hK hN hP hD hA hent
set_option maxHeartbeats 4000000 in
set_option maxRecDepth 20000 in
theorem ac_made (l : Launch) (D : va_G) (cA : Bool → ClassId) {y : MethodName} {bs : ByteArray} {nL ci N : Nat} {T : u_T} {df : List Value} {rs : List Nat} {sh : ai_Sh} {ops : List ac_Op} {g : ab_G} {d oix pe fuel fuel2 : Nat} {mci ml : Nat → Nat} {cd : Nat → Nat → Option ai_I} {mt : Nat → Option ai_Mt} {ki : List (Nat × ai_I)}
    (hy : plainName y.cls = true) (hyi : y.name = "<init>") (hcl : ai_cl[ci]? = some (y.cls, T, N)) (hdf : df.length = N) (hnl : rs.length + 1 ≤ nL)
    (d0 : decode bs 0 = .ok (.aload_n 0, 1)) (d1 : decode bs 1 = .ok (.invokespecial oix, 3)) (hw : Cond.methodLink y.cls oix Lib.objectInit ∈ lw_tbl)
    (hops : ac_ok y.cls bs T N (rs.length + 1) 4 ops pe = true)
    (hsh : ∀ (h0 : Nat) (f r : Nat → Nat), (((h0, .inr (ci, ac_fs (ac_rr h0 r) df ops ((List.range (ac_n ops)).map f))) :: ac_ar cA ops ((List.range (ac_n ops)).map f)) : va_W) = ai_ws cA (ac_ad (ac_n ops) h0 f r) sh (fun _ _ => 0)) (hshl : sh.length = ac_n ops + 1)
    (hrun : ab_e sh mci (ab_ec sh mci ml cd fuel d) (ai_lu ki) fuel2 pe (ab_ent nL ((0 :: (List.range rs.length).map (fun j => ac_n ops + 1 + j)).map Sum.inl)) [] [] = some (none, g))
    (hki : ki.all (fun e => ai_okb mt y.cls bs none e.1 e.2) = true)
    (hck : ∀ i q, mt i = some q → ∀ pc r, cd i pc = some r → ai_okb mt q.1.cls q.2.1 q.2.2.2.1 pc r = true)
    (hmt : ∀ i q, mt i = some q → ai_mokP q ∧ ml i = q.2.2.1 ∧ mci i = q.2.2.2.2.1) :
    ac_Met l D cA y bs nL ci df rs sh g (ac_n ops) (ac_sum ops) (d + 1) 0 := by
  refine ac_enter l hy hyi hnl d0 d1 hw ?_
  intro p e s m args below meth c h0 A ls hx hb hr hml hts hown hlocks hini hK hN hP hD hA hent
  have hlr := ac_lr hnl hent
  have hin : ∀ w ∈ ai_tb, w ∈ Cond.code y bs nL none :: ai_tb := fun w hw => List.mem_cons_of_mem _ hw
  generalize hr0 : (fun j => rs.getD j 0) = r at hlr
  refine ac_walk (T := T) (N := N) (ci := ci) (a := h0) (r := ac_rr h0 r) (nr := rs.length + 1) hx hb hown hts hin hini hK hA hcl (hlr.2 0 (Nat.succ_pos _)) hlr.2 pe ops 4 0 0 df [] s.heap [] hops hdf (Nat.le_of_eq (Nat.zero_add _)) (Nat.le_of_eq (Nat.zero_add _)) hP hD va_S.rf (fun qs H1 locs1 hq hP1 hD1 hS1 => ?_)
  rw [Nat.zero_add, Nat.zero_add]
  obtain ⟨f, hf⟩ : ∃ f : Nat → Nat, qs = (List.range (ac_n ops)).map f := ⟨_, by rw [← hq]; exact ac_range qs⟩
  rw [List.nil_append, hf, hsh h0 f r] at hP1 hD1
  have hdist := (ac_dist hD1).1
  have hAd := (ac_dist hD1).2
  have hk1 : (0 :: (List.range rs.length).map (fun j => ac_n ops + 1 + j)).map (ac_ad (ac_n ops) h0 f r) = h0 :: rs := by
    rw [List.map_cons, List.map_map]
    have e1 : (ac_ad (ac_n ops) h0 f r ∘ fun j => ac_n ops + 1 + j) = fun i => rs.getD i 0 := by
      funext i
      show ac_ad (ac_n ops) h0 f r (ac_n ops + 1 + i) = _
      rw [show ac_n ops + 1 + i = (ac_n ops + i) + 1 by omega]
      show (if ac_n ops + i < ac_n ops then f (ac_n ops + i) else r (ac_n ops + i - ac_n ops)) = _
      rw [if_neg (by omega), Nat.add_sub_cancel_left, ← hr0]
    rw [e1, ← ac_range]
    rfl
  have hL := hent _ _ hk1
  have hab : ab_s ((0 :: (List.range rs.length).map (fun j => ac_n ops + 1 + j)).map Sum.inl) ((0 :: (List.range rs.length).map (fun j => ac_n ops + 1 + j)).map Value.ref) := by
    generalize (0 :: (List.range rs.length).map (fun j => ac_n ops + 1 + j)) = ks
    induction ks with
    | nil => trivial
    | cons k ks ih => exact ⟨rfl, ih⟩
  have hp := ab_sound (ab_call (sh := sh) (mci := mci) (ml := ml) (cd := cd) (fuel := fuel) d) none g fuel2 pe _ _ _ hrun _ [] (fun _ _ => 0) (ab_l_ent (n := nL) hab) trivial ab_zero
  refine ai_walk (mt := mt) (Q := fun r' h' => ab_r none r' ∧ ab_h g h') hx hb hml hown hts hin hN hK hdist hAd hr hlocks (fun pc q hpc => List.all_eq_true.mp hki (pc, q) (ai_lu_mem ki pc q hpc)) hmt (Nat.le_refl _) (by show 50 * d + 50 ≤ 50 * (d + 1); omega) (Nat.le_refl _) (Nat.le_refl _) (fun i q hi as h r h2 hC => ai_sound l hdist hck hmt d i q hi as h r h2 hC) ?_ (fun q hq => hq) fuel2 pe _ [] _ H1 locs1 ls hp hP1 hS1 hL (ac_ent (by simp; omega)).1
  intro r' h' H locs t hQ hP hS ht hW
  obtain ⟨hr', hg⟩ := hQ
  have e1 : r' = none := by
    cases r' with
    | none => rfl
    | some v => exact hr'.elim
  subst e1
  refine ⟨⟨(ac_ad (ac_n ops) h0 f r, h'), rfl, ⟨rfl, fun j q hj => ?_, hg⟩, by rw [ht]; exact hP, ai_D hdist hAd h'⟩, hS.F ht⟩
  rw [hshl]
  show ac_ad (ac_n ops) h0 f r (ac_n ops + 1 + j) = q
  rw [show ac_n ops + 1 + j = (ac_n ops + j) + 1 by omega]
  show (if ac_n ops + j < ac_n ops then f (ac_n ops + j) else r (ac_n ops + j - ac_n ops)) = q
  rw [if_neg (by omega), Nat.add_sub_cancel_left, ← hr0]
  show rs.getD j 0 = q
  simp [List.getD, hj]
end
section
/-! a new object, its constructor called: the world grows by the constructor's cells -/
theorem ac_join {A0 : Nat → Prop} {D : va_G} {cl : List vw_C} {ws w1 : va_W} {q ci : Nat} {df : List Value} {H H1 : Heap} (hP : va_P D cl (ws ++ ac_w0 q ci df) H) (hD : va_D A0 (ws ++ ac_w0 q ci df)) (hk : ∀ a : Nat, a < H.size → ¬ va_A (ac_w0 q ci df) H.size a → H1[a]? = H[a]?) (hF : ∀ a, va_A (ac_w0 q ci df) H.size a → A0 a) (hP1 : va_P D cl w1 H1) (hD1 : va_D (va_A (ac_w0 q ci df) H.size) w1) : va_P D cl (ws ++ w1) H1 ∧ va_D A0 (ws ++ w1) := by
  have inl : ∀ (k : Nat) (x : Nat × va_E), ws[k]? = some x → (ws ++ ac_w0 q ci df)[k]? = some x := fun k x hx => by
    rw [List.getElem?_append_left (List.getElem?_eq_some_iff.mp hx).1]; exact hx
  have inr : (ws ++ ac_w0 q ci df)[ws.length]? = some (q, .inr (ci, df)) := by
    rw [List.getElem?_append_right (Nat.le_refl _), Nat.sub_self]; rfl
  have apart : ∀ (k : Nat) (x : Nat × va_E), ws[k]? = some x → x.1 < H.size ∧ ¬ va_A (ac_w0 q ci df) H.size x.1 := by
    intro k x hx
    have hl := (hP k x (inl k x hx)).lt
    refine ⟨hl, fun h => ?_⟩
    rcases h with ⟨k2, e, h⟩ | h
    · have hk2 : k2 = 0 := by
        have : k2 < (ac_w0 q ci df).length := (List.getElem?_eq_some_iff.mp h).1
        have e1 : (ac_w0 q ci df).length = 1 := rfl
        omega
      subst hk2
      have e2 : (q, (.inr (ci, df) : va_E)) = (x.1, e) := Option.some.inj h
      have e3 := hD.1 k ws.length x (q, .inr (ci, df)) (inl k x hx) inr (congrArg Prod.fst e2).symm
      have := (List.getElem?_eq_some_iff.mp hx).1
      omega
    · omega
  refine ⟨va_P.app (fun k x hx => (hP k x (inl k x hx)).kept (hk x.1 (apart k x hx).1 (apart k x hx).2)) hP1, va_D.app ⟨fun i j x y hx hy e => hD.1 i j x y (inl i x hx) (inl j y hy) e, fun k x hx => hD.2 k x (inl k x hx)⟩ (hD1.weaken (fun k x _ h => hF x.1 h)) (fun i j x y hx hy hxy => ?_)⟩
  exact (apart i x hx).2 (by rw [hxy]; exact hD1.2 j y hy)
section ACS
variable {p : Program} {l : Launch} {e : Env} {R : Room} {s : State} {m : MethodId} {args : Array Value} {below : List Frame} {meth : Method} {c : Code} {cA : Bool → ClassId} {D : va_G} {A : Nat → Prop} {bs : ByteArray} {own : String} {Ts : List Cond} {Q : State → Prop}
/-- new, dup -/
theorem ac_new1 (hx : p.tables.exec = Jvm.exec) (hb : c.code = bs) (hown : s.vm.findClass own = some m.cls) (hts : ∀ w ∈ Ts, w.before args s = true) (hin : ∀ w ∈ ai_tb, w ∈ Ts) (hK : va_K D ai_cl [(cA false, .int), (cA true, .boolean)] s) (hA : ∀ q, s.heap.size ≤ q → A q)
    {ci N ix pc cells slots : Nat} {C : String} {T : u_T} {df : List Value} (hcl : ai_cl[ci]? = some (C, T, N)) (hdf : ∀ j, j < N → (parseFieldDescriptor (T j).2.2.1).map defaultValue = some (vp_V df j)) (w1 : Cond.classLink own ix C ∈ lw_tbl) (w2 : Cond.instantiable C N ∈ lw_tbl) (w3 : Cond.initialized C ∈ lw_tbl)
    {ws : va_W} {H : Heap} {locs : List Loc} {ls : Array Slot} {rest : List Value} (hP : va_P D ai_cl ws H) (hD : va_D A ws) (hS : va_S A s.heap H locs) (hc : cells + 1 ≤ R.cells) (hs : slots + N ≤ R.slots) (d1 : decode bs pc = .ok (.new ix, 3)) (d2 : decode bs (pc + 3) = .ok (.dup, 1))
    (kk : ∀ (q : Nat) (H1 : Heap), va_P D ai_cl (ws ++ ac_w0 q ci df) H1 → va_D A (ws ++ ac_w0 q ci df) → va_S A s.heap H1 locs → W p l e R s m args below meth c H1 locs (cells + 1) (slots + N) Q (F0 m (pc + 3 + 1) ls (.ref q :: .ref q :: rest))) :
    W p l e R s m args below meth c H locs cells slots Q (F0 m pc ls rest) := by
  obtain ⟨ty0, t1, t2, t3⟩ := ai_cls ci _ hcl
  have hin2 : ∀ w ∈ u_ws C T N, w ∈ Ts := fun w hw => hin w (ai_tb_in (t3 w hw).1 (t3 w hw).2)
  refine va_new (ci := ci) (fs := df) (C := C) (T := T) (N := N) hx hb hts hin2 ty0 t1 hown (hts _ (hin _ (ai_tb_in w1 rfl))) (hts _ (hin _ (ai_tb_in w2 rfl))) (hts _ (hin _ (ai_tb_in w3 rfl))) hK hP hD hS hA hcl (fun j hj => ?_) hc hs d1 (fun q H1 hP1 hD1 hS1 => ?_)
  · have h1 := hdf j hj
    rw [t1 j hj] at h1
    exact Option.some.inj h1
  · exact lv_dup hx hb d2 rfl (kk q H1 hP1 hD1 hS1)
/-- the constructor's call -/
theorem ac_call1 {nL : Nat} (hx : p.tables.exec = Jvm.exec) (hb : c.code = bs) (hml : c.maxLocals = nL) (hown : s.vm.findClass own = some m.cls) (hts : ∀ w ∈ Ts, w.before args s = true) (hin : ∀ w ∈ ai_tb, w ∈ Ts) (hN : ai_N s) (hK : va_K D ai_cl [(cA false, .int), (cA true, .boolean)] s) (hA : ∀ q, s.heap.size ≤ q → A q)
    {y : MethodName} {bs2 : ByteArray} {nL2 ci mc ms d k0 q ix pc cells slots : Nat} {df : List Value} {rs : List Nat} {sh : ai_Sh} {g : ab_G} (hM : ac_Met l D cA y bs2 nL2 ci df rs sh g mc ms d k0)
    (w1 : Cond.methodLink own ix y ∈ lw_tbl) (w2 : Cond.instanceMethod y ∈ lw_tbl) (w3 : Cond.initialized y.cls ∈ lw_tbl) (w4 : Cond.code y bs2 nL2 none ∈ lw_tbl) (hyi : y.name = "<init>") (hyd : y.cls ≠ "java/lang/invoke/MethodHandle" ∧ y.cls ≠ "java/lang/invoke/VarHandle" ∧ (parseMethodDescriptor y.desc).map (fun d => d.parameters.length) = some rs.length)
    (hroom : d + 1 ≤ R.frames ∧ 8 + (nL2 + 11) + 50 * d ≤ R.locals)
    {ws : va_W} {H : Heap} {locs : List Loc} {ls : Array Slot} {rest : List Value} (hls : ls.size = nL) (hrest : (rest.map fun v => v.category).sum ≤ 8) (hP : va_P D ai_cl (ws ++ ac_w0 q ci df) H) (hD : va_D A (ws ++ ac_w0 q ci df)) (hS : va_S A s.heap H locs) (hc : cells + mc ≤ R.cells) (hs : slots + ms ≤ R.slots) (d1 : decode bs pc = .ok (.invokespecial ix, 3))
    (kk : ∀ (u : (Nat → Nat) × ai_H) (H1 : Heap) (locs1 : List Loc), ac_post k0 q rs sh.length g u → va_P D ai_cl (ws ++ ai_ws cA u.1 sh u.2) H1 → va_D A (ws ++ ai_ws cA u.1 sh u.2) → va_S A s.heap H1 locs1 → W p l e R s m args below meth c H1 locs1 (cells + mc) (slots + ms) Q (F0 m (pc + 3) ls rest)) :
    W p l e R s m args below meth c H locs cells slots Q (F0 m pc ls ((rs.map Value.ref).reverse ++ .ref q :: rest)) := by
  have hPc : va_P D ai_cl (ac_w0 q ci df) H := fun k x hx => hP (ws.length + k) x (by rw [List.getElem?_append_right (Nat.le_add_right _ _), Nat.add_sub_cancel_left]; exact hx)
  have hF : ∀ a, va_A (ac_w0 q ci df) H.size a → A a := by
    intro a h
    rcases h with ⟨k, e, h⟩ | h
    · exact hD.2 (ws.length + k) (a, e) (by rw [List.getElem?_append_right (Nat.le_add_right _ _), Nat.add_sub_cancel_left]; exact h)
    · exact hA a (Nat.le_trans hS.1 h)
  have hG : ∀ w ∈ (Cond.code y bs2 nL2 none :: ai_tb), w ∈ ai_tb := fun w hw => (List.mem_cons.mp hw).elim (fun e => e ▸ ai_tb_in w4 rfl) (fun e => e)
  refine va_callv (va_runI (As := rs.map Value.ref) (rest := rest) ⟨hx, hb, hml, hown, hts⟩ (hM q H.size) (cwI rs.length hts (ai_good hG hin) rfl rfl rfl (hts _ (hin _ (ai_tb_in w3 rfl))) (hts _ (hin _ (ai_tb_in w1 rfl))) (hts _ (hin _ (ai_tb_in w2 rfl))) hyi hyd hroom) ⟨fun a U g mk z => ?_, fun U hU hW => ⟨rfl, by rw [hU], by rw [hU]; exact hPc, va_K.moved hW.alike hK, ai_N_warm hW hN⟩⟩ rfl (by rw [List.length_map]) hls rfl (lv_room hrest) d1 ⟨hc, hs⟩) hS (fun q _ h => hF q h) hF (fun u t H1 locs1 ht hvm hw hB hz1 hk1 hS1 => ?_)
  · obtain ⟨q0, q1, qP, qK, qN⟩ := z
    exact ⟨q0, q1, qP, va_K.moved (u := U) (U := U.calling g mk a) (Vm.Alike.refl U.vm) qK, ai_N_same (u := U) (U := U.calling g mk a) rfl qN⟩
  · obtain ⟨hP1, hD1⟩ := hB
    rw [ht] at hP1
    obtain ⟨hP2, hD2⟩ := ac_join hP hD hk1 hF hP1 hD1
    exact kk u H1 locs1 hw hP2 hD2 hS1
def ac_gok (own : String) (bs : ByteArray) (T : u_T) (N : Nat) : Nat → List (Nat × Nat × Nat) → Bool
  | _, [] => true
  | pc, (k, ix, w) :: js => (decide (decode bs pc = .ok (.aload_n 0, 1)) && decide (decode bs (pc + 1) = .ok (.getfield ix, 3)) && decide (k < N) && decide (lw_tbl[w]? = some (.fieldLink own ix (T k).1 (T k).2.1 (T k).2.2.1))) && ac_gok own bs T N (pc + 1 + 3) js
/-- fields of the object that is made, read -/
theorem ac_gets {ci N : Nat} {T : u_T} (hx : p.tables.exec = Jvm.exec) (hb : c.code = bs) (hown : s.vm.findClass own = some m.cls) (hts : ∀ w ∈ Ts, w.before args s = true) (hin : ∀ w ∈ ai_tb, w ∈ Ts) (hK : va_K D ai_cl [(cA false, .int), (cA true, .boolean)] s)
    (hcl : ai_cl[ci]? = some (own, T, N)) {ls : Array Slot} {a cells slots : Nat} {fs : List Value} {wr : va_W} {H : Heap} {locs : List Loc} (hl0 : ls[0]? = some (.val (.ref a))) (hP : va_P D ai_cl ((a, .inr (ci, fs)) :: wr) H) :
    ∀ (js : List (Nat × Nat × Nat)) (rs : List Nat) (pc : Nat) (st : List Value), ac_gok own bs T N pc js = true → js.map (fun j => fs[j.1]?) = rs.map (fun q => some (Value.ref q)) →
      W p l e R s m args below meth c H locs cells slots Q (F0 m (pc + 4 * js.length) ls ((rs.map Value.ref).reverse ++ st)) → W p l e R s m args below meth c H locs cells slots Q (F0 m pc ls st) := by
  obtain ⟨ty0, t1, t2, t3⟩ := ai_cls ci _ hcl
  have hin2 : ∀ w ∈ u_ws own T N, w ∈ Ts := fun w hw => hin w (ai_tb_in (t3 w hw).1 (t3 w hw).2)
  intro js
  induction js with
  | nil =>
    intro rs pc st _ hv kk
    cases rs with
    | nil => exact kk
    | cons q rs => cases hv
  | cons j js ih =>
    intro rs pc st hok hv kk
    obtain ⟨k, ix, w⟩ := j
    cases rs with
    | nil => cases hv
    | cons q rs =>
      rw [List.map_cons, List.map_cons, List.cons.injEq] at hv
      simp only [ac_gok, Bool.and_eq_true, decide_eq_true_eq] at hok
      obtain ⟨⟨⟨⟨h1, h2⟩, h3⟩, h4⟩, h5⟩ := hok
      refine lv_aload_n hx hb h1 rfl hl0 ?_
      refine va_get (D := D) (v := .ref q) hx hb hts hin2 hown hK hP 0 rfl hcl k h3 (hts _ (hin _ (ai_tb_at h4 rfl))) (fun _ h9 => h9) hv.1 h2 ?_
      refine ih rs (pc + 1 + 3) (.ref q :: st) h5 hv.2 ?_
      rw [List.length_cons] at kk
      rw [show pc + 1 + 3 + 4 * js.length = pc + 4 * (js.length + 1) by omega]
      rw [List.map_cons, List.reverse_cons, List.append_assoc] at kk
      exact kk
end ACS
end
section
/-! the constructors that make no object -/
def opM : List ac_Op := [(2, 7, 791, .inl (.sipush 6256, 3, 6256, 6256, false)), (3, 13, 792, .inl (.sipush 6256, 3, 6256, 6256, false)), (4, 16, 793, .inl (.sipush 6256, 3, 6256, 6256, false)), (5, 19, 794, .inl (.sipush 6256, 3, 6256, 6256, false)), (6, 22, 795, .inl (.sipush 6256, 3, 6256, 6256, false)), (7, 25, 796, .inl (.sipush 6256, 3, 6256, 6256, false)), (8, 28, 797, .inl (.sipush 6256, 3, 6256, 6256, false)), (9, 31, 798, .inl (.sipush 18768, 3, 18768, 18768, false)), (10, 34, 799, .inl (.sipush 18768, 3, 18768, 18768, false)), (11, 37, 800, .inl (.sipush 6256, 3, 6256, 6256, true)), (12, 41, 801, .inl (.sipush 6256, 3, 6256, 6256, false)), (14, 44, 803, .inl (.bipush 12, 2, 12, 12, false)), (15, 47, 804, .inl (.bipush 12, 2, 12, 12, false)), (16, 50, 805, .inl (.bipush 12, 2, 12, 12, false)), (17, 53, 806, .inl (.bipush 12, 2, 12, 12, false)), (18, 56, 807, .inl (.bipush 36, 2, 36, 36, false)), (19, 59, 808, .inl (.bipush 36, 2, 36, 36, false)), (20, 62, 809, .inl (.bipush 108, 2, 108, 108, false)), (22, 65, 811, .inl (.iconst 3, 1, 3, 3, false)), (23, 68, 812, .inl (.iconst 3, 1, 3, 3, false)), (25, 71, 814, .inl (.iconst 3, 1, 3, 3, false)), (26, 74, 815, .inl (.iconst 3, 1, 3, 3, false)), (28, 77, 817, .inl (.bipush 100, 2, 100, 100, false)), (30, 80, 819, .inl (.sipush 200, 3, 200, 200, false)), (31, 83, 820, .inl (.bipush 12, 2, 12, 12, false)), (34, 86, 823, .inl (.bipush 9, 2, 9, 9, false)), (35, 89, 824, .inl (.bipush 9, 2, 9, 9, false)), (36, 92, 825, .inl (.bipush 9, 2, 9, 9, false)), (37, 95, 826, .inl (.bipush 9, 2, 9, 9, false)), (38, 98, 827, .inl (.sipush 400, 3, 400, 400, false)), (39, 101, 828, .inl (.sipush 400, 3, 400, 400, false)), (41, 104, 830, .inl (.bipush 104, 2, 104, 104, false)), (42, 107, 831, .inl (.bipush 104, 2, 104, 104, false)), (43, 110, 832, .inl (.bipush 104, 2, 104, 104, false)), (44, 113, 833, .inl (.bipush 104, 2, 104, 104, false)), (45, 116, 834, .inl (.sipush 312, 3, 312, 312, false)), (46, 119, 835, .inl (.sipush 312, 3, 312, 312, false)), (47, 122, 836, .inl (.bipush 104, 2, 104, 104, false)), (48, 125, 837, .inl (.bipush 104, 2, 104, 104, false)), (53, 128, 842, .inl (.sipush 210, 3, 210, 210, false))]
theorem ao_M : ac_ok RX8 cX8_init TX8 56 1 4 opM 337 = true := by decide +kernel
theorem ak_M : kiM.all (fun e => ai_okb mtM RX8 cX8_init none e.1 e.2) = true := by decide +kernel
theorem ad0_M : decode cX8_init 0 = .ok (.aload_n 0, 1) := by decide +kernel
theorem ad1_M : decode cX8_init 1 = .ok (.invokespecial 1, 3) := by decide +kernel
theorem aw_M : Cond.methodLink RX8 1 Lib.objectInit ∈ lw_tbl := List.mem_of_getElem? (i := 788) (by decide +kernel)
def opD : List ac_Op := [(0, 9, 98, .inl (.bipush 12, 2, 12, 12, false)), (1, 15, 99, .inl (.bipush 12, 2, 12, 12, false)), (2, 18, 101, .inl (.bipush 12, 2, 12, 12, false)), (3, 21, 102, .inl (.bipush 12, 2, 12, 12, false)), (4, 24, 103, .inl (.bipush 12, 2, 12, 12, false)), (5, 27, 104, .inl (.bipush 108, 2, 108, 108, false)), (6, 30, 105, .inl (.bipush 36, 2, 36, 36, false)), (7, 33, 106, .inl (.bipush 36, 2, 36, 36, false)), (8, 36, 107, .inl (.bipush 36, 2, 36, 36, false)), (9, 39, 108, .inl (.bipush 12, 2, 12, 12, false)), (10, 42, 109, .inl (.bipush 12, 2, 12, 12, false))]
theorem ao_D : ac_ok RX0 cX0_init TX0 12 1 4 opD 92 = true := by decide +kernel
theorem ak_D : kiD.all (fun e => ai_okb mtC RX0 cX0_init none e.1 e.2) = true := by decide +kernel
theorem ad0_D : decode cX0_init 0 = .ok (.aload_n 0, 1) := by decide +kernel
theorem ad1_D : decode cX0_init 1 = .ok (.invokespecial 3, 3) := by decide +kernel
theorem aw_D : Cond.methodLink RX0 3 Lib.objectInit ∈ lw_tbl := List.mem_of_getElem? (i := 97) (by decide +kernel)
theorem ct_D (l : Launch) (D : va_G) (cA : Bool → ClassId) : ac_Met l D cA yX0_init cX0_init 1 0 [.null, .null, .null, .null, .null, .null, .null, .null, .null, .null, .null, .int 0] [] shD gD 11 300 1 0 :=
  ac_made l D cA (T := TX0) (N := 12) (ops := opD) (oix := 3) (pe := 92) (fuel := 300) (fuel2 := 1000) (mt := mtC) (ki := kiD) (mci := mciC) (ml := mlC) (cd := cdC) (d := 0) (by decide +kernel) rfl rfl rfl (Nat.le_of_ble_eq_true rfl) ad0_D ad1_D aw_D ao_D (fun _ _ _ => rfl) rfl ruD ak_D ckC mokC
def opT : List ac_Op := [(1, 9, 148, .inl (.sipush 512, 3, 512, 512, false)), (2, 15, 149, .inl (.sipush 512, 3, 512, 512, false)), (3, 18, 150, .inl (.sipush 512, 3, 512, 512, false)), (4, 21, 151, .inl (.sipush 512, 3, 512, 512, false)), (5, 24, 152, .inl (.sipush 1536, 3, 1536, 1536, false)), (6, 27, 153, .inl (.sipush 512, 3, 512, 512, false)), (7, 30, 154, .inl (.sipush 512, 3, 512, 512, true)), (8, 34, 155, .inl (.sipush 512, 3, 512, 512, true)), (0, 37, 147, .inr (.aload_n 1, 1, 1))]
theorem ao_T : ac_ok RX6 cX6_init TX6 13 2 4 opT 81 = true := by decide +kernel
theorem ak_T : kiT.all (fun e => ai_okb mtC RX6 cX6_init none e.1 e.2) = true := by decide +kernel
theorem ad0_T : decode cX6_init 0 = .ok (.aload_n 0, 1) := by decide +kernel
theorem ad1_T : decode cX6_init 1 = .ok (.invokespecial 3, 3) := by decide +kernel
theorem aw_T : Cond.methodLink RX6 3 Lib.objectInit ∈ lw_tbl := List.mem_of_getElem? (i := 142) (by decide +kernel)
theorem ct_T (l : Launch) (D : va_G) (cA : Bool → ClassId) (q0 : Nat) : ac_Met l D cA yX6_init cX6_init 3 6 [.null, .null, .null, .null, .null, .null, .null, .null, .null, .int 0, .int 0, .int 0, .int 0] [q0] shT gT 8 5120 2 0 :=
  ac_made l D cA (T := TX6) (N := 13) (ops := opT) (oix := 3) (pe := 81) (fuel := 300) (fuel2 := 1000) (mt := mtC) (ki := kiT) (mci := mciC) (ml := mlC) (cd := cdC) (d := 1) (by decide +kernel) rfl rfl rfl (Nat.le_of_ble_eq_true rfl) ad0_T ad1_T aw_T ao_T (fun _ _ _ => rfl) rfl ruT ak_T ckC mokC
def opF : List ac_Op := [(0, 9, 194, .inr (.aload_n 1, 1, 1)), (1, 15, 195, .inr (.aload_n 2, 1, 2))]
theorem ao_F : ac_ok RX1 cX1_init TX1 2 3 4 opF 14 = true := by decide +kernel
theorem ak_F : kiF.all (fun e => ai_okb mtC RX1 cX1_init none e.1 e.2) = true := by decide +kernel
theorem ad0_F : decode cX1_init 0 = .ok (.aload_n 0, 1) := by decide +kernel
theorem ad1_F : decode cX1_init 1 = .ok (.invokespecial 3, 3) := by decide +kernel
theorem aw_F : Cond.methodLink RX1 3 Lib.objectInit ∈ lw_tbl := List.mem_of_getElem? (i := 193) (by decide +kernel)
theorem ruF : ab_e shF mciC (ab_ec shF mciC mlC cdC 300 0) (ai_lu kiF) 1000 14 (ab_ent 3 [.inl 0, .inl 1, .inl 2]) [] [] = some (none, []) := by decide +kernel
theorem ct_F (l : Launch) (D : va_G) (cA : Bool → ClassId) (q0 q1 : Nat) : ac_Met l D cA yX1_init cX1_init 3 1 [.null, .null] [q0, q1] shF [] 0 0 1 0 :=
  ac_made l D cA (T := TX1) (N := 2) (ops := opF) (oix := 3) (pe := 14) (fuel := 300) (fuel2 := 1000) (mt := mtC) (ki := kiF) (mci := mciC) (ml := mlC) (cd := cdC) (d := 0) (by decide +kernel) rfl rfl rfl (Nat.le_of_ble_eq_true rfl) ad0_F ad1_F aw_F ao_F (fun _ _ _ => rfl) rfl ruF ak_F ckC mokC
def opO : List ac_Op := [(0, 9, 207, .inr (.aload_n 1, 1, 1)), (1, 15, 208, .inr (.aload_n 2, 1, 2)), (2, 19, 209, .inr (.aload_n 3, 1, 3))]
theorem ao_O : ac_ok RX2 cX2_init TX2 3 4 4 opO 19 = true := by decide +kernel
theorem ak_O : kiO.all (fun e => ai_okb mtC RX2 cX2_init none e.1 e.2) = true := by decide +kernel
theorem ad0_O : decode cX2_init 0 = .ok (.aload_n 0, 1) := by decide +kernel
theorem ad1_O : decode cX2_init 1 = .ok (.invokespecial 3, 3) := by decide +kernel
theorem aw_O : Cond.methodLink RX2 3 Lib.objectInit ∈ lw_tbl := List.mem_of_getElem? (i := 206) (by decide +kernel)
theorem ruO : ab_e shO mciC (ab_ec shO mciC mlC cdC 300 0) (ai_lu kiO) 1000 19 (ab_ent 4 [.inl 0, .inl 1, .inl 2, .inl 3]) [] [] = some (none, []) := by decide +kernel
theorem ct_O (l : Launch) (D : va_G) (cA : Bool → ClassId) (q0 q1 q2 : Nat) : ac_Met l D cA yX2_init cX2_init 4 2 [.null, .null, .null] [q0, q1, q2] shO [] 0 0 1 0 :=
  ac_made l D cA (T := TX2) (N := 3) (ops := opO) (oix := 3) (pe := 19) (fuel := 300) (fuel2 := 1000) (mt := mtC) (ki := kiO) (mci := mciC) (ml := mlC) (cd := cdC) (d := 0) (by decide +kernel) rfl rfl rfl (Nat.le_of_ble_eq_true rfl) ad0_O ad1_O aw_O ao_O (fun _ _ _ => rfl) rfl ruO ak_O ckC mokC
def opU : List ac_Op := [(0, 9, 223, .inr (.aload_n 1, 1, 1)), (1, 15, 224, .inr (.aload_n 2, 1, 2)), (2, 19, 225, .inr (.aload_n 3, 1, 3)), (3, 23, 226, .inr (.aload 4, 2, 4))]
theorem ao_U : ac_ok RX5 cX5_init TX5 4 5 4 opU 25 = true := by decide +kernel
theorem ak_U : kiU.all (fun e => ai_okb mtC RX5 cX5_init none e.1 e.2) = true := by decide +kernel
theorem ad0_U : decode cX5_init 0 = .ok (.aload_n 0, 1) := by decide +kernel
theorem ad1_U : decode cX5_init 1 = .ok (.invokespecial 3, 3) := by decide +kernel
theorem aw_U : Cond.methodLink RX5 3 Lib.objectInit ∈ lw_tbl := List.mem_of_getElem? (i := 222) (by decide +kernel)
theorem ruU : ab_e shU mciC (ab_ec shU mciC mlC cdC 300 0) (ai_lu kiU) 1000 25 (ab_ent 5 [.inl 0, .inl 1, .inl 2, .inl 3, .inl 4]) [] [] = some (none, []) := by decide +kernel
theorem ct_U (l : Launch) (D : va_G) (cA : Bool → ClassId) (q0 q1 q2 q3 : Nat) : ac_Met l D cA yX5_init cX5_init 5 5 [.null, .null, .null, .null] [q0, q1, q2, q3] shU [] 0 0 1 0 :=
  ac_made l D cA (T := TX5) (N := 4) (ops := opU) (oix := 3) (pe := 25) (fuel := 300) (fuel2 := 1000) (mt := mtC) (ki := kiU) (mci := mciC) (ml := mlC) (cd := cdC) (d := 0) (by decide +kernel) rfl rfl rfl (Nat.le_of_ble_eq_true rfl) ad0_U ad1_U aw_U ao_U (fun _ _ _ => rfl) rfl ruU ak_U ckC mokC
def opE : List ac_Op := [(3, 9, 245, .inl (.bipush 100, 2, 100, 100, false)), (0, 15, 242, .inr (.aload_n 1, 1, 1)), (1, 19, 243, .inr (.aload_n 2, 1, 2)), (2, 23, 244, .inr (.aload_n 3, 1, 3))]
theorem ao_E : ac_ok RX4 cX4_init TX4 7 4 4 opE 27 = true := by decide +kernel
theorem ak_E : kiE.all (fun e => ai_okb mtC RX4 cX4_init none e.1 e.2) = true := by decide +kernel
theorem ad0_E : decode cX4_init 0 = .ok (.aload_n 0, 1) := by decide +kernel
theorem ad1_E : decode cX4_init 1 = .ok (.invokespecial 3, 3) := by decide +kernel
theorem aw_E : Cond.methodLink RX4 3 Lib.objectInit ∈ lw_tbl := List.mem_of_getElem? (i := 241) (by decide +kernel)
theorem ruE : ab_e shE mciC (ab_ec shE mciC mlC cdC 300 0) (ai_lu kiE) 1000 27 (ab_ent 4 [.inl 0, .inl 2, .inl 3, .inl 4]) [] [] = some (none, []) := by decide +kernel
theorem ct_E (l : Launch) (D : va_G) (cA : Bool → ClassId) (q0 q1 q2 : Nat) : ac_Met l D cA yX4_init cX4_init 4 4 [.null, .null, .null, .null, .int 0, .int 0, .int 0] [q0, q1, q2] shE [] 1 100 1 0 :=
  ac_made l D cA (T := TX4) (N := 7) (ops := opE) (oix := 3) (pe := 27) (fuel := 300) (fuel2 := 1000) (mt := mtC) (ki := kiE) (mci := mciC) (ml := mlC) (cd := cdC) (d := 0) (by decide +kernel) rfl rfl rfl (Nat.le_of_ble_eq_true rfl) ad0_E ad1_E aw_E ao_E (fun _ _ _ => rfl) rfl ruE ak_E ckC mokC
def opP : List ac_Op := [(1, 9, 271, .inl (.sipush 200, 3, 200, 200, false)), (2, 15, 272, .inl (.sipush 200, 3, 200, 200, false)), (0, 18, 270, .inr (.aload_n 1, 1, 1))]
theorem ao_P : ac_ok RX3 cX3_init TX3 5 2 4 opP 27 = true := by decide +kernel
theorem ak_P : kiP.all (fun e => ai_okb mtC RX3 cX3_init none e.1 e.2) = true := by decide +kernel
theorem ad0_P : decode cX3_init 0 = .ok (.aload_n 0, 1) := by decide +kernel
theorem ad1_P : decode cX3_init 1 = .ok (.invokespecial 3, 3) := by decide +kernel
theorem aw_P : Cond.methodLink RX3 3 Lib.objectInit ∈ lw_tbl := List.mem_of_getElem? (i := 269) (by decide +kernel)
theorem ruP : ab_e shP mciC (ab_ec shP mciC mlC cdC 300 0) (ai_lu kiP) 1000 27 (ab_ent 2 [.inl 0, .inl 3]) [] [] = some (none, []) := by decide +kernel
theorem ct_P (l : Launch) (D : va_G) (cA : Bool → ClassId) (q0 : Nat) : ac_Met l D cA yX3_init cX3_init 2 3 [.null, .null, .null, .int 0, .int 0] [q0] shP [] 2 400 1 0 :=
  ac_made l D cA (T := TX3) (N := 5) (ops := opP) (oix := 3) (pe := 27) (fuel := 300) (fuel2 := 1000) (mt := mtC) (ki := kiP) (mci := mciC) (ml := mlC) (cd := cdC) (d := 0) (by decide +kernel) rfl rfl rfl (Nat.le_of_ble_eq_true rfl) ad0_P ad1_P aw_P ao_P (fun _ _ _ => rfl) rfl ruP ak_P ckC mokC
end
section
/-- a field while it is made: null, a number 0, a cell -/
def ac_tau (ad : Nat → Nat) : Option (Option Nat) → Value
  | none => .null
  | some none => .int 0
  | some (some q) => .ref (ad q)
def ac_sy (nA : Nat) : List (Option (Option Nat)) → List ac_Op → Nat → List (Option (Option Nat))
  | fs, (k, _, _, .inl _) :: ops, i => ac_sy nA (fs.set k (some (some (i + 1)))) ops (i + 1)
  | fs, (k, _, _, .inr (_, _, j)) :: ops, i => ac_sy nA (fs.set k (some (some (if j = 0 then 0 else nA + j)))) ops i
  | fs, [], _ => fs
def ac_arS : List ac_Op → List (Bool × Nat)
  | [] => []
  | (_, _, _, .inl (_, _, _, N, z)) :: ops => (z, N) :: ac_arS ops
  | (_, _, _, .inr _) :: ops => ac_arS ops
theorem ac_sy_ok {nA h0 : Nat} {f r : Nat → Nat} : ∀ (ops : List ac_Op) (fs : List (Option (Option Nat))) (i : Nat), i + ac_n ops = nA → ac_fs (ac_rr h0 r) (fs.map (ac_tau (ac_ad nA h0 f r))) ops ((List.range' i (ac_n ops)).map f) = (ac_sy nA fs ops i).map (ac_tau (ac_ad nA h0 f r))
  | [], fs, i, h => by simp [ac_fs, ac_sy]
  | (k, ix, w, .inl o) :: ops, fs, i, h => by
    have h1 : i + 1 + ac_n ops = nA := by simp only [ac_n] at h; omega
    have ih := ac_sy_ok (f := f) (r := r) (h0 := h0) ops (fs.set k (some (some (i + 1)))) (i + 1) h1
    have e1 : ac_n ((k, ix, w, .inl o) :: ops) = ac_n ops + 1 := rfl
    rw [e1, List.range'_succ, List.map_cons]
    simp only [ac_fs, ac_sy]
    rw [← ih, List.map_set]
    congr 2
    show Value.ref (f i) = Value.ref (if i < nA then f i else r (i - nA))
    rw [if_pos (by omega)]
  | (k, ix, w, .inr (i0, len, j)) :: ops, fs, i, h => by
    have ih := ac_sy_ok (f := f) (r := r) (h0 := h0) ops (fs.set k (some (some (if j = 0 then 0 else nA + j)))) i h
    have e1 : ac_n ((k, ix, w, .inr (i0, len, j)) :: ops) = ac_n ops := rfl
    rw [e1]
    simp only [ac_fs, ac_sy]
    rw [← ih, List.map_set]
    congr 2
    cases j with
    | zero => rfl
    | succ j =>
      rw [if_neg (Nat.succ_ne_zero j)]
      show Value.ref (r j) = Value.ref (if nA + j < nA then f (nA + j) else r (nA + j - nA))
      rw [if_neg (by omega), Nat.add_sub_cancel_left]
theorem ac_ar_ok {cA : Bool → ClassId} {f : Nat → Nat} : ∀ (ops : List ac_Op) (i : Nat), ac_ar cA ops ((List.range' i (ac_n ops)).map f) = (ac_arS ops).mapIdx (fun t x => (f (i + t), .inl (cA x.1, x.2, .inl (fun _ => 0))))
  | [], i => by simp [ac_ar, ac_arS]
  | (k, ix, w, .inl (i0, len, n, N, z)) :: ops, i => by
    have ih := ac_ar_ok (cA := cA) (f := f) ops (i + 1)
    have e1 : ac_n ((k, ix, w, .inl (i0, len, n, N, z)) :: ops) = ac_n ops + 1 := rfl
    rw [e1, List.range'_succ, List.map_cons]
    simp only [ac_ar, ac_arS, List.mapIdx_cons]
    rw [ih]
    congr 2
    funext t x
    rw [show i + 1 + t = i + (t + 1) by omega]
  | (k, ix, w, .inr o) :: ops, i => by
    have ih := ac_ar_ok (cA := cA) (f := f) ops i
    have e1 : ac_n ((k, ix, w, .inr o) :: ops) = ac_n ops := rfl
    rw [e1]
    simp only [ac_ar, ac_arS]
    exact ih
theorem ac_she {cA : Bool → ClassId} {ci : Nat} {df : List Value} {dS : List (Option (Option Nat))} {ops : List ac_Op} {sh : ai_Sh} {shf : List (Option Nat)} (hdf : ∀ ad, dS.map (ac_tau ad) = df) (h1 : ac_sy (ac_n ops) dS ops 0 = shf.map some) (h2 : sh = .inr (ci, shf) :: (ac_arS ops).map .inl) (h0 : Nat) (f r : Nat → Nat) :
    (((h0, .inr (ci, ac_fs (ac_rr h0 r) df ops ((List.range (ac_n ops)).map f))) :: ac_ar cA ops ((List.range (ac_n ops)).map f)) : va_W) = ai_ws cA (ac_ad (ac_n ops) h0 f r) sh (fun _ _ => 0) := by
  rw [List.range_eq_range', ac_ar_ok, ← hdf (ac_ad (ac_n ops) h0 f r), ac_sy_ok ops dS 0 (Nat.zero_add _), h1, h2]
  unfold ai_ws
  rw [List.mapIdx_cons]
  congr 1
  · show (h0, (.inr (ci, _) : va_E)) = (ac_ad (ac_n ops) h0 f r 0, .inr (ci, _))
    congr 3
    apply List.ext_getElem?
    intro i
    rw [List.getElem?_map, List.getElem?_map, List.getElem?_mapIdx]
    cases shf[i]? with
    | none => rfl
    | some o => cases o <;> rfl
  · apply List.ext_getElem?
    intro i
    rw [List.getElem?_mapIdx, List.getElem?_mapIdx, List.getElem?_map]
    cases hz : (ac_arS ops)[i]? with
    | none => rfl
    | some o =>
      obtain ⟨z, N⟩ := o
      have hi : i < ac_n ops := by
        have h3 : i < (ac_arS ops).length := (List.getElem?_eq_some_iff.mp hz).1
        have h4 : ∀ ops : List ac_Op, (ac_arS ops).length = ac_n ops := by
          intro ops
          induction ops with
          | nil => rfl
          | cons o ops ih =>
            obtain ⟨k, ix, w, o⟩ := o
            cases o with
            | inl o => obtain ⟨i0, len, n, N, z⟩ := o; simp only [ac_arS, ac_n, List.length_cons, ih]
            | inr o => simp only [ac_arS, ac_n, ih]
        rw [h4] at h3
        exact h3
      show some (f (0 + i), (.inl (cA z, N, .inl (fun _ => 0)) : va_E)) = some (ac_ad (ac_n ops) h0 f r (i + 1), .inl (cA z, N, .inl (fun _ => 0)))
      rw [show ac_ad (ac_n ops) h0 f r (i + 1) = if i < ac_n ops then f i else r (i - ac_n ops) from rfl, if_pos hi, Nat.zero_add]
def dfM : List Value := [.int 0, .int 0, .null, .null, .null, .null, .null, .null, .null, .null, .null, .null, .null, .int 0, .null, .null, .null, .null, .null, .null, .null, .int 0, .null, .null, .int 0, .null, .null, .int 0, .null, .int 0, .null, .null, .int 0, .int 0, .null, .null, .null, .null, .null, .null, .int 0, .null, .null, .null, .null, .null, .null, .null, .null, .int 0, .int 0, .int 0, .int 0, .null, .int 0, .int 0]
def dsM : List (Option (Option Nat)) := [some none, some none, none, none, none, none, none, none, none, none, none, none, none, some none, none, none, none, none, none, none, none, some none, none, none, some none, none, none, some none, none, some none, none, none, some none, some none, none, none, none, none, none, none, some none, none, none, none, none, none, none, none, none, some none, some none, some none, some none, none, some none, some none]
def sfM : List (Option Nat) := [none, none, some 1, some 2, some 3, some 4, some 5, some 6, some 7, some 8, some 9, some 10, some 11, none, some 12, some 13, some 14, some 15, some 16, some 17, some 18, none, some 19, some 20, none, some 21, some 22, none, some 23, none, some 24, some 25, none, none, some 26, some 27, some 28, some 29, some 30, some 31, none, some 32, some 33, some 34, some 35, some 36, some 37, some 38, some 39, none, none, none, none, some 40, none, none]
theorem sh1_M : ac_sy (ac_n opM) dsM opM 0 = sfM.map some := by decide +kernel
theorem sh2_M : shM = .inr (8, sfM) :: (ac_arS opM).map .inl := by decide +kernel
theorem sh3_M (ad : Nat → Nat) : dsM.map (ac_tau ad) = dfM := rfl
theorem sh4_M : dfM.length = 56 ∧ ac_n opM = 40 ∧ ac_sum opM = 96686 ∧ shM.length = ac_n opM + 1 := by decide +kernel
theorem ct_M (l : Launch) (D : va_G) (cA : Bool → ClassId) : ac_Met l D cA yX8_init cX8_init 2 8 dfM [] shM gM 40 96686 1 0 := by
  have h := ac_made l D cA (y := yX8_init) (bs := cX8_init) (nL := 2) (ci := 8) (T := TX8) (N := 56) (df := dfM) (rs := []) (sh := shM) (ops := opM) (g := gM) (oix := 1) (pe := 337) (fuel := 300) (fuel2 := 1000) (mt := mtM) (ki := kiM) (mci := mciM) (ml := mlM) (cd := cdM) (d := 0) (by decide +kernel) rfl rfl sh4_M.1 (Nat.le_of_ble_eq_true rfl) ad0_M ad1_M aw_M ao_M (ac_she sh3_M sh1_M sh2_M) sh4_M.2.2.2 ruM ak_M ckM mokM
  rw [sh4_M.2.1, sh4_M.2.2.1] at h
  exact h
end
section
/-! the constructor of the class itself -/
theorem ws_D {cA : Bool → ClassId} {ad : Nat → Nat} {x : ai_H} : ai_ws cA ad shD x = [(ad 0, .inr (0, [.ref (ad 1), .ref (ad 2), .ref (ad 3), .ref (ad 4), .ref (ad 5), .ref (ad 6), .ref (ad 7), .ref (ad 8), .ref (ad 9), .ref (ad 10), .ref (ad 11), .int (x 0 11)])), (ad 1, .inl (cA false, 12, .inl (x 1))), (ad 2, .inl (cA false, 12, .inl (x 2))), (ad 3, .inl (cA false, 12, .inl (x 3))), (ad 4, .inl (cA false, 12, .inl (x 4))), (ad 5, .inl (cA false, 12, .inl (x 5))), (ad 6, .inl (cA false, 108, .inl (x 6))), (ad 7, .inl (cA false, 36, .inl (x 7))), (ad 8, .inl (cA false, 36, .inl (x 8))), (ad 9, .inl (cA false, 36, .inl (x 9))), (ad 10, .inl (cA false, 12, .inl (x 10))), (ad 11, .inl (cA false, 12, .inl (x 11)))] := rfl
theorem ws_T {cA : Bool → ClassId} {ad : Nat → Nat} {x : ai_H} : ai_ws cA ad shT x = [(ad 0, .inr (6, [.ref (ad 9), .ref (ad 1), .ref (ad 2), .ref (ad 3), .ref (ad 4), .ref (ad 5), .ref (ad 6), .ref (ad 7), .ref (ad 8), .int (x 0 9), .int (x 0 10), .int (x 0 11), .int (x 0 12)])), (ad 1, .inl (cA false, 512, .inl (x 1))), (ad 2, .inl (cA false, 512, .inl (x 2))), (ad 3, .inl (cA false, 512, .inl (x 3))), (ad 4, .inl (cA false, 512, .inl (x 4))), (ad 5, .inl (cA false, 1536, .inl (x 5))), (ad 6, .inl (cA false, 512, .inl (x 6))), (ad 7, .inl (cA true, 512, .inl (x 7))), (ad 8, .inl (cA true, 512, .inl (x 8)))] := rfl
theorem ws_F {cA : Bool → ClassId} {ad : Nat → Nat} {x : ai_H} : ai_ws cA ad shF x = [(ad 0, .inr (1, [.ref (ad 1), .ref (ad 2)]))] := rfl
theorem ws_O {cA : Bool → ClassId} {ad : Nat → Nat} {x : ai_H} : ai_ws cA ad shO x = [(ad 0, .inr (2, [.ref (ad 1), .ref (ad 2), .ref (ad 3)]))] := rfl
theorem ws_U {cA : Bool → ClassId} {ad : Nat → Nat} {x : ai_H} : ai_ws cA ad shU x = [(ad 0, .inr (5, [.ref (ad 1), .ref (ad 2), .ref (ad 3), .ref (ad 4)]))] := rfl
theorem ws_E {cA : Bool → ClassId} {ad : Nat → Nat} {x : ai_H} : ai_ws cA ad shE x = [(ad 0, .inr (4, [.ref (ad 2), .ref (ad 3), .ref (ad 4), .ref (ad 1), .int (x 0 4), .int (x 0 5), .int (x 0 6)])), (ad 1, .inl (cA false, 100, .inl (x 1)))] := rfl
theorem ws_P {cA : Bool → ClassId} {ad : Nat → Nat} {x : ai_H} : ai_ws cA ad shP x = [(ad 0, .inr (3, [.ref (ad 3), .ref (ad 1), .ref (ad 2), .int (x 0 3), .int (x 0 4)])), (ad 1, .inl (cA false, 200, .inl (x 1))), (ad 2, .inl (cA false, 200, .inl (x 2)))] := rfl
theorem ab_g_none : ∀ (G : ab_G) (k j : Nat), (∀ e ∈ G, e.1 ≠ k) → ab_g G k j = (2147483648, 2147483648)
  | [], _, _, _ => rfl
  | (a, i, lo, hi) :: G, k, j, h => by
    have h1 : a ≠ k := h (a, i, lo, hi) List.mem_cons_self
    have h2 : Nat.beq a k = false := by
      cases hb : Nat.beq a k with
      | false => rfl
      | true => exact absurd (Nat.eq_of_beq_eq_true hb) h1
    show (bif Nat.beq a k && Nat.beq i j then (lo, hi) else ab_g G k j) = _
    rw [h2]
    exact ab_g_none G k j (fun e he => h e (List.mem_cons_of_mem _ he))
theorem ab_g_lo {n : Nat} : ∀ (G2 G1 : ab_G) (k j : Nat), k < n → ab_g (G2.map (fun e => (e.1 + n, e.2)) ++ G1) k j = ab_g G1 k j
  | [], _, _, _, _ => rfl
  | (a, i, lo, hi) :: G2, G1, k, j, h => by
    have h2 : Nat.beq (a + n) k = false := by
      cases hb : Nat.beq (a + n) k with
      | false => rfl
      | true => exact absurd (Nat.eq_of_beq_eq_true hb) (by omega)
    show (bif Nat.beq (a + n) k && Nat.beq i j then (lo, hi) else ab_g (G2.map (fun e => (e.1 + n, e.2)) ++ G1) k j) = _
    rw [h2]
    exact ab_g_lo G2 G1 k j h
theorem ab_g_hi {n : Nat} : ∀ (G2 G1 : ab_G) (k j : Nat), (∀ e ∈ G1, e.1 < n) → ab_g (G2.map (fun e => (e.1 + n, e.2)) ++ G1) (k + n) j = ab_g G2 k j
  | [], G1, k, j, h => ab_g_none G1 (k + n) j (fun e he z => by have := h e he; omega)
  | (a, i, lo, hi) :: G2, G1, k, j, h => by
    show (bif Nat.beq (a + n) (k + n) && Nat.beq i j then (lo, hi) else ab_g (G2.map (fun e => (e.1 + n, e.2)) ++ G1) (k + n) j) = (bif Nat.beq a k && Nat.beq i j then (lo, hi) else ab_g G2 k j)
    have h2 : Nat.beq (a + n) (k + n) = Nat.beq a k := by
      cases hb : Nat.beq a k with
      | false =>
        cases hc : Nat.beq (a + n) (k + n) with
        | false => rfl
        | true =>
          have := Nat.eq_of_beq_eq_true hc
          have e : a = k := by omega
          subst e
          rw [Nat.beq_refl] at hb
          cases hb
      | true =>
        have := Nat.eq_of_beq_eq_true hb
        subst this
        exact Nat.beq_refl _
    rw [h2, ab_g_hi G2 G1 k j h]
def ab_jn (n : Nat) (h1 h2 : ai_H) : ai_H := fun k => if k < n then h1 k else h2 (k - n)
theorem ab_h_jn {n : Nat} {G1 G2 : ab_G} {h1 h2 : ai_H} (a : ab_h G1 h1) (b : ab_h G2 h2) (c : G1.all (fun e => Nat.ble (e.1 + 1) n) = true) : ab_h (G2.map (fun e => (e.1 + n, e.2)) ++ G1) (ab_jn n h1 h2) := by
  have hc : ∀ e ∈ G1, e.1 < n := fun e he => Nat.le_of_ble_eq_true (List.all_eq_true.mp c e he)
  intro k j
  by_cases hk : k < n
  · rw [ab_g_lo G2 G1 k j hk]
    show ab_in _ ((if k < n then h1 k else h2 (k - n)) j)
    rw [if_pos hk]
    exact a k j
  · obtain ⟨k', rfl⟩ : ∃ k', k = k' + n := ⟨k - n, by omega⟩
    rw [ab_g_hi G2 G1 k' j hc]
    show ab_in _ ((if k' + n < n then h1 (k' + n) else h2 (k' + n - n)) j)
    rw [if_neg hk, Nat.add_sub_cancel]
    exact b k' j
theorem dC_0 : decode cX7_init 0 = .ok (.aload_n 0, 1) := by decide +kernel
theorem dC_1 : decode cX7_init 1 = .ok (.invokespecial 1, 3) := by decide +kernel
theorem dC_4 : decode cX7_init 4 = .ok (.aload_n 0, 1) := by decide +kernel
theorem dC_5 : decode cX7_init 5 = .ok (.new 7, 3) := by decide +kernel
theorem dC_8 : decode cX7_init 8 = .ok (.dup, 1) := by decide +kernel
theorem dC_9 : decode cX7_init 9 = .ok (.invokespecial 9, 3) := by decide +kernel
theorem dC_12 : decode cX7_init 12 = .ok (.putfield 10, 3) := by decide +kernel
theorem dC_15 : decode cX7_init 15 = .ok (.aload_n 0, 1) := by decide +kernel
theorem dC_16 : decode cX7_init 16 = .ok (.new 16, 3) := by decide +kernel
theorem dC_19 : decode cX7_init 19 = .ok (.dup, 1) := by decide +kernel
theorem dC_20 : decode cX7_init 20 = .ok (.aload_n 0, 1) := by decide +kernel
theorem dC_21 : decode cX7_init 21 = .ok (.getfield 10, 3) := by decide +kernel
theorem dC_24 : decode cX7_init 24 = .ok (.invokespecial 18, 3) := by decide +kernel
theorem dC_27 : decode cX7_init 27 = .ok (.putfield 21, 3) := by decide +kernel
theorem dC_30 : decode cX7_init 30 = .ok (.aload_n 0, 1) := by decide +kernel
theorem dC_31 : decode cX7_init 31 = .ok (.new 25, 3) := by decide +kernel
theorem dC_34 : decode cX7_init 34 = .ok (.dup, 1) := by decide +kernel
theorem dC_35 : decode cX7_init 35 = .ok (.aload_n 0, 1) := by decide +kernel
theorem dC_36 : decode cX7_init 36 = .ok (.getfield 10, 3) := by decide +kernel
theorem dC_39 : decode cX7_init 39 = .ok (.aload_n 0, 1) := by decide +kernel
theorem dC_40 : decode cX7_init 40 = .ok (.getfield 21, 3) := by decide +kernel
theorem dC_43 : decode cX7_init 43 = .ok (.invokespecial 27, 3) := by decide +kernel
theorem dC_46 : decode cX7_init 46 = .ok (.putfield 30, 3) := by decide +kernel
theorem dC_49 : decode cX7_init 49 = .ok (.aload_n 0, 1) := by decide +kernel
theorem dC_50 : decode cX7_init 50 = .ok (.new 34, 3) := by decide +kernel
theorem dC_53 : decode cX7_init 53 = .ok (.dup, 1) := by decide +kernel
theorem dC_54 : decode cX7_init 54 = .ok (.aload_n 0, 1) := by decide +kernel
theorem dC_55 : decode cX7_init 55 = .ok (.getfield 10, 3) := by decide +kernel
theorem dC_58 : decode cX7_init 58 = .ok (.aload_n 0, 1) := by decide +kernel
theorem dC_59 : decode cX7_init 59 = .ok (.getfield 21, 3) := by decide +kernel
theorem dC_62 : decode cX7_init 62 = .ok (.aload_n 0, 1) := by decide +kernel
theorem dC_63 : decode cX7_init 63 = .ok (.getfield 30, 3) := by decide +kernel
theorem dC_66 : decode cX7_init 66 = .ok (.invokespecial 36, 3) := by decide +kernel
theorem dC_69 : decode cX7_init 69 = .ok (.putfield 39, 3) := by decide +kernel
theorem dC_72 : decode cX7_init 72 = .ok (.aload_n 0, 1) := by decide +kernel
theorem dC_73 : decode cX7_init 73 = .ok (.new 43, 3) := by decide +kernel
theorem dC_76 : decode cX7_init 76 = .ok (.dup, 1) := by decide +kernel
theorem dC_77 : decode cX7_init 77 = .ok (.aload_n 0, 1) := by decide +kernel
theorem dC_78 : decode cX7_init 78 = .ok (.getfield 10, 3) := by decide +kernel
theorem dC_81 : decode cX7_init 81 = .ok (.aload_n 0, 1) := by decide +kernel
theorem dC_82 : decode cX7_init 82 = .ok (.getfield 21, 3) := by decide +kernel
theorem dC_85 : decode cX7_init 85 = .ok (.aload_n 0, 1) := by decide +kernel
theorem dC_86 : decode cX7_init 86 = .ok (.getfield 30, 3) := by decide +kernel
theorem dC_89 : decode cX7_init 89 = .ok (.aload_n 0, 1) := by decide +kernel
theorem dC_90 : decode cX7_init 90 = .ok (.getfield 39, 3) := by decide +kernel
theorem dC_93 : decode cX7_init 93 = .ok (.invokespecial 45, 3) := by decide +kernel
theorem dC_96 : decode cX7_init 96 = .ok (.putfield 48, 3) := by decide +kernel
theorem dC_99 : decode cX7_init 99 = .ok (.aload_n 0, 1) := by decide +kernel
theorem dC_100 : decode cX7_init 100 = .ok (.new 52, 3) := by decide +kernel
theorem dC_103 : decode cX7_init 103 = .ok (.dup, 1) := by decide +kernel
theorem dC_104 : decode cX7_init 104 = .ok (.aload_n 0, 1) := by decide +kernel
theorem dC_105 : decode cX7_init 105 = .ok (.getfield 10, 3) := by decide +kernel
theorem dC_108 : decode cX7_init 108 = .ok (.aload_n 0, 1) := by decide +kernel
theorem dC_109 : decode cX7_init 109 = .ok (.getfield 21, 3) := by decide +kernel
theorem dC_112 : decode cX7_init 112 = .ok (.aload_n 0, 1) := by decide +kernel
theorem dC_113 : decode cX7_init 113 = .ok (.getfield 48, 3) := by decide +kernel
theorem dC_116 : decode cX7_init 116 = .ok (.invokespecial 54, 3) := by decide +kernel
theorem dC_119 : decode cX7_init 119 = .ok (.putfield 57, 3) := by decide +kernel
theorem dC_122 : decode cX7_init 122 = .ok (.aload_n 0, 1) := by decide +kernel
theorem dC_123 : decode cX7_init 123 = .ok (.new 61, 3) := by decide +kernel
theorem dC_126 : decode cX7_init 126 = .ok (.dup, 1) := by decide +kernel
theorem dC_127 : decode cX7_init 127 = .ok (.aload_n 0, 1) := by decide +kernel
theorem dC_128 : decode cX7_init 128 = .ok (.getfield 21, 3) := by decide +kernel
theorem dC_131 : decode cX7_init 131 = .ok (.invokespecial 63, 3) := by decide +kernel
theorem dC_134 : decode cX7_init 134 = .ok (.putfield 66, 3) := by decide +kernel
theorem dC_137 : decode cX7_init 137 = .ok (.aload_n 0, 1) := by decide +kernel
theorem dC_138 : decode cX7_init 138 = .ok (.iconst 3, 1) := by decide +kernel
theorem dC_139 : decode cX7_init 139 = .ok (.newarray .int, 2) := by decide +kernel
theorem dC_141 : decode cX7_init 141 = .ok (.putfield 70, 3) := by decide +kernel
theorem dd_D : ∀ j, j < 12 → (parseFieldDescriptor (TX0 j).2.2.1).map defaultValue = some (vp_V [.null, .null, .null, .null, .null, .null, .null, .null, .null, .null, .null, .int 0] j) := by decide +kernel
theorem wl_D : Cond.classLink RX7 7 RX0 ∈ lw_tbl ∧ Cond.instantiable RX0 12 ∈ lw_tbl ∧ Cond.initialized RX0 ∈ lw_tbl := ⟨List.mem_of_getElem? (i := 92) (by decide +kernel), List.mem_of_getElem? (i := 93) (by decide +kernel), List.mem_of_getElem? (i := 74) (by decide +kernel)⟩
theorem wm_D : Cond.methodLink RX7 9 yX0_init ∈ lw_tbl ∧ Cond.instanceMethod yX0_init ∈ lw_tbl ∧ Cond.code yX0_init cX0_init 1 none ∈ lw_tbl := ⟨List.mem_of_getElem? (i := 94) (by decide +kernel), List.mem_of_getElem? (i := 95) (by decide +kernel), List.mem_of_getElem? (i := 96) (by decide +kernel)⟩
theorem wy_D : yX0_init.cls ≠ "java/lang/invoke/MethodHandle" ∧ yX0_init.cls ≠ "java/lang/invoke/VarHandle" ∧ (parseMethodDescriptor yX0_init.desc).map (fun d => d.parameters.length) = some 0 := by decide +kernel
theorem dd_T : ∀ j, j < 13 → (parseFieldDescriptor (TX6 j).2.2.1).map defaultValue = some (vp_V [.null, .null, .null, .null, .null, .null, .null, .null, .null, .int 0, .int 0, .int 0, .int 0] j) := by decide +kernel
theorem wl_T : Cond.classLink RX7 16 RX6 ∈ lw_tbl ∧ Cond.instantiable RX6 13 ∈ lw_tbl ∧ Cond.initialized RX6 ∈ lw_tbl := ⟨List.mem_of_getElem? (i := 137) (by decide +kernel), List.mem_of_getElem? (i := 138) (by decide +kernel), List.mem_of_getElem? (i := 75) (by decide +kernel)⟩
theorem wm_T : Cond.methodLink RX7 18 yX6_init ∈ lw_tbl ∧ Cond.instanceMethod yX6_init ∈ lw_tbl ∧ Cond.code yX6_init cX6_init 3 none ∈ lw_tbl := ⟨List.mem_of_getElem? (i := 139) (by decide +kernel), List.mem_of_getElem? (i := 140) (by decide +kernel), List.mem_of_getElem? (i := 141) (by decide +kernel)⟩
theorem wy_T : yX6_init.cls ≠ "java/lang/invoke/MethodHandle" ∧ yX6_init.cls ≠ "java/lang/invoke/VarHandle" ∧ (parseMethodDescriptor yX6_init.desc).map (fun d => d.parameters.length) = some 1 := by decide +kernel
theorem gk_T : ac_gok RX7 cX7_init TX7 9 20 [(0, 10, 286)] = true := by decide +kernel
theorem dd_F : ∀ j, j < 2 → (parseFieldDescriptor (TX1 j).2.2.1).map defaultValue = some (vp_V [.null, .null] j) := by decide +kernel
theorem wl_F : Cond.classLink RX7 25 RX1 ∈ lw_tbl ∧ Cond.instantiable RX1 2 ∈ lw_tbl ∧ Cond.initialized RX1 ∈ lw_tbl := ⟨List.mem_of_getElem? (i := 188) (by decide +kernel), List.mem_of_getElem? (i := 189) (by decide +kernel), List.mem_of_getElem? (i := 76) (by decide +kernel)⟩
theorem wm_F : Cond.methodLink RX7 27 yX1_init ∈ lw_tbl ∧ Cond.instanceMethod yX1_init ∈ lw_tbl ∧ Cond.code yX1_init cX1_init 3 none ∈ lw_tbl := ⟨List.mem_of_getElem? (i := 190) (by decide +kernel), List.mem_of_getElem? (i := 191) (by decide +kernel), List.mem_of_getElem? (i := 192) (by decide +kernel)⟩
theorem wy_F : yX1_init.cls ≠ "java/lang/invoke/MethodHandle" ∧ yX1_init.cls ≠ "java/lang/invoke/VarHandle" ∧ (parseMethodDescriptor yX1_init.desc).map (fun d => d.parameters.length) = some 2 := by decide +kernel
theorem gk_F : ac_gok RX7 cX7_init TX7 9 35 [(0, 10, 286), (1, 21, 287)] = true := by decide +kernel
theorem dd_O : ∀ j, j < 3 → (parseFieldDescriptor (TX2 j).2.2.1).map defaultValue = some (vp_V [.null, .null, .null] j) := by decide +kernel
theorem wl_O : Cond.classLink RX7 34 RX2 ∈ lw_tbl ∧ Cond.instantiable RX2 3 ∈ lw_tbl ∧ Cond.initialized RX2 ∈ lw_tbl := ⟨List.mem_of_getElem? (i := 201) (by decide +kernel), List.mem_of_getElem? (i := 202) (by decide +kernel), List.mem_of_getElem? (i := 77) (by decide +kernel)⟩
theorem wm_O : Cond.methodLink RX7 36 yX2_init ∈ lw_tbl ∧ Cond.instanceMethod yX2_init ∈ lw_tbl ∧ Cond.code yX2_init cX2_init 4 none ∈ lw_tbl := ⟨List.mem_of_getElem? (i := 203) (by decide +kernel), List.mem_of_getElem? (i := 204) (by decide +kernel), List.mem_of_getElem? (i := 205) (by decide +kernel)⟩
theorem wy_O : yX2_init.cls ≠ "java/lang/invoke/MethodHandle" ∧ yX2_init.cls ≠ "java/lang/invoke/VarHandle" ∧ (parseMethodDescriptor yX2_init.desc).map (fun d => d.parameters.length) = some 3 := by decide +kernel
theorem gk_O : ac_gok RX7 cX7_init TX7 9 54 [(0, 10, 286), (1, 21, 287), (2, 30, 288)] = true := by decide +kernel
theorem dd_U : ∀ j, j < 4 → (parseFieldDescriptor (TX5 j).2.2.1).map defaultValue = some (vp_V [.null, .null, .null, .null] j) := by decide +kernel
theorem wl_U : Cond.classLink RX7 43 RX5 ∈ lw_tbl ∧ Cond.instantiable RX5 4 ∈ lw_tbl ∧ Cond.initialized RX5 ∈ lw_tbl := ⟨List.mem_of_getElem? (i := 217) (by decide +kernel), List.mem_of_getElem? (i := 218) (by decide +kernel), List.mem_of_getElem? (i := 78) (by decide +kernel)⟩
theorem wm_U : Cond.methodLink RX7 45 yX5_init ∈ lw_tbl ∧ Cond.instanceMethod yX5_init ∈ lw_tbl ∧ Cond.code yX5_init cX5_init 5 none ∈ lw_tbl := ⟨List.mem_of_getElem? (i := 219) (by decide +kernel), List.mem_of_getElem? (i := 220) (by decide +kernel), List.mem_of_getElem? (i := 221) (by decide +kernel)⟩
theorem wy_U : yX5_init.cls ≠ "java/lang/invoke/MethodHandle" ∧ yX5_init.cls ≠ "java/lang/invoke/VarHandle" ∧ (parseMethodDescriptor yX5_init.desc).map (fun d => d.parameters.length) = some 4 := by decide +kernel
theorem gk_U : ac_gok RX7 cX7_init TX7 9 77 [(0, 10, 286), (1, 21, 287), (2, 30, 288), (3, 39, 289)] = true := by decide +kernel
theorem dd_E : ∀ j, j < 7 → (parseFieldDescriptor (TX4 j).2.2.1).map defaultValue = some (vp_V [.null, .null, .null, .null, .int 0, .int 0, .int 0] j) := by decide +kernel
theorem wl_E : Cond.classLink RX7 52 RX4 ∈ lw_tbl ∧ Cond.instantiable RX4 7 ∈ lw_tbl ∧ Cond.initialized RX4 ∈ lw_tbl := ⟨List.mem_of_getElem? (i := 236) (by decide +kernel), List.mem_of_getElem? (i := 237) (by decide +kernel), List.mem_of_getElem? (i := 79) (by decide +kernel)⟩
theorem wm_E : Cond.methodLink RX7 54 yX4_init ∈ lw_tbl ∧ Cond.instanceMethod yX4_init ∈ lw_tbl ∧ Cond.code yX4_init cX4_init 4 none ∈ lw_tbl := ⟨List.mem_of_getElem? (i := 238) (by decide +kernel), List.mem_of_getElem? (i := 239) (by decide +kernel), List.mem_of_getElem? (i := 240) (by decide +kernel)⟩
theorem wy_E : yX4_init.cls ≠ "java/lang/invoke/MethodHandle" ∧ yX4_init.cls ≠ "java/lang/invoke/VarHandle" ∧ (parseMethodDescriptor yX4_init.desc).map (fun d => d.parameters.length) = some 3 := by decide +kernel
theorem gk_E : ac_gok RX7 cX7_init TX7 9 104 [(0, 10, 286), (1, 21, 287), (4, 48, 290)] = true := by decide +kernel
theorem dd_P : ∀ j, j < 5 → (parseFieldDescriptor (TX3 j).2.2.1).map defaultValue = some (vp_V [.null, .null, .null, .int 0, .int 0] j) := by decide +kernel
theorem wl_P : Cond.classLink RX7 61 RX3 ∈ lw_tbl ∧ Cond.instantiable RX3 5 ∈ lw_tbl ∧ Cond.initialized RX3 ∈ lw_tbl := ⟨List.mem_of_getElem? (i := 264) (by decide +kernel), List.mem_of_getElem? (i := 265) (by decide +kernel), List.mem_of_getElem? (i := 80) (by decide +kernel)⟩
theorem wm_P : Cond.methodLink RX7 63 yX3_init ∈ lw_tbl ∧ Cond.instanceMethod yX3_init ∈ lw_tbl ∧ Cond.code yX3_init cX3_init 2 none ∈ lw_tbl := ⟨List.mem_of_getElem? (i := 266) (by decide +kernel), List.mem_of_getElem? (i := 267) (by decide +kernel), List.mem_of_getElem? (i := 268) (by decide +kernel)⟩
theorem wy_P : yX3_init.cls ≠ "java/lang/invoke/MethodHandle" ∧ yX3_init.cls ≠ "java/lang/invoke/VarHandle" ∧ (parseMethodDescriptor yX3_init.desc).map (fun d => d.parameters.length) = some 1 := by decide +kernel
theorem gk_P : ac_gok RX7 cX7_init TX7 9 127 [(1, 21, 287)] = true := by decide +kernel
def opC : List ac_Op := [(7, 70, 293, .inl (.iconst 3, 1, 3, 3, false))]
theorem ao_C : ac_ok RX7 cX7_init TX7 9 1 137 opC 144 = true := by decide +kernel
theorem ak_C : kiC.all (fun e => ai_okb mtC RX7 cX7_init none e.1 e.2) = true := by decide +kernel
theorem aw_C : Cond.methodLink RX7 1 Lib.objectInit ∈ lw_tbl := List.mem_of_getElem? (i := 89) (by decide +kernel)
def gB : ab_G := gT.map (fun e => (e.1 + 12, e.2)) ++ gD
theorem ruC : ab_e shC mciC (ab_ec shC mciC mlC cdC 300 0) (ai_lu kiC) 100 144 (ab_ent 1 [.inl 29]) [] gB = some (none, gC) := by decide +kernel
def adC (h0 q : Nat) (pD pT pF pO pU pE pP : Nat → Nat) : Nat → Nat := fun k => match k with
  | 0 => pD 0
  | 1 => pD 1
  | 2 => pD 2
  | 3 => pD 3
  | 4 => pD 4
  | 5 => pD 5
  | 6 => pD 6
  | 7 => pD 7
  | 8 => pD 8
  | 9 => pD 9
  | 10 => pD 10
  | 11 => pD 11
  | 12 => pT 0
  | 13 => pT 1
  | 14 => pT 2
  | 15 => pT 3
  | 16 => pT 4
  | 17 => pT 5
  | 18 => pT 6
  | 19 => pT 7
  | 20 => pT 8
  | 21 => pF 0
  | 22 => pO 0
  | 23 => pU 0
  | 24 => pE 0
  | 25 => pE 1
  | 26 => pP 0
  | 27 => pP 1
  | 28 => pP 2
  | 29 => h0
  | _ => q
def hiC (xD xT xE xP : ai_H) : ai_H := ab_jn 29 (ab_jn 26 (ab_jn 24 (ab_jn 12 xD xT) xE) xP) (fun _ _ => 0)
theorem hiC_ok {xD xT xE xP : ai_H} (a : ab_h gD xD) (b : ab_h gT xT) (c : ab_h [] xE) (d : ab_h [] xP) : ab_h gB (hiC xD xT xE xP) := by
  have h1 : ab_h gB (ab_jn 12 xD xT) := ab_h_jn (n := 12) a b (by decide +kernel)
  have h2 : ab_h gB (ab_jn 24 (ab_jn 12 xD xT) xE) := ab_h_jn (n := 24) (G2 := []) h1 c (by decide +kernel)
  have h3 : ab_h gB (ab_jn 26 (ab_jn 24 (ab_jn 12 xD xT) xE) xP) := ab_h_jn (n := 26) (G2 := []) h2 d (by decide +kernel)
  exact ab_h_jn (n := 29) (G2 := []) h3 ab_zero (by decide +kernel)
def ac_ff (ad : Nat → Nat) (h : ai_H) (k : Nat) : Nat → List (Option Nat) → List Value
  | _, [] => []
  | j, f :: fs => ai_fv ad h k j f :: ac_ff ad h k (j + 1) fs
def ac_cf (cA : Bool → ClassId) (ad : Nat → Nat) (h : ai_H) (k : Nat) (c : (Bool × Nat) ⊕ (Nat × List (Option Nat))) : Nat × va_E := (ad k, match c with
  | .inl (z, n) => .inl (cA z, n, .inl (h k))
  | .inr (ci, fs) => .inr (ci, ac_ff ad h k 0 fs))
def ac_wf (cA : Bool → ClassId) (ad : Nat → Nat) (h : ai_H) : Nat → ai_Sh → va_W
  | _, [] => []
  | k, c :: sh => ac_cf cA ad h k c :: ac_wf cA ad h (k + 1) sh
theorem ac_ff_ok {ad : Nat → Nat} {h : ai_H} {k : Nat} : ∀ (fs : List (Option Nat)) (j : Nat), fs.mapIdx (fun i => ai_fv ad h k (i + j)) = ac_ff ad h k j fs
  | [], _ => rfl
  | f :: fs, j => by
    rw [List.mapIdx_cons, ac_ff, ← ac_ff_ok fs (j + 1), Nat.zero_add]
    congr 2
    funext i
    rw [show i + 1 + j = i + (j + 1) by omega]
theorem ac_cf_ok {cA : Bool → ClassId} {ad : Nat → Nat} {h : ai_H} (k : Nat) (c : (Bool × Nat) ⊕ (Nat × List (Option Nat))) : ai_cell cA ad h k c = ac_cf cA ad h k c := by
  rcases c with c | c
  · rfl
  · obtain ⟨ci, fs⟩ := c
    have e : fs.mapIdx (ai_fv ad h k) = ac_ff ad h k 0 fs := ac_ff_ok fs 0
    show (ad k, (.inr (ci, fs.mapIdx (ai_fv ad h k)) : va_E)) = _
    rw [e]
    rfl
theorem ac_wf_ok {cA : Bool → ClassId} {ad : Nat → Nat} {h : ai_H} : ∀ (sh : ai_Sh) (k : Nat), sh.mapIdx (fun i => ai_cell cA ad h (i + k)) = ac_wf cA ad h k sh
  | [], _ => rfl
  | c :: sh, k => by
    rw [List.mapIdx_cons, ac_wf, ← ac_wf_ok sh (k + 1), Nat.zero_add, ac_cf_ok]
    congr 2
    funext i
    rw [show i + 1 + k = i + (k + 1) by omega]
theorem ac_ws_wf {cA : Bool → ClassId} {ad : Nat → Nat} {h : ai_H} (sh : ai_Sh) : ai_ws cA ad sh h = ac_wf cA ad h 0 sh := ac_wf_ok sh 0
theorem ws_C {cA : Bool → ClassId} {ad : Nat → Nat} {x : ai_H} : ai_ws cA ad shC x = [(ad 0, .inr (0, [.ref (ad 1), .ref (ad 2), .ref (ad 3), .ref (ad 4), .ref (ad 5), .ref (ad 6), .ref (ad 7), .ref (ad 8), .ref (ad 9), .ref (ad 10), .ref (ad 11), .int (x 0 11)])), (ad 1, .inl (cA false, 12, .inl (x 1))), (ad 2, .inl (cA false, 12, .inl (x 2))), (ad 3, .inl (cA false, 12, .inl (x 3))), (ad 4, .inl (cA false, 12, .inl (x 4))), (ad 5, .inl (cA false, 12, .inl (x 5))), (ad 6, .inl (cA false, 108, .inl (x 6))), (ad 7, .inl (cA false, 36, .inl (x 7))), (ad 8, .inl (cA false, 36, .inl (x 8))), (ad 9, .inl (cA false, 36, .inl (x 9))), (ad 10, .inl (cA false, 12, .inl (x 10))), (ad 11, .inl (cA false, 12, .inl (x 11))), (ad 12, .inr (6, [.ref (ad 0), .ref (ad 13), .ref (ad 14), .ref (ad 15), .ref (ad 16), .ref (ad 17), .ref (ad 18), .ref (ad 19), .ref (ad 20), .int (x 12 9), .int (x 12 10), .int (x 12 11), .int (x 12 12)])), (ad 13, .inl (cA false, 512, .inl (x 13))), (ad 14, .inl (cA false, 512, .inl (x 14))), (ad 15, .inl (cA false, 512, .inl (x 15))), (ad 16, .inl (cA false, 512, .inl (x 16))), (ad 17, .inl (cA false, 1536, .inl (x 17))), (ad 18, .inl (cA false, 512, .inl (x 18))), (ad 19, .inl (cA true, 512, .inl (x 19))), (ad 20, .inl (cA true, 512, .inl (x 20))), (ad 21, .inr (1, [.ref (ad 0), .ref (ad 12)])), (ad 22, .inr (2, [.ref (ad 0), .ref (ad 12), .ref (ad 21)])), (ad 23, .inr (5, [.ref (ad 0), .ref (ad 12), .ref (ad 21), .ref (ad 22)])), (ad 24, .inr (4, [.ref (ad 0), .ref (ad 12), .ref (ad 23), .ref (ad 25), .int (x 24 4), .int (x 24 5), .int (x 24 6)])), (ad 25, .inl (cA false, 100, .inl (x 25))), (ad 26, .inr (3, [.ref (ad 12), .ref (ad 27), .ref (ad 28), .int (x 26 3), .int (x 26 4)])), (ad 27, .inl (cA false, 200, .inl (x 27))), (ad 28, .inl (cA false, 200, .inl (x 28))), (ad 29, .inr (7, [.ref (ad 0), .ref (ad 12), .ref (ad 21), .ref (ad 22), .ref (ad 23), .ref (ad 24), .ref (ad 26), .ref (ad 30), .int (x 29 8)])), (ad 30, .inl (cA false, 3, .inl (x 30)))] := by rw [ac_ws_wf]; rfl
theorem adC_0 {h0 q : Nat} {pD pT pF pO pU pE pP : Nat → Nat} : adC h0 q pD pT pF pO pU pE pP 0 = pD 0 := rfl
theorem hiC_0 {xD xT xE xP : ai_H} : hiC xD xT xE xP 0 = xD 0 := rfl
theorem adC_1 {h0 q : Nat} {pD pT pF pO pU pE pP : Nat → Nat} : adC h0 q pD pT pF pO pU pE pP 1 = pD 1 := rfl
theorem hiC_1 {xD xT xE xP : ai_H} : hiC xD xT xE xP 1 = xD 1 := rfl
theorem adC_2 {h0 q : Nat} {pD pT pF pO pU pE pP : Nat → Nat} : adC h0 q pD pT pF pO pU pE pP 2 = pD 2 := rfl
theorem hiC_2 {xD xT xE xP : ai_H} : hiC xD xT xE xP 2 = xD 2 := rfl
theorem adC_3 {h0 q : Nat} {pD pT pF pO pU pE pP : Nat → Nat} : adC h0 q pD pT pF pO pU pE pP 3 = pD 3 := rfl
theorem hiC_3 {xD xT xE xP : ai_H} : hiC xD xT xE xP 3 = xD 3 := rfl
theorem adC_4 {h0 q : Nat} {pD pT pF pO pU pE pP : Nat → Nat} : adC h0 q pD pT pF pO pU pE pP 4 = pD 4 := rfl
theorem hiC_4 {xD xT xE xP : ai_H} : hiC xD xT xE xP 4 = xD 4 := rfl
theorem adC_5 {h0 q : Nat} {pD pT pF pO pU pE pP : Nat → Nat} : adC h0 q pD pT pF pO pU pE pP 5 = pD 5 := rfl
theorem hiC_5 {xD xT xE xP : ai_H} : hiC xD xT xE xP 5 = xD 5 := rfl
theorem adC_6 {h0 q : Nat} {pD pT pF pO pU pE pP : Nat → Nat} : adC h0 q pD pT pF pO pU pE pP 6 = pD 6 := rfl
theorem hiC_6 {xD xT xE xP : ai_H} : hiC xD xT xE xP 6 = xD 6 := rfl
theorem adC_7 {h0 q : Nat} {pD pT pF pO pU pE pP : Nat → Nat} : adC h0 q pD pT pF pO pU pE pP 7 = pD 7 := rfl
theorem hiC_7 {xD xT xE xP : ai_H} : hiC xD xT xE xP 7 = xD 7 := rfl
theorem adC_8 {h0 q : Nat} {pD pT pF pO pU pE pP : Nat → Nat} : adC h0 q pD pT pF pO pU pE pP 8 = pD 8 := rfl
theorem hiC_8 {xD xT xE xP : ai_H} : hiC xD xT xE xP 8 = xD 8 := rfl
theorem adC_9 {h0 q : Nat} {pD pT pF pO pU pE pP : Nat → Nat} : adC h0 q pD pT pF pO pU pE pP 9 = pD 9 := rfl
theorem hiC_9 {xD xT xE xP : ai_H} : hiC xD xT xE xP 9 = xD 9 := rfl
theorem adC_10 {h0 q : Nat} {pD pT pF pO pU pE pP : Nat → Nat} : adC h0 q pD pT pF pO pU pE pP 10 = pD 10 := rfl
theorem hiC_10 {xD xT xE xP : ai_H} : hiC xD xT xE xP 10 = xD 10 := rfl
theorem adC_11 {h0 q : Nat} {pD pT pF pO pU pE pP : Nat → Nat} : adC h0 q pD pT pF pO pU pE pP 11 = pD 11 := rfl
theorem hiC_11 {xD xT xE xP : ai_H} : hiC xD xT xE xP 11 = xD 11 := rfl
theorem adC_12 {h0 q : Nat} {pD pT pF pO pU pE pP : Nat → Nat} : adC h0 q pD pT pF pO pU pE pP 12 = pT 0 := rfl
theorem hiC_12 {xD xT xE xP : ai_H} : hiC xD xT xE xP 12 = xT 0 := rfl
theorem adC_13 {h0 q : Nat} {pD pT pF pO pU pE pP : Nat → Nat} : adC h0 q pD pT pF pO pU pE pP 13 = pT 1 := rfl
theorem hiC_13 {xD xT xE xP : ai_H} : hiC xD xT xE xP 13 = xT 1 := rfl
theorem adC_14 {h0 q : Nat} {pD pT pF pO pU pE pP : Nat → Nat} : adC h0 q pD pT pF pO pU pE pP 14 = pT 2 := rfl
theorem hiC_14 {xD xT xE xP : ai_H} : hiC xD xT xE xP 14 = xT 2 := rfl
theorem adC_15 {h0 q : Nat} {pD pT pF pO pU pE pP : Nat → Nat} : adC h0 q pD pT pF pO pU pE pP 15 = pT 3 := rfl
theorem hiC_15 {xD xT xE xP : ai_H} : hiC xD xT xE xP 15 = xT 3 := rfl
theorem adC_16 {h0 q : Nat} {pD pT pF pO pU pE pP : Nat → Nat} : adC h0 q pD pT pF pO pU pE pP 16 = pT 4 := rfl
theorem hiC_16 {xD xT xE xP : ai_H} : hiC xD xT xE xP 16 = xT 4 := rfl
theorem adC_17 {h0 q : Nat} {pD pT pF pO pU pE pP : Nat → Nat} : adC h0 q pD pT pF pO pU pE pP 17 = pT 5 := rfl
theorem hiC_17 {xD xT xE xP : ai_H} : hiC xD xT xE xP 17 = xT 5 := rfl
theorem adC_18 {h0 q : Nat} {pD pT pF pO pU pE pP : Nat → Nat} : adC h0 q pD pT pF pO pU pE pP 18 = pT 6 := rfl
theorem hiC_18 {xD xT xE xP : ai_H} : hiC xD xT xE xP 18 = xT 6 := rfl
theorem adC_19 {h0 q : Nat} {pD pT pF pO pU pE pP : Nat → Nat} : adC h0 q pD pT pF pO pU pE pP 19 = pT 7 := rfl
theorem hiC_19 {xD xT xE xP : ai_H} : hiC xD xT xE xP 19 = xT 7 := rfl
theorem adC_20 {h0 q : Nat} {pD pT pF pO pU pE pP : Nat → Nat} : adC h0 q pD pT pF pO pU pE pP 20 = pT 8 := rfl
theorem hiC_20 {xD xT xE xP : ai_H} : hiC xD xT xE xP 20 = xT 8 := rfl
theorem adC_21 {h0 q : Nat} {pD pT pF pO pU pE pP : Nat → Nat} : adC h0 q pD pT pF pO pU pE pP 21 = pF 0 := rfl
theorem hiC_21 {xD xT xE xP : ai_H} : hiC xD xT xE xP 21 = xT 9 := rfl
theorem adC_22 {h0 q : Nat} {pD pT pF pO pU pE pP : Nat → Nat} : adC h0 q pD pT pF pO pU pE pP 22 = pO 0 := rfl
theorem hiC_22 {xD xT xE xP : ai_H} : hiC xD xT xE xP 22 = xT 10 := rfl
theorem adC_23 {h0 q : Nat} {pD pT pF pO pU pE pP : Nat → Nat} : adC h0 q pD pT pF pO pU pE pP 23 = pU 0 := rfl
theorem hiC_23 {xD xT xE xP : ai_H} : hiC xD xT xE xP 23 = xT 11 := rfl
theorem adC_24 {h0 q : Nat} {pD pT pF pO pU pE pP : Nat → Nat} : adC h0 q pD pT pF pO pU pE pP 24 = pE 0 := rfl
theorem hiC_24 {xD xT xE xP : ai_H} : hiC xD xT xE xP 24 = xE 0 := rfl
theorem adC_25 {h0 q : Nat} {pD pT pF pO pU pE pP : Nat → Nat} : adC h0 q pD pT pF pO pU pE pP 25 = pE 1 := rfl
theorem hiC_25 {xD xT xE xP : ai_H} : hiC xD xT xE xP 25 = xE 1 := rfl
theorem adC_26 {h0 q : Nat} {pD pT pF pO pU pE pP : Nat → Nat} : adC h0 q pD pT pF pO pU pE pP 26 = pP 0 := rfl
theorem hiC_26 {xD xT xE xP : ai_H} : hiC xD xT xE xP 26 = xP 0 := rfl
theorem adC_27 {h0 q : Nat} {pD pT pF pO pU pE pP : Nat → Nat} : adC h0 q pD pT pF pO pU pE pP 27 = pP 1 := rfl
theorem hiC_27 {xD xT xE xP : ai_H} : hiC xD xT xE xP 27 = xP 1 := rfl
theorem adC_28 {h0 q : Nat} {pD pT pF pO pU pE pP : Nat → Nat} : adC h0 q pD pT pF pO pU pE pP 28 = pP 2 := rfl
theorem hiC_28 {xD xT xE xP : ai_H} : hiC xD xT xE xP 28 = xP 2 := rfl
theorem adC_29 {h0 q : Nat} {pD pT pF pO pU pE pP : Nat → Nat} : adC h0 q pD pT pF pO pU pE pP 29 = h0 := rfl
theorem hiC_29 {xD xT xE xP : ai_H} : hiC xD xT xE xP 29 = fun _ => 0 := rfl
theorem adC_30 {h0 q : Nat} {pD pT pF pO pU pE pP : Nat → Nat} : adC h0 q pD pT pF pO pU pE pP 30 = q := rfl
theorem hiC_30 {xD xT xE xP : ai_H} : hiC xD xT xE xP 30 = fun _ => 0 := rfl
theorem ws_C2 {cA : Bool → ClassId} {h0 q : Nat} {pD pT pF pO pU pE pP : Nat → Nat} {xD xT xE xP : ai_H} : ai_ws cA (adC h0 q pD pT pF pO pU pE pP) shC (hiC xD xT xE xP) = [(pD 0, .inr (0, [.ref (pD 1), .ref (pD 2), .ref (pD 3), .ref (pD 4), .ref (pD 5), .ref (pD 6), .ref (pD 7), .ref (pD 8), .ref (pD 9), .ref (pD 10), .ref (pD 11), .int (xD 0 11)])), (pD 1, .inl (cA false, 12, .inl (xD 1))), (pD 2, .inl (cA false, 12, .inl (xD 2))), (pD 3, .inl (cA false, 12, .inl (xD 3))), (pD 4, .inl (cA false, 12, .inl (xD 4))), (pD 5, .inl (cA false, 12, .inl (xD 5))), (pD 6, .inl (cA false, 108, .inl (xD 6))), (pD 7, .inl (cA false, 36, .inl (xD 7))), (pD 8, .inl (cA false, 36, .inl (xD 8))), (pD 9, .inl (cA false, 36, .inl (xD 9))), (pD 10, .inl (cA false, 12, .inl (xD 10))), (pD 11, .inl (cA false, 12, .inl (xD 11))), (pT 0, .inr (6, [.ref (pD 0), .ref (pT 1), .ref (pT 2), .ref (pT 3), .ref (pT 4), .ref (pT 5), .ref (pT 6), .ref (pT 7), .ref (pT 8), .int (xT 0 9), .int (xT 0 10), .int (xT 0 11), .int (xT 0 12)])), (pT 1, .inl (cA false, 512, .inl (xT 1))), (pT 2, .inl (cA false, 512, .inl (xT 2))), (pT 3, .inl (cA false, 512, .inl (xT 3))), (pT 4, .inl (cA false, 512, .inl (xT 4))), (pT 5, .inl (cA false, 1536, .inl (xT 5))), (pT 6, .inl (cA false, 512, .inl (xT 6))), (pT 7, .inl (cA true, 512, .inl (xT 7))), (pT 8, .inl (cA true, 512, .inl (xT 8))), (pF 0, .inr (1, [.ref (pD 0), .ref (pT 0)])), (pO 0, .inr (2, [.ref (pD 0), .ref (pT 0), .ref (pF 0)])), (pU 0, .inr (5, [.ref (pD 0), .ref (pT 0), .ref (pF 0), .ref (pO 0)])), (pE 0, .inr (4, [.ref (pD 0), .ref (pT 0), .ref (pU 0), .ref (pE 1), .int (xE 0 4), .int (xE 0 5), .int (xE 0 6)])), (pE 1, .inl (cA false, 100, .inl (xE 1))), (pP 0, .inr (3, [.ref (pT 0), .ref (pP 1), .ref (pP 2), .int (xP 0 3), .int (xP 0 4)])), (pP 1, .inl (cA false, 200, .inl (xP 1))), (pP 2, .inl (cA false, 200, .inl (xP 2))), (h0, .inr (7, [.ref (pD 0), .ref (pT 0), .ref (pF 0), .ref (pO 0), .ref (pU 0), .ref (pE 0), .ref (pP 0), .ref (q), .int 0])), (q, .inl (cA false, 3, .inl (fun _ => 0)))] := by
  rw [ws_C]
  simp only [adC_0, adC_1, adC_2, adC_3, adC_4, adC_5, adC_6, adC_7, adC_8, adC_9, adC_10, adC_11, adC_12, adC_13, adC_14, adC_15, adC_16, adC_17, adC_18, adC_19, adC_20, adC_21, adC_22, adC_23, adC_24, adC_25, adC_26, adC_27, adC_28, adC_29, adC_30, hiC_0, hiC_1, hiC_2, hiC_3, hiC_4, hiC_5, hiC_6, hiC_7, hiC_8, hiC_9, hiC_10, hiC_11, hiC_12, hiC_13, hiC_14, hiC_15, hiC_16, hiC_17, hiC_18, hiC_19, hiC_20, hiC_21, hiC_22, hiC_23, hiC_24, hiC_25, hiC_26, hiC_27, hiC_28, hiC_29, hiC_30]
end
section
def dfC : List Value := [.null, .null, .null, .null, .null, .null, .null, .null, .int 0]
set_option maxHeartbeats 8000000 in
set_option maxRecDepth 20000 in
theorem ct_C (l : Launch) (D : va_G) (cA : Bool → ClassId) : ac_Met l D cA yX7_init cX7_init 1 7 dfC [] shC gC 30 5969 3 29 := by
  refine ac_enter l (d := 2) (oix := 1) (by decide +kernel) rfl (Nat.le_of_ble_eq_true rfl) dC_0 dC_1 aw_C ?_
  intro p e s m args below meth c h0 A ls hx hb hr hml hts hown hlocks hini hK hN hP hD hA hent
  have hlr := ac_lr (Nat.le_of_ble_eq_true rfl) hent
  have hl0 : ls[0]? = some (.val (.ref h0)) := hlr.2 0 (Nat.le_of_ble_eq_true rfl)
  have hls : ls.size = 1 := hlr.1
  have hin : ∀ w ∈ ai_tb, w ∈ Cond.code yX7_init cX7_init 1 none :: ai_tb := fun w hw => List.mem_cons_of_mem _ hw
  have hS : va_S A s.heap s.heap [] := va_S.rf
  obtain ⟨ty0, t1, t2, t3⟩ := ai_cls 7 _ rfl
  have hin2 : ∀ w ∈ u_ws RX7 TX7 9, w ∈ Cond.code yX7_init cX7_init 1 none :: ai_tb := fun w hw => hin w (ai_tb_in (t3 w hw).1 (t3 w hw).2)
  have hP : va_P D ai_cl [(h0, .inr (7, [.null, .null, .null, .null, .null, .null, .null, .null, .int 0]))] s.heap := hP
  have hD : va_D A [(h0, .inr (7, [.null, .null, .null, .null, .null, .null, .null, .null, .int 0]))] := hD
  refine lv_aload_n hx hb dC_4 rfl hl0 ?_
  refine ac_new1 (ci := 0) (N := 12) (C := RX0) (T := TX0) (df := [.null, .null, .null, .null, .null, .null, .null, .null, .null, .null, .null, .int 0]) hx hb hown hts hin hK hA rfl dd_D wl_D.1 wl_D.2.1 wl_D.2.2 hP hD hS (Nat.le_of_ble_eq_true rfl) (Nat.le_of_ble_eq_true rfl) dC_5 dC_8 (fun qD H hP hD hS => ?_)
  refine ac_call1 (y := yX0_init) (q := qD) (ci := 0) (df := [.null, .null, .null, .null, .null, .null, .null, .null, .null, .null, .null, .int 0]) (rs := []) (rest := [.ref qD, .ref h0]) (ix := 9) (pc := 9) hx hb hml hown hts hin hN hK hA (ct_D l D cA) wm_D.1 wm_D.2.1 wl_D.2.2 wm_D.2.2 rfl wy_D ⟨Nat.le_of_ble_eq_true rfl, Nat.le_of_ble_eq_true rfl⟩ hls (Nat.le_of_ble_eq_true rfl) hP hD hS (Nat.le_of_ble_eq_true rfl) (Nat.le_of_ble_eq_true rfl) dC_9 (fun u H locs hu hP2 hD2 hS2 => ?_)
  obtain ⟨pD, xD⟩ := u
  obtain ⟨eD, fD, gD_⟩ := hu
  have eD : pD 0 = qD := eD
  subst eD
  (try dsimp only at hP2 hD2)
  rw [ws_D] at hP2 hD2
  have hP : va_P D ai_cl [(h0, .inr (7, [.null, .null, .null, .null, .null, .null, .null, .null, .int 0])), (pD 0, .inr (0, [.ref (pD 1), .ref (pD 2), .ref (pD 3), .ref (pD 4), .ref (pD 5), .ref (pD 6), .ref (pD 7), .ref (pD 8), .ref (pD 9), .ref (pD 10), .ref (pD 11), .int (xD 0 11)])), (pD 1, .inl (cA false, 12, .inl (xD 1))), (pD 2, .inl (cA false, 12, .inl (xD 2))), (pD 3, .inl (cA false, 12, .inl (xD 3))), (pD 4, .inl (cA false, 12, .inl (xD 4))), (pD 5, .inl (cA false, 12, .inl (xD 5))), (pD 6, .inl (cA false, 108, .inl (xD 6))), (pD 7, .inl (cA false, 36, .inl (xD 7))), (pD 8, .inl (cA false, 36, .inl (xD 8))), (pD 9, .inl (cA false, 36, .inl (xD 9))), (pD 10, .inl (cA false, 12, .inl (xD 10))), (pD 11, .inl (cA false, 12, .inl (xD 11)))] H := hP2
  have hD : va_D A [(h0, .inr (7, [.null, .null, .null, .null, .null, .null, .null, .null, .int 0])), (pD 0, .inr (0, [.ref (pD 1), .ref (pD 2), .ref (pD 3), .ref (pD 4), .ref (pD 5), .ref (pD 6), .ref (pD 7), .ref (pD 8), .ref (pD 9), .ref (pD 10), .ref (pD 11), .int (xD 0 11)])), (pD 1, .inl (cA false, 12, .inl (xD 1))), (pD 2, .inl (cA false, 12, .inl (xD 2))), (pD 3, .inl (cA false, 12, .inl (xD 3))), (pD 4, .inl (cA false, 12, .inl (xD 4))), (pD 5, .inl (cA false, 12, .inl (xD 5))), (pD 6, .inl (cA false, 108, .inl (xD 6))), (pD 7, .inl (cA false, 36, .inl (xD 7))), (pD 8, .inl (cA false, 36, .inl (xD 8))), (pD 9, .inl (cA false, 36, .inl (xD 9))), (pD 10, .inl (cA false, 12, .inl (xD 10))), (pD 11, .inl (cA false, 12, .inl (xD 11)))] := hD2
  have hS := hS2
  refine W.widen (k := 12) (n := 312) (Nat.le_of_ble_eq_true rfl) (Nat.le_of_ble_eq_true rfl) ?_
  refine va_putF (D := D) (ci := 7) (a := h0) (v := .ref (pD 0)) (ty := .object RX0) (C := RX7) (T := TX7) (N := 9) (index := 10) hx hb hts hin2 ty0 t1 t2 hown hK hP hD hS 0 rfl rfl 0 (Nat.le_of_ble_eq_true rfl) (hts _ (hin _ (ai_tb_at (i := 286) (by decide +kernel) rfl))) (fun _ h9 => h9) rfl hini rfl (by decide +kernel) rfl rfl (Nat.le_of_ble_eq_true rfl) dC_12 (fun H locs hP hD hS => ?_)
  have hP : va_P D ai_cl [(h0, .inr (7, [.ref (pD 0), .null, .null, .null, .null, .null, .null, .null, .int 0])), (pD 0, .inr (0, [.ref (pD 1), .ref (pD 2), .ref (pD 3), .ref (pD 4), .ref (pD 5), .ref (pD 6), .ref (pD 7), .ref (pD 8), .ref (pD 9), .ref (pD 10), .ref (pD 11), .int (xD 0 11)])), (pD 1, .inl (cA false, 12, .inl (xD 1))), (pD 2, .inl (cA false, 12, .inl (xD 2))), (pD 3, .inl (cA false, 12, .inl (xD 3))), (pD 4, .inl (cA false, 12, .inl (xD 4))), (pD 5, .inl (cA false, 12, .inl (xD 5))), (pD 6, .inl (cA false, 108, .inl (xD 6))), (pD 7, .inl (cA false, 36, .inl (xD 7))), (pD 8, .inl (cA false, 36, .inl (xD 8))), (pD 9, .inl (cA false, 36, .inl (xD 9))), (pD 10, .inl (cA false, 12, .inl (xD 10))), (pD 11, .inl (cA false, 12, .inl (xD 11)))] H := hP
  have hD : va_D A [(h0, .inr (7, [.ref (pD 0), .null, .null, .null, .null, .null, .null, .null, .int 0])), (pD 0, .inr (0, [.ref (pD 1), .ref (pD 2), .ref (pD 3), .ref (pD 4), .ref (pD 5), .ref (pD 6), .ref (pD 7), .ref (pD 8), .ref (pD 9), .ref (pD 10), .ref (pD 11), .int (xD 0 11)])), (pD 1, .inl (cA false, 12, .inl (xD 1))), (pD 2, .inl (cA false, 12, .inl (xD 2))), (pD 3, .inl (cA false, 12, .inl (xD 3))), (pD 4, .inl (cA false, 12, .inl (xD 4))), (pD 5, .inl (cA false, 12, .inl (xD 5))), (pD 6, .inl (cA false, 108, .inl (xD 6))), (pD 7, .inl (cA false, 36, .inl (xD 7))), (pD 8, .inl (cA false, 36, .inl (xD 8))), (pD 9, .inl (cA false, 36, .inl (xD 9))), (pD 10, .inl (cA false, 12, .inl (xD 10))), (pD 11, .inl (cA false, 12, .inl (xD 11)))] := hD
  refine lv_aload_n hx hb dC_15 rfl hl0 ?_
  refine ac_new1 (ci := 6) (N := 13) (C := RX6) (T := TX6) (df := [.null, .null, .null, .null, .null, .null, .null, .null, .null, .int 0, .int 0, .int 0, .int 0]) hx hb hown hts hin hK hA rfl dd_T wl_T.1 wl_T.2.1 wl_T.2.2 hP hD hS (Nat.le_of_ble_eq_true rfl) (Nat.le_of_ble_eq_true rfl) dC_16 dC_19 (fun qT H hP hD hS => ?_)
  refine ac_gets (ci := 7) (T := TX7) (N := 9) (a := h0) (fs := [.ref (pD 0), .null, .null, .null, .null, .null, .null, .null, .int 0]) (wr := ([(pD 0, .inr (0, [.ref (pD 1), .ref (pD 2), .ref (pD 3), .ref (pD 4), .ref (pD 5), .ref (pD 6), .ref (pD 7), .ref (pD 8), .ref (pD 9), .ref (pD 10), .ref (pD 11), .int (xD 0 11)])), (pD 1, .inl (cA false, 12, .inl (xD 1))), (pD 2, .inl (cA false, 12, .inl (xD 2))), (pD 3, .inl (cA false, 12, .inl (xD 3))), (pD 4, .inl (cA false, 12, .inl (xD 4))), (pD 5, .inl (cA false, 12, .inl (xD 5))), (pD 6, .inl (cA false, 108, .inl (xD 6))), (pD 7, .inl (cA false, 36, .inl (xD 7))), (pD 8, .inl (cA false, 36, .inl (xD 8))), (pD 9, .inl (cA false, 36, .inl (xD 9))), (pD 10, .inl (cA false, 12, .inl (xD 10))), (pD 11, .inl (cA false, 12, .inl (xD 11)))] : va_W) ++ ac_w0 qT 6 [.null, .null, .null, .null, .null, .null, .null, .null, .null, .int 0, .int 0, .int 0, .int 0]) hx hb hown hts hin hK rfl hl0 hP [(0, 10, 286)] [(pD 0)] 20 [.ref qT, .ref qT, .ref h0] gk_T rfl ?_
  refine ac_call1 (y := yX6_init) (q := qT) (ci := 6) (df := [.null, .null, .null, .null, .null, .null, .null, .null, .null, .int 0, .int 0, .int 0, .int 0]) (rs := [(pD 0)]) (rest := [.ref qT, .ref h0]) (ix := 18) (pc := 24) hx hb hml hown hts hin hN hK hA (ct_T l D cA ((pD 0))) wm_T.1 wm_T.2.1 wl_T.2.2 wm_T.2.2 rfl wy_T ⟨Nat.le_of_ble_eq_true rfl, Nat.le_of_ble_eq_true rfl⟩ hls (Nat.le_of_ble_eq_true rfl) hP hD hS (Nat.le_of_ble_eq_true rfl) (Nat.le_of_ble_eq_true rfl) dC_24 (fun u H locs hu hP2 hD2 hS2 => ?_)
  obtain ⟨pT, xT⟩ := u
  obtain ⟨eT, fT, gT_⟩ := hu
  have fT0 : pT 9 = (pD 0) := fT 0 _ rfl
  have eT : pT 0 = qT := eT
  subst eT
  (try dsimp only at hP2 hD2)
  rw [ws_T, fT0] at hP2 hD2
  have hP : va_P D ai_cl [(h0, .inr (7, [.ref (pD 0), .null, .null, .null, .null, .null, .null, .null, .int 0])), (pD 0, .inr (0, [.ref (pD 1), .ref (pD 2), .ref (pD 3), .ref (pD 4), .ref (pD 5), .ref (pD 6), .ref (pD 7), .ref (pD 8), .ref (pD 9), .ref (pD 10), .ref (pD 11), .int (xD 0 11)])), (pD 1, .inl (cA false, 12, .inl (xD 1))), (pD 2, .inl (cA false, 12, .inl (xD 2))), (pD 3, .inl (cA false, 12, .inl (xD 3))), (pD 4, .inl (cA false, 12, .inl (xD 4))), (pD 5, .inl (cA false, 12, .inl (xD 5))), (pD 6, .inl (cA false, 108, .inl (xD 6))), (pD 7, .inl (cA false, 36, .inl (xD 7))), (pD 8, .inl (cA false, 36, .inl (xD 8))), (pD 9, .inl (cA false, 36, .inl (xD 9))), (pD 10, .inl (cA false, 12, .inl (xD 10))), (pD 11, .inl (cA false, 12, .inl (xD 11))), (pT 0, .inr (6, [.ref (pD 0), .ref (pT 1), .ref (pT 2), .ref (pT 3), .ref (pT 4), .ref (pT 5), .ref (pT 6), .ref (pT 7), .ref (pT 8), .int (xT 0 9), .int (xT 0 10), .int (xT 0 11), .int (xT 0 12)])), (pT 1, .inl (cA false, 512, .inl (xT 1))), (pT 2, .inl (cA false, 512, .inl (xT 2))), (pT 3, .inl (cA false, 512, .inl (xT 3))), (pT 4, .inl (cA false, 512, .inl (xT 4))), (pT 5, .inl (cA false, 1536, .inl (xT 5))), (pT 6, .inl (cA false, 512, .inl (xT 6))), (pT 7, .inl (cA true, 512, .inl (xT 7))), (pT 8, .inl (cA true, 512, .inl (xT 8)))] H := hP2
  have hD : va_D A [(h0, .inr (7, [.ref (pD 0), .null, .null, .null, .null, .null, .null, .null, .int 0])), (pD 0, .inr (0, [.ref (pD 1), .ref (pD 2), .ref (pD 3), .ref (pD 4), .ref (pD 5), .ref (pD 6), .ref (pD 7), .ref (pD 8), .ref (pD 9), .ref (pD 10), .ref (pD 11), .int (xD 0 11)])), (pD 1, .inl (cA false, 12, .inl (xD 1))), (pD 2, .inl (cA false, 12, .inl (xD 2))), (pD 3, .inl (cA false, 12, .inl (xD 3))), (pD 4, .inl (cA false, 12, .inl (xD 4))), (pD 5, .inl (cA false, 12, .inl (xD 5))), (pD 6, .inl (cA false, 108, .inl (xD 6))), (pD 7, .inl (cA false, 36, .inl (xD 7))), (pD 8, .inl (cA false, 36, .inl (xD 8))), (pD 9, .inl (cA false, 36, .inl (xD 9))), (pD 10, .inl (cA false, 12, .inl (xD 10))), (pD 11, .inl (cA false, 12, .inl (xD 11))), (pT 0, .inr (6, [.ref (pD 0), .ref (pT 1), .ref (pT 2), .ref (pT 3), .ref (pT 4), .ref (pT 5), .ref (pT 6), .ref (pT 7), .ref (pT 8), .int (xT 0 9), .int (xT 0 10), .int (xT 0 11), .int (xT 0 12)])), (pT 1, .inl (cA false, 512, .inl (xT 1))), (pT 2, .inl (cA false, 512, .inl (xT 2))), (pT 3, .inl (cA false, 512, .inl (xT 3))), (pT 4, .inl (cA false, 512, .inl (xT 4))), (pT 5, .inl (cA false, 1536, .inl (xT 5))), (pT 6, .inl (cA false, 512, .inl (xT 6))), (pT 7, .inl (cA true, 512, .inl (xT 7))), (pT 8, .inl (cA true, 512, .inl (xT 8)))] := hD2
  have hS := hS2
  refine W.widen (k := 21) (n := 5445) (Nat.le_of_ble_eq_true rfl) (Nat.le_of_ble_eq_true rfl) ?_
  refine va_putF (D := D) (ci := 7) (a := h0) (v := .ref (pT 0)) (ty := .object RX6) (C := RX7) (T := TX7) (N := 9) (index := 21) hx hb hts hin2 ty0 t1 t2 hown hK hP hD hS 0 rfl rfl 1 (Nat.le_of_ble_eq_true rfl) (hts _ (hin _ (ai_tb_at (i := 287) (by decide +kernel) rfl))) (fun _ h9 => h9) rfl hini rfl (by decide +kernel) rfl rfl (Nat.le_of_ble_eq_true rfl) dC_27 (fun H locs hP hD hS => ?_)
  have hP : va_P D ai_cl [(h0, .inr (7, [.ref (pD 0), .ref (pT 0), .null, .null, .null, .null, .null, .null, .int 0])), (pD 0, .inr (0, [.ref (pD 1), .ref (pD 2), .ref (pD 3), .ref (pD 4), .ref (pD 5), .ref (pD 6), .ref (pD 7), .ref (pD 8), .ref (pD 9), .ref (pD 10), .ref (pD 11), .int (xD 0 11)])), (pD 1, .inl (cA false, 12, .inl (xD 1))), (pD 2, .inl (cA false, 12, .inl (xD 2))), (pD 3, .inl (cA false, 12, .inl (xD 3))), (pD 4, .inl (cA false, 12, .inl (xD 4))), (pD 5, .inl (cA false, 12, .inl (xD 5))), (pD 6, .inl (cA false, 108, .inl (xD 6))), (pD 7, .inl (cA false, 36, .inl (xD 7))), (pD 8, .inl (cA false, 36, .inl (xD 8))), (pD 9, .inl (cA false, 36, .inl (xD 9))), (pD 10, .inl (cA false, 12, .inl (xD 10))), (pD 11, .inl (cA false, 12, .inl (xD 11))), (pT 0, .inr (6, [.ref (pD 0), .ref (pT 1), .ref (pT 2), .ref (pT 3), .ref (pT 4), .ref (pT 5), .ref (pT 6), .ref (pT 7), .ref (pT 8), .int (xT 0 9), .int (xT 0 10), .int (xT 0 11), .int (xT 0 12)])), (pT 1, .inl (cA false, 512, .inl (xT 1))), (pT 2, .inl (cA false, 512, .inl (xT 2))), (pT 3, .inl (cA false, 512, .inl (xT 3))), (pT 4, .inl (cA false, 512, .inl (xT 4))), (pT 5, .inl (cA false, 1536, .inl (xT 5))), (pT 6, .inl (cA false, 512, .inl (xT 6))), (pT 7, .inl (cA true, 512, .inl (xT 7))), (pT 8, .inl (cA true, 512, .inl (xT 8)))] H := hP
  have hD : va_D A [(h0, .inr (7, [.ref (pD 0), .ref (pT 0), .null, .null, .null, .null, .null, .null, .int 0])), (pD 0, .inr (0, [.ref (pD 1), .ref (pD 2), .ref (pD 3), .ref (pD 4), .ref (pD 5), .ref (pD 6), .ref (pD 7), .ref (pD 8), .ref (pD 9), .ref (pD 10), .ref (pD 11), .int (xD 0 11)])), (pD 1, .inl (cA false, 12, .inl (xD 1))), (pD 2, .inl (cA false, 12, .inl (xD 2))), (pD 3, .inl (cA false, 12, .inl (xD 3))), (pD 4, .inl (cA false, 12, .inl (xD 4))), (pD 5, .inl (cA false, 12, .inl (xD 5))), (pD 6, .inl (cA false, 108, .inl (xD 6))), (pD 7, .inl (cA false, 36, .inl (xD 7))), (pD 8, .inl (cA false, 36, .inl (xD 8))), (pD 9, .inl (cA false, 36, .inl (xD 9))), (pD 10, .inl (cA false, 12, .inl (xD 10))), (pD 11, .inl (cA false, 12, .inl (xD 11))), (pT 0, .inr (6, [.ref (pD 0), .ref (pT 1), .ref (pT 2), .ref (pT 3), .ref (pT 4), .ref (pT 5), .ref (pT 6), .ref (pT 7), .ref (pT 8), .int (xT 0 9), .int (xT 0 10), .int (xT 0 11), .int (xT 0 12)])), (pT 1, .inl (cA false, 512, .inl (xT 1))), (pT 2, .inl (cA false, 512, .inl (xT 2))), (pT 3, .inl (cA false, 512, .inl (xT 3))), (pT 4, .inl (cA false, 512, .inl (xT 4))), (pT 5, .inl (cA false, 1536, .inl (xT 5))), (pT 6, .inl (cA false, 512, .inl (xT 6))), (pT 7, .inl (cA true, 512, .inl (xT 7))), (pT 8, .inl (cA true, 512, .inl (xT 8)))] := hD
  refine lv_aload_n hx hb dC_30 rfl hl0 ?_
  refine ac_new1 (ci := 1) (N := 2) (C := RX1) (T := TX1) (df := [.null, .null]) hx hb hown hts hin hK hA rfl dd_F wl_F.1 wl_F.2.1 wl_F.2.2 hP hD hS (Nat.le_of_ble_eq_true rfl) (Nat.le_of_ble_eq_true rfl) dC_31 dC_34 (fun qF H hP hD hS => ?_)
  refine ac_gets (ci := 7) (T := TX7) (N := 9) (a := h0) (fs := [.ref (pD 0), .ref (pT 0), .null, .null, .null, .null, .null, .null, .int 0]) (wr := ([(pD 0, .inr (0, [.ref (pD 1), .ref (pD 2), .ref (pD 3), .ref (pD 4), .ref (pD 5), .ref (pD 6), .ref (pD 7), .ref (pD 8), .ref (pD 9), .ref (pD 10), .ref (pD 11), .int (xD 0 11)])), (pD 1, .inl (cA false, 12, .inl (xD 1))), (pD 2, .inl (cA false, 12, .inl (xD 2))), (pD 3, .inl (cA false, 12, .inl (xD 3))), (pD 4, .inl (cA false, 12, .inl (xD 4))), (pD 5, .inl (cA false, 12, .inl (xD 5))), (pD 6, .inl (cA false, 108, .inl (xD 6))), (pD 7, .inl (cA false, 36, .inl (xD 7))), (pD 8, .inl (cA false, 36, .inl (xD 8))), (pD 9, .inl (cA false, 36, .inl (xD 9))), (pD 10, .inl (cA false, 12, .inl (xD 10))), (pD 11, .inl (cA false, 12, .inl (xD 11))), (pT 0, .inr (6, [.ref (pD 0), .ref (pT 1), .ref (pT 2), .ref (pT 3), .ref (pT 4), .ref (pT 5), .ref (pT 6), .ref (pT 7), .ref (pT 8), .int (xT 0 9), .int (xT 0 10), .int (xT 0 11), .int (xT 0 12)])), (pT 1, .inl (cA false, 512, .inl (xT 1))), (pT 2, .inl (cA false, 512, .inl (xT 2))), (pT 3, .inl (cA false, 512, .inl (xT 3))), (pT 4, .inl (cA false, 512, .inl (xT 4))), (pT 5, .inl (cA false, 1536, .inl (xT 5))), (pT 6, .inl (cA false, 512, .inl (xT 6))), (pT 7, .inl (cA true, 512, .inl (xT 7))), (pT 8, .inl (cA true, 512, .inl (xT 8)))] : va_W) ++ ac_w0 qF 1 [.null, .null]) hx hb hown hts hin hK rfl hl0 hP [(0, 10, 286), (1, 21, 287)] [(pD 0), (pT 0)] 35 [.ref qF, .ref qF, .ref h0] gk_F rfl ?_
  refine ac_call1 (y := yX1_init) (q := qF) (ci := 1) (df := [.null, .null]) (rs := [(pD 0), (pT 0)]) (rest := [.ref qF, .ref h0]) (ix := 27) (pc := 43) hx hb hml hown hts hin hN hK hA (ct_F l D cA ((pD 0)) ((pT 0))) wm_F.1 wm_F.2.1 wl_F.2.2 wm_F.2.2 rfl wy_F ⟨Nat.le_of_ble_eq_true rfl, Nat.le_of_ble_eq_true rfl⟩ hls (Nat.le_of_ble_eq_true rfl) hP hD hS (Nat.le_of_ble_eq_true rfl) (Nat.le_of_ble_eq_true rfl) dC_43 (fun u H locs hu hP2 hD2 hS2 => ?_)
  obtain ⟨pF, xF⟩ := u
  obtain ⟨eF, fF, gF_⟩ := hu
  have fF0 : pF 1 = (pD 0) := fF 0 _ rfl
  have fF1 : pF 2 = (pT 0) := fF 1 _ rfl
  have eF : pF 0 = qF := eF
  subst eF
  (try dsimp only at hP2 hD2)
  rw [ws_F, fF0, fF1] at hP2 hD2
  have hP : va_P D ai_cl [(h0, .inr (7, [.ref (pD 0), .ref (pT 0), .null, .null, .null, .null, .null, .null, .int 0])), (pD 0, .inr (0, [.ref (pD 1), .ref (pD 2), .ref (pD 3), .ref (pD 4), .ref (pD 5), .ref (pD 6), .ref (pD 7), .ref (pD 8), .ref (pD 9), .ref (pD 10), .ref (pD 11), .int (xD 0 11)])), (pD 1, .inl (cA false, 12, .inl (xD 1))), (pD 2, .inl (cA false, 12, .inl (xD 2))), (pD 3, .inl (cA false, 12, .inl (xD 3))), (pD 4, .inl (cA false, 12, .inl (xD 4))), (pD 5, .inl (cA false, 12, .inl (xD 5))), (pD 6, .inl (cA false, 108, .inl (xD 6))), (pD 7, .inl (cA false, 36, .inl (xD 7))), (pD 8, .inl (cA false, 36, .inl (xD 8))), (pD 9, .inl (cA false, 36, .inl (xD 9))), (pD 10, .inl (cA false, 12, .inl (xD 10))), (pD 11, .inl (cA false, 12, .inl (xD 11))), (pT 0, .inr (6, [.ref (pD 0), .ref (pT 1), .ref (pT 2), .ref (pT 3), .ref (pT 4), .ref (pT 5), .ref (pT 6), .ref (pT 7), .ref (pT 8), .int (xT 0 9), .int (xT 0 10), .int (xT 0 11), .int (xT 0 12)])), (pT 1, .inl (cA false, 512, .inl (xT 1))), (pT 2, .inl (cA false, 512, .inl (xT 2))), (pT 3, .inl (cA false, 512, .inl (xT 3))), (pT 4, .inl (cA false, 512, .inl (xT 4))), (pT 5, .inl (cA false, 1536, .inl (xT 5))), (pT 6, .inl (cA false, 512, .inl (xT 6))), (pT 7, .inl (cA true, 512, .inl (xT 7))), (pT 8, .inl (cA true, 512, .inl (xT 8))), (pF 0, .inr (1, [.ref (pD 0), .ref (pT 0)]))] H := hP2
  have hD : va_D A [(h0, .inr (7, [.ref (pD 0), .ref (pT 0), .null, .null, .null, .null, .null, .null, .int 0])), (pD 0, .inr (0, [.ref (pD 1), .ref (pD 2), .ref (pD 3), .ref (pD 4), .ref (pD 5), .ref (pD 6), .ref (pD 7), .ref (pD 8), .ref (pD 9), .ref (pD 10), .ref (pD 11), .int (xD 0 11)])), (pD 1, .inl (cA false, 12, .inl (xD 1))), (pD 2, .inl (cA false, 12, .inl (xD 2))), (pD 3, .inl (cA false, 12, .inl (xD 3))), (pD 4, .inl (cA false, 12, .inl (xD 4))), (pD 5, .inl (cA false, 12, .inl (xD 5))), (pD 6, .inl (cA false, 108, .inl (xD 6))), (pD 7, .inl (cA false, 36, .inl (xD 7))), (pD 8, .inl (cA false, 36, .inl (xD 8))), (pD 9, .inl (cA false, 36, .inl (xD 9))), (pD 10, .inl (cA false, 12, .inl (xD 10))), (pD 11, .inl (cA false, 12, .inl (xD 11))), (pT 0, .inr (6, [.ref (pD 0), .ref (pT 1), .ref (pT 2), .ref (pT 3), .ref (pT 4), .ref (pT 5), .ref (pT 6), .ref (pT 7), .ref (pT 8), .int (xT 0 9), .int (xT 0 10), .int (xT 0 11), .int (xT 0 12)])), (pT 1, .inl (cA false, 512, .inl (xT 1))), (pT 2, .inl (cA false, 512, .inl (xT 2))), (pT 3, .inl (cA false, 512, .inl (xT 3))), (pT 4, .inl (cA false, 512, .inl (xT 4))), (pT 5, .inl (cA false, 1536, .inl (xT 5))), (pT 6, .inl (cA false, 512, .inl (xT 6))), (pT 7, .inl (cA true, 512, .inl (xT 7))), (pT 8, .inl (cA true, 512, .inl (xT 8))), (pF 0, .inr (1, [.ref (pD 0), .ref (pT 0)]))] := hD2
  have hS := hS2
  refine W.widen (k := 22) (n := 5447) (Nat.le_of_ble_eq_true rfl) (Nat.le_of_ble_eq_true rfl) ?_
  refine va_putF (D := D) (ci := 7) (a := h0) (v := .ref (pF 0)) (ty := .object RX1) (C := RX7) (T := TX7) (N := 9) (index := 30) hx hb hts hin2 ty0 t1 t2 hown hK hP hD hS 0 rfl rfl 2 (Nat.le_of_ble_eq_true rfl) (hts _ (hin _ (ai_tb_at (i := 288) (by decide +kernel) rfl))) (fun _ h9 => h9) rfl hini rfl (by decide +kernel) rfl rfl (Nat.le_of_ble_eq_true rfl) dC_46 (fun H locs hP hD hS => ?_)
  have hP : va_P D ai_cl [(h0, .inr (7, [.ref (pD 0), .ref (pT 0), .ref (pF 0), .null, .null, .null, .null, .null, .int 0])), (pD 0, .inr (0, [.ref (pD 1), .ref (pD 2), .ref (pD 3), .ref (pD 4), .ref (pD 5), .ref (pD 6), .ref (pD 7), .ref (pD 8), .ref (pD 9), .ref (pD 10), .ref (pD 11), .int (xD 0 11)])), (pD 1, .inl (cA false, 12, .inl (xD 1))), (pD 2, .inl (cA false, 12, .inl (xD 2))), (pD 3, .inl (cA false, 12, .inl (xD 3))), (pD 4, .inl (cA false, 12, .inl (xD 4))), (pD 5, .inl (cA false, 12, .inl (xD 5))), (pD 6, .inl (cA false, 108, .inl (xD 6))), (pD 7, .inl (cA false, 36, .inl (xD 7))), (pD 8, .inl (cA false, 36, .inl (xD 8))), (pD 9, .inl (cA false, 36, .inl (xD 9))), (pD 10, .inl (cA false, 12, .inl (xD 10))), (pD 11, .inl (cA false, 12, .inl (xD 11))), (pT 0, .inr (6, [.ref (pD 0), .ref (pT 1), .ref (pT 2), .ref (pT 3), .ref (pT 4), .ref (pT 5), .ref (pT 6), .ref (pT 7), .ref (pT 8), .int (xT 0 9), .int (xT 0 10), .int (xT 0 11), .int (xT 0 12)])), (pT 1, .inl (cA false, 512, .inl (xT 1))), (pT 2, .inl (cA false, 512, .inl (xT 2))), (pT 3, .inl (cA false, 512, .inl (xT 3))), (pT 4, .inl (cA false, 512, .inl (xT 4))), (pT 5, .inl (cA false, 1536, .inl (xT 5))), (pT 6, .inl (cA false, 512, .inl (xT 6))), (pT 7, .inl (cA true, 512, .inl (xT 7))), (pT 8, .inl (cA true, 512, .inl (xT 8))), (pF 0, .inr (1, [.ref (pD 0), .ref (pT 0)]))] H := hP
  have hD : va_D A [(h0, .inr (7, [.ref (pD 0), .ref (pT 0), .ref (pF 0), .null, .null, .null, .null, .null, .int 0])), (pD 0, .inr (0, [.ref (pD 1), .ref (pD 2), .ref (pD 3), .ref (pD 4), .ref (pD 5), .ref (pD 6), .ref (pD 7), .ref (pD 8), .ref (pD 9), .ref (pD 10), .ref (pD 11), .int (xD 0 11)])), (pD 1, .inl (cA false, 12, .inl (xD 1))), (pD 2, .inl (cA false, 12, .inl (xD 2))), (pD 3, .inl (cA false, 12, .inl (xD 3))), (pD 4, .inl (cA false, 12, .inl (xD 4))), (pD 5, .inl (cA false, 12, .inl (xD 5))), (pD 6, .inl (cA false, 108, .inl (xD 6))), (pD 7, .inl (cA false, 36, .inl (xD 7))), (pD 8, .inl (cA false, 36, .inl (xD 8))), (pD 9, .inl (cA false, 36, .inl (xD 9))), (pD 10, .inl (cA false, 12, .inl (xD 10))), (pD 11, .inl (cA false, 12, .inl (xD 11))), (pT 0, .inr (6, [.ref (pD 0), .ref (pT 1), .ref (pT 2), .ref (pT 3), .ref (pT 4), .ref (pT 5), .ref (pT 6), .ref (pT 7), .ref (pT 8), .int (xT 0 9), .int (xT 0 10), .int (xT 0 11), .int (xT 0 12)])), (pT 1, .inl (cA false, 512, .inl (xT 1))), (pT 2, .inl (cA false, 512, .inl (xT 2))), (pT 3, .inl (cA false, 512, .inl (xT 3))), (pT 4, .inl (cA false, 512, .inl (xT 4))), (pT 5, .inl (cA false, 1536, .inl (xT 5))), (pT 6, .inl (cA false, 512, .inl (xT 6))), (pT 7, .inl (cA true, 512, .inl (xT 7))), (pT 8, .inl (cA true, 512, .inl (xT 8))), (pF 0, .inr (1, [.ref (pD 0), .ref (pT 0)]))] := hD
  refine lv_aload_n hx hb dC_49 rfl hl0 ?_
  refine ac_new1 (ci := 2) (N := 3) (C := RX2) (T := TX2) (df := [.null, .null, .null]) hx hb hown hts hin hK hA rfl dd_O wl_O.1 wl_O.2.1 wl_O.2.2 hP hD hS (Nat.le_of_ble_eq_true rfl) (Nat.le_of_ble_eq_true rfl) dC_50 dC_53 (fun qO H hP hD hS => ?_)
  refine ac_gets (ci := 7) (T := TX7) (N := 9) (a := h0) (fs := [.ref (pD 0), .ref (pT 0), .ref (pF 0), .null, .null, .null, .null, .null, .int 0]) (wr := ([(pD 0, .inr (0, [.ref (pD 1), .ref (pD 2), .ref (pD 3), .ref (pD 4), .ref (pD 5), .ref (pD 6), .ref (pD 7), .ref (pD 8), .ref (pD 9), .ref (pD 10), .ref (pD 11), .int (xD 0 11)])), (pD 1, .inl (cA false, 12, .inl (xD 1))), (pD 2, .inl (cA false, 12, .inl (xD 2))), (pD 3, .inl (cA false, 12, .inl (xD 3))), (pD 4, .inl (cA false, 12, .inl (xD 4))), (pD 5, .inl (cA false, 12, .inl (xD 5))), (pD 6, .inl (cA false, 108, .inl (xD 6))), (pD 7, .inl (cA false, 36, .inl (xD 7))), (pD 8, .inl (cA false, 36, .inl (xD 8))), (pD 9, .inl (cA false, 36, .inl (xD 9))), (pD 10, .inl (cA false, 12, .inl (xD 10))), (pD 11, .inl (cA false, 12, .inl (xD 11))), (pT 0, .inr (6, [.ref (pD 0), .ref (pT 1), .ref (pT 2), .ref (pT 3), .ref (pT 4), .ref (pT 5), .ref (pT 6), .ref (pT 7), .ref (pT 8), .int (xT 0 9), .int (xT 0 10), .int (xT 0 11), .int (xT 0 12)])), (pT 1, .inl (cA false, 512, .inl (xT 1))), (pT 2, .inl (cA false, 512, .inl (xT 2))), (pT 3, .inl (cA false, 512, .inl (xT 3))), (pT 4, .inl (cA false, 512, .inl (xT 4))), (pT 5, .inl (cA false, 1536, .inl (xT 5))), (pT 6, .inl (cA false, 512, .inl (xT 6))), (pT 7, .inl (cA true, 512, .inl (xT 7))), (pT 8, .inl (cA true, 512, .inl (xT 8))), (pF 0, .inr (1, [.ref (pD 0), .ref (pT 0)]))] : va_W) ++ ac_w0 qO 2 [.null, .null, .null]) hx hb hown hts hin hK rfl hl0 hP [(0, 10, 286), (1, 21, 287), (2, 30, 288)] [(pD 0), (pT 0), (pF 0)] 54 [.ref qO, .ref qO, .ref h0] gk_O rfl ?_
  refine ac_call1 (y := yX2_init) (q := qO) (ci := 2) (df := [.null, .null, .null]) (rs := [(pD 0), (pT 0), (pF 0)]) (rest := [.ref qO, .ref h0]) (ix := 36) (pc := 66) hx hb hml hown hts hin hN hK hA (ct_O l D cA ((pD 0)) ((pT 0)) ((pF 0))) wm_O.1 wm_O.2.1 wl_O.2.2 wm_O.2.2 rfl wy_O ⟨Nat.le_of_ble_eq_true rfl, Nat.le_of_ble_eq_true rfl⟩ hls (Nat.le_of_ble_eq_true rfl) hP hD hS (Nat.le_of_ble_eq_true rfl) (Nat.le_of_ble_eq_true rfl) dC_66 (fun u H locs hu hP2 hD2 hS2 => ?_)
  obtain ⟨pO, xO⟩ := u
  obtain ⟨eO, fO, gO_⟩ := hu
  have fO0 : pO 1 = (pD 0) := fO 0 _ rfl
  have fO1 : pO 2 = (pT 0) := fO 1 _ rfl
  have fO2 : pO 3 = (pF 0) := fO 2 _ rfl
  have eO : pO 0 = qO := eO
  subst eO
  (try dsimp only at hP2 hD2)
  rw [ws_O, fO0, fO1, fO2] at hP2 hD2
  have hP : va_P D ai_cl [(h0, .inr (7, [.ref (pD 0), .ref (pT 0), .ref (pF 0), .null, .null, .null, .null, .null, .int 0])), (pD 0, .inr (0, [.ref (pD 1), .ref (pD 2), .ref (pD 3), .ref (pD 4), .ref (pD 5), .ref (pD 6), .ref (pD 7), .ref (pD 8), .ref (pD 9), .ref (pD 10), .ref (pD 11), .int (xD 0 11)])), (pD 1, .inl (cA false, 12, .inl (xD 1))), (pD 2, .inl (cA false, 12, .inl (xD 2))), (pD 3, .inl (cA false, 12, .inl (xD 3))), (pD 4, .inl (cA false, 12, .inl (xD 4))), (pD 5, .inl (cA false, 12, .inl (xD 5))), (pD 6, .inl (cA false, 108, .inl (xD 6))), (pD 7, .inl (cA false, 36, .inl (xD 7))), (pD 8, .inl (cA false, 36, .inl (xD 8))), (pD 9, .inl (cA false, 36, .inl (xD 9))), (pD 10, .inl (cA false, 12, .inl (xD 10))), (pD 11, .inl (cA false, 12, .inl (xD 11))), (pT 0, .inr (6, [.ref (pD 0), .ref (pT 1), .ref (pT 2), .ref (pT 3), .ref (pT 4), .ref (pT 5), .ref (pT 6), .ref (pT 7), .ref (pT 8), .int (xT 0 9), .int (xT 0 10), .int (xT 0 11), .int (xT 0 12)])), (pT 1, .inl (cA false, 512, .inl (xT 1))), (pT 2, .inl (cA false, 512, .inl (xT 2))), (pT 3, .inl (cA false, 512, .inl (xT 3))), (pT 4, .inl (cA false, 512, .inl (xT 4))), (pT 5, .inl (cA false, 1536, .inl (xT 5))), (pT 6, .inl (cA false, 512, .inl (xT 6))), (pT 7, .inl (cA true, 512, .inl (xT 7))), (pT 8, .inl (cA true, 512, .inl (xT 8))), (pF 0, .inr (1, [.ref (pD 0), .ref (pT 0)])), (pO 0, .inr (2, [.ref (pD 0), .ref (pT 0), .ref (pF 0)]))] H := hP2
  have hD : va_D A [(h0, .inr (7, [.ref (pD 0), .ref (pT 0), .ref (pF 0), .null, .null, .null, .null, .null, .int 0])), (pD 0, .inr (0, [.ref (pD 1), .ref (pD 2), .ref (pD 3), .ref (pD 4), .ref (pD 5), .ref (pD 6), .ref (pD 7), .ref (pD 8), .ref (pD 9), .ref (pD 10), .ref (pD 11), .int (xD 0 11)])), (pD 1, .inl (cA false, 12, .inl (xD 1))), (pD 2, .inl (cA false, 12, .inl (xD 2))), (pD 3, .inl (cA false, 12, .inl (xD 3))), (pD 4, .inl (cA false, 12, .inl (xD 4))), (pD 5, .inl (cA false, 12, .inl (xD 5))), (pD 6, .inl (cA false, 108, .inl (xD 6))), (pD 7, .inl (cA false, 36, .inl (xD 7))), (pD 8, .inl (cA false, 36, .inl (xD 8))), (pD 9, .inl (cA false, 36, .inl (xD 9))), (pD 10, .inl (cA false, 12, .inl (xD 10))), (pD 11, .inl (cA false, 12, .inl (xD 11))), (pT 0, .inr (6, [.ref (pD 0), .ref (pT 1), .ref (pT 2), .ref (pT 3), .ref (pT 4), .ref (pT 5), .ref (pT 6), .ref (pT 7), .ref (pT 8), .int (xT 0 9), .int (xT 0 10), .int (xT 0 11), .int (xT 0 12)])), (pT 1, .inl (cA false, 512, .inl (xT 1))), (pT 2, .inl (cA false, 512, .inl (xT 2))), (pT 3, .inl (cA false, 512, .inl (xT 3))), (pT 4, .inl (cA false, 512, .inl (xT 4))), (pT 5, .inl (cA false, 1536, .inl (xT 5))), (pT 6, .inl (cA false, 512, .inl (xT 6))), (pT 7, .inl (cA true, 512, .inl (xT 7))), (pT 8, .inl (cA true, 512, .inl (xT 8))), (pF 0, .inr (1, [.ref (pD 0), .ref (pT 0)])), (pO 0, .inr (2, [.ref (pD 0), .ref (pT 0), .ref (pF 0)]))] := hD2
  have hS := hS2
  refine W.widen (k := 23) (n := 5450) (Nat.le_of_ble_eq_true rfl) (Nat.le_of_ble_eq_true rfl) ?_
  refine va_putF (D := D) (ci := 7) (a := h0) (v := .ref (pO 0)) (ty := .object RX2) (C := RX7) (T := TX7) (N := 9) (index := 39) hx hb hts hin2 ty0 t1 t2 hown hK hP hD hS 0 rfl rfl 3 (Nat.le_of_ble_eq_true rfl) (hts _ (hin _ (ai_tb_at (i := 289) (by decide +kernel) rfl))) (fun _ h9 => h9) rfl hini rfl (by decide +kernel) rfl rfl (Nat.le_of_ble_eq_true rfl) dC_69 (fun H locs hP hD hS => ?_)
  have hP : va_P D ai_cl [(h0, .inr (7, [.ref (pD 0), .ref (pT 0), .ref (pF 0), .ref (pO 0), .null, .null, .null, .null, .int 0])), (pD 0, .inr (0, [.ref (pD 1), .ref (pD 2), .ref (pD 3), .ref (pD 4), .ref (pD 5), .ref (pD 6), .ref (pD 7), .ref (pD 8), .ref (pD 9), .ref (pD 10), .ref (pD 11), .int (xD 0 11)])), (pD 1, .inl (cA false, 12, .inl (xD 1))), (pD 2, .inl (cA false, 12, .inl (xD 2))), (pD 3, .inl (cA false, 12, .inl (xD 3))), (pD 4, .inl (cA false, 12, .inl (xD 4))), (pD 5, .inl (cA false, 12, .inl (xD 5))), (pD 6, .inl (cA false, 108, .inl (xD 6))), (pD 7, .inl (cA false, 36, .inl (xD 7))), (pD 8, .inl (cA false, 36, .inl (xD 8))), (pD 9, .inl (cA false, 36, .inl (xD 9))), (pD 10, .inl (cA false, 12, .inl (xD 10))), (pD 11, .inl (cA false, 12, .inl (xD 11))), (pT 0, .inr (6, [.ref (pD 0), .ref (pT 1), .ref (pT 2), .ref (pT 3), .ref (pT 4), .ref (pT 5), .ref (pT 6), .ref (pT 7), .ref (pT 8), .int (xT 0 9), .int (xT 0 10), .int (xT 0 11), .int (xT 0 12)])), (pT 1, .inl (cA false, 512, .inl (xT 1))), (pT 2, .inl (cA false, 512, .inl (xT 2))), (pT 3, .inl (cA false, 512, .inl (xT 3))), (pT 4, .inl (cA false, 512, .inl (xT 4))), (pT 5, .inl (cA false, 1536, .inl (xT 5))), (pT 6, .inl (cA false, 512, .inl (xT 6))), (pT 7, .inl (cA true, 512, .inl (xT 7))), (pT 8, .inl (cA true, 512, .inl (xT 8))), (pF 0, .inr (1, [.ref (pD 0), .ref (pT 0)])), (pO 0, .inr (2, [.ref (pD 0), .ref (pT 0), .ref (pF 0)]))] H := hP
  have hD : va_D A [(h0, .inr (7, [.ref (pD 0), .ref (pT 0), .ref (pF 0), .ref (pO 0), .null, .null, .null, .null, .int 0])), (pD 0, .inr (0, [.ref (pD 1), .ref (pD 2), .ref (pD 3), .ref (pD 4), .ref (pD 5), .ref (pD 6), .ref (pD 7), .ref (pD 8), .ref (pD 9), .ref (pD 10), .ref (pD 11), .int (xD 0 11)])), (pD 1, .inl (cA false, 12, .inl (xD 1))), (pD 2, .inl (cA false, 12, .inl (xD 2))), (pD 3, .inl (cA false, 12, .inl (xD 3))), (pD 4, .inl (cA false, 12, .inl (xD 4))), (pD 5, .inl (cA false, 12, .inl (xD 5))), (pD 6, .inl (cA false, 108, .inl (xD 6))), (pD 7, .inl (cA false, 36, .inl (xD 7))), (pD 8, .inl (cA false, 36, .inl (xD 8))), (pD 9, .inl (cA false, 36, .inl (xD 9))), (pD 10, .inl (cA false, 12, .inl (xD 10))), (pD 11, .inl (cA false, 12, .inl (xD 11))), (pT 0, .inr (6, [.ref (pD 0), .ref (pT 1), .ref (pT 2), .ref (pT 3), .ref (pT 4), .ref (pT 5), .ref (pT 6), .ref (pT 7), .ref (pT 8), .int (xT 0 9), .int (xT 0 10), .int (xT 0 11), .int (xT 0 12)])), (pT 1, .inl (cA false, 512, .inl (xT 1))), (pT 2, .inl (cA false, 512, .inl (xT 2))), (pT 3, .inl (cA false, 512, .inl (xT 3))), (pT 4, .inl (cA false, 512, .inl (xT 4))), (pT 5, .inl (cA false, 1536, .inl (xT 5))), (pT 6, .inl (cA false, 512, .inl (xT 6))), (pT 7, .inl (cA true, 512, .inl (xT 7))), (pT 8, .inl (cA true, 512, .inl (xT 8))), (pF 0, .inr (1, [.ref (pD 0), .ref (pT 0)])), (pO 0, .inr (2, [.ref (pD 0), .ref (pT 0), .ref (pF 0)]))] := hD
  refine lv_aload_n hx hb dC_72 rfl hl0 ?_
  refine ac_new1 (ci := 5) (N := 4) (C := RX5) (T := TX5) (df := [.null, .null, .null, .null]) hx hb hown hts hin hK hA rfl dd_U wl_U.1 wl_U.2.1 wl_U.2.2 hP hD hS (Nat.le_of_ble_eq_true rfl) (Nat.le_of_ble_eq_true rfl) dC_73 dC_76 (fun qU H hP hD hS => ?_)
  refine ac_gets (ci := 7) (T := TX7) (N := 9) (a := h0) (fs := [.ref (pD 0), .ref (pT 0), .ref (pF 0), .ref (pO 0), .null, .null, .null, .null, .int 0]) (wr := ([(pD 0, .inr (0, [.ref (pD 1), .ref (pD 2), .ref (pD 3), .ref (pD 4), .ref (pD 5), .ref (pD 6), .ref (pD 7), .ref (pD 8), .ref (pD 9), .ref (pD 10), .ref (pD 11), .int (xD 0 11)])), (pD 1, .inl (cA false, 12, .inl (xD 1))), (pD 2, .inl (cA false, 12, .inl (xD 2))), (pD 3, .inl (cA false, 12, .inl (xD 3))), (pD 4, .inl (cA false, 12, .inl (xD 4))), (pD 5, .inl (cA false, 12, .inl (xD 5))), (pD 6, .inl (cA false, 108, .inl (xD 6))), (pD 7, .inl (cA false, 36, .inl (xD 7))), (pD 8, .inl (cA false, 36, .inl (xD 8))), (pD 9, .inl (cA false, 36, .inl (xD 9))), (pD 10, .inl (cA false, 12, .inl (xD 10))), (pD 11, .inl (cA false, 12, .inl (xD 11))), (pT 0, .inr (6, [.ref (pD 0), .ref (pT 1), .ref (pT 2), .ref (pT 3), .ref (pT 4), .ref (pT 5), .ref (pT 6), .ref (pT 7), .ref (pT 8), .int (xT 0 9), .int (xT 0 10), .int (xT 0 11), .int (xT 0 12)])), (pT 1, .inl (cA false, 512, .inl (xT 1))), (pT 2, .inl (cA false, 512, .inl (xT 2))), (pT 3, .inl (cA false, 512, .inl (xT 3))), (pT 4, .inl (cA false, 512, .inl (xT 4))), (pT 5, .inl (cA false, 1536, .inl (xT 5))), (pT 6, .inl (cA false, 512, .inl (xT 6))), (pT 7, .inl (cA true, 512, .inl (xT 7))), (pT 8, .inl (cA true, 512, .inl (xT 8))), (pF 0, .inr (1, [.ref (pD 0), .ref (pT 0)])), (pO 0, .inr (2, [.ref (pD 0), .ref (pT 0), .ref (pF 0)]))] : va_W) ++ ac_w0 qU 5 [.null, .null, .null, .null]) hx hb hown hts hin hK rfl hl0 hP [(0, 10, 286), (1, 21, 287), (2, 30, 288), (3, 39, 289)] [(pD 0), (pT 0), (pF 0), (pO 0)] 77 [.ref qU, .ref qU, .ref h0] gk_U rfl ?_
  refine ac_call1 (y := yX5_init) (q := qU) (ci := 5) (df := [.null, .null, .null, .null]) (rs := [(pD 0), (pT 0), (pF 0), (pO 0)]) (rest := [.ref qU, .ref h0]) (ix := 45) (pc := 93) hx hb hml hown hts hin hN hK hA (ct_U l D cA ((pD 0)) ((pT 0)) ((pF 0)) ((pO 0))) wm_U.1 wm_U.2.1 wl_U.2.2 wm_U.2.2 rfl wy_U ⟨Nat.le_of_ble_eq_true rfl, Nat.le_of_ble_eq_true rfl⟩ hls (Nat.le_of_ble_eq_true rfl) hP hD hS (Nat.le_of_ble_eq_true rfl) (Nat.le_of_ble_eq_true rfl) dC_93 (fun u H locs hu hP2 hD2 hS2 => ?_)
  obtain ⟨pU, xU⟩ := u
  obtain ⟨eU, fU, gU_⟩ := hu
  have fU0 : pU 1 = (pD 0) := fU 0 _ rfl
  have fU1 : pU 2 = (pT 0) := fU 1 _ rfl
  have fU2 : pU 3 = (pF 0) := fU 2 _ rfl
  have fU3 : pU 4 = (pO 0) := fU 3 _ rfl
  have eU : pU 0 = qU := eU
  subst eU
  (try dsimp only at hP2 hD2)
  rw [ws_U, fU0, fU1, fU2, fU3] at hP2 hD2
  have hP : va_P D ai_cl [(h0, .inr (7, [.ref (pD 0), .ref (pT 0), .ref (pF 0), .ref (pO 0), .null, .null, .null, .null, .int 0])), (pD 0, .inr (0, [.ref (pD 1), .ref (pD 2), .ref (pD 3), .ref (pD 4), .ref (pD 5), .ref (pD 6), .ref (pD 7), .ref (pD 8), .ref (pD 9), .ref (pD 10), .ref (pD 11), .int (xD 0 11)])), (pD 1, .inl (cA false, 12, .inl (xD 1))), (pD 2, .inl (cA false, 12, .inl (xD 2))), (pD 3, .inl (cA false, 12, .inl (xD 3))), (pD 4, .inl (cA false, 12, .inl (xD 4))), (pD 5, .inl (cA false, 12, .inl (xD 5))), (pD 6, .inl (cA false, 108, .inl (xD 6))), (pD 7, .inl (cA false, 36, .inl (xD 7))), (pD 8, .inl (cA false, 36, .inl (xD 8))), (pD 9, .inl (cA false, 36, .inl (xD 9))), (pD 10, .inl (cA false, 12, .inl (xD 10))), (pD 11, .inl (cA false, 12, .inl (xD 11))), (pT 0, .inr (6, [.ref (pD 0), .ref (pT 1), .ref (pT 2), .ref (pT 3), .ref (pT 4), .ref (pT 5), .ref (pT 6), .ref (pT 7), .ref (pT 8), .int (xT 0 9), .int (xT 0 10), .int (xT 0 11), .int (xT 0 12)])), (pT 1, .inl (cA false, 512, .inl (xT 1))), (pT 2, .inl (cA false, 512, .inl (xT 2))), (pT 3, .inl (cA false, 512, .inl (xT 3))), (pT 4, .inl (cA false, 512, .inl (xT 4))), (pT 5, .inl (cA false, 1536, .inl (xT 5))), (pT 6, .inl (cA false, 512, .inl (xT 6))), (pT 7, .inl (cA true, 512, .inl (xT 7))), (pT 8, .inl (cA true, 512, .inl (xT 8))), (pF 0, .inr (1, [.ref (pD 0), .ref (pT 0)])), (pO 0, .inr (2, [.ref (pD 0), .ref (pT 0), .ref (pF 0)])), (pU 0, .inr (5, [.ref (pD 0), .ref (pT 0), .ref (pF 0), .ref (pO 0)]))] H := hP2
  have hD : va_D A [(h0, .inr (7, [.ref (pD 0), .ref (pT 0), .ref (pF 0), .ref (pO 0), .null, .null, .null, .null, .int 0])), (pD 0, .inr (0, [.ref (pD 1), .ref (pD 2), .ref (pD 3), .ref (pD 4), .ref (pD 5), .ref (pD 6), .ref (pD 7), .ref (pD 8), .ref (pD 9), .ref (pD 10), .ref (pD 11), .int (xD 0 11)])), (pD 1, .inl (cA false, 12, .inl (xD 1))), (pD 2, .inl (cA false, 12, .inl (xD 2))), (pD 3, .inl (cA false, 12, .inl (xD 3))), (pD 4, .inl (cA false, 12, .inl (xD 4))), (pD 5, .inl (cA false, 12, .inl (xD 5))), (pD 6, .inl (cA false, 108, .inl (xD 6))), (pD 7, .inl (cA false, 36, .inl (xD 7))), (pD 8, .inl (cA false, 36, .inl (xD 8))), (pD 9, .inl (cA false, 36, .inl (xD 9))), (pD 10, .inl (cA false, 12, .inl (xD 10))), (pD 11, .inl (cA false, 12, .inl (xD 11))), (pT 0, .inr (6, [.ref (pD 0), .ref (pT 1), .ref (pT 2), .ref (pT 3), .ref (pT 4), .ref (pT 5), .ref (pT 6), .ref (pT 7), .ref (pT 8), .int (xT 0 9), .int (xT 0 10), .int (xT 0 11), .int (xT 0 12)])), (pT 1, .inl (cA false, 512, .inl (xT 1))), (pT 2, .inl (cA false, 512, .inl (xT 2))), (pT 3, .inl (cA false, 512, .inl (xT 3))), (pT 4, .inl (cA false, 512, .inl (xT 4))), (pT 5, .inl (cA false, 1536, .inl (xT 5))), (pT 6, .inl (cA false, 512, .inl (xT 6))), (pT 7, .inl (cA true, 512, .inl (xT 7))), (pT 8, .inl (cA true, 512, .inl (xT 8))), (pF 0, .inr (1, [.ref (pD 0), .ref (pT 0)])), (pO 0, .inr (2, [.ref (pD 0), .ref (pT 0), .ref (pF 0)])), (pU 0, .inr (5, [.ref (pD 0), .ref (pT 0), .ref (pF 0), .ref (pO 0)]))] := hD2
  have hS := hS2
  refine W.widen (k := 24) (n := 5454) (Nat.le_of_ble_eq_true rfl) (Nat.le_of_ble_eq_true rfl) ?_
  refine va_putF (D := D) (ci := 7) (a := h0) (v := .ref (pU 0)) (ty := .object RX5) (C := RX7) (T := TX7) (N := 9) (index := 48) hx hb hts hin2 ty0 t1 t2 hown hK hP hD hS 0 rfl rfl 4 (Nat.le_of_ble_eq_true rfl) (hts _ (hin _ (ai_tb_at (i := 290) (by decide +kernel) rfl))) (fun _ h9 => h9) rfl hini rfl (by decide +kernel) rfl rfl (Nat.le_of_ble_eq_true rfl) dC_96 (fun H locs hP hD hS => ?_)
  have hP : va_P D ai_cl [(h0, .inr (7, [.ref (pD 0), .ref (pT 0), .ref (pF 0), .ref (pO 0), .ref (pU 0), .null, .null, .null, .int 0])), (pD 0, .inr (0, [.ref (pD 1), .ref (pD 2), .ref (pD 3), .ref (pD 4), .ref (pD 5), .ref (pD 6), .ref (pD 7), .ref (pD 8), .ref (pD 9), .ref (pD 10), .ref (pD 11), .int (xD 0 11)])), (pD 1, .inl (cA false, 12, .inl (xD 1))), (pD 2, .inl (cA false, 12, .inl (xD 2))), (pD 3, .inl (cA false, 12, .inl (xD 3))), (pD 4, .inl (cA false, 12, .inl (xD 4))), (pD 5, .inl (cA false, 12, .inl (xD 5))), (pD 6, .inl (cA false, 108, .inl (xD 6))), (pD 7, .inl (cA false, 36, .inl (xD 7))), (pD 8, .inl (cA false, 36, .inl (xD 8))), (pD 9, .inl (cA false, 36, .inl (xD 9))), (pD 10, .inl (cA false, 12, .inl (xD 10))), (pD 11, .inl (cA false, 12, .inl (xD 11))), (pT 0, .inr (6, [.ref (pD 0), .ref (pT 1), .ref (pT 2), .ref (pT 3), .ref (pT 4), .ref (pT 5), .ref (pT 6), .ref (pT 7), .ref (pT 8), .int (xT 0 9), .int (xT 0 10), .int (xT 0 11), .int (xT 0 12)])), (pT 1, .inl (cA false, 512, .inl (xT 1))), (pT 2, .inl (cA false, 512, .inl (xT 2))), (pT 3, .inl (cA false, 512, .inl (xT 3))), (pT 4, .inl (cA false, 512, .inl (xT 4))), (pT 5, .inl (cA false, 1536, .inl (xT 5))), (pT 6, .inl (cA false, 512, .inl (xT 6))), (pT 7, .inl (cA true, 512, .inl (xT 7))), (pT 8, .inl (cA true, 512, .inl (xT 8))), (pF 0, .inr (1, [.ref (pD 0), .ref (pT 0)])), (pO 0, .inr (2, [.ref (pD 0), .ref (pT 0), .ref (pF 0)])), (pU 0, .inr (5, [.ref (pD 0), .ref (pT 0), .ref (pF 0), .ref (pO 0)]))] H := hP
  have hD : va_D A [(h0, .inr (7, [.ref (pD 0), .ref (pT 0), .ref (pF 0), .ref (pO 0), .ref (pU 0), .null, .null, .null, .int 0])), (pD 0, .inr (0, [.ref (pD 1), .ref (pD 2), .ref (pD 3), .ref (pD 4), .ref (pD 5), .ref (pD 6), .ref (pD 7), .ref (pD 8), .ref (pD 9), .ref (pD 10), .ref (pD 11), .int (xD 0 11)])), (pD 1, .inl (cA false, 12, .inl (xD 1))), (pD 2, .inl (cA false, 12, .inl (xD 2))), (pD 3, .inl (cA false, 12, .inl (xD 3))), (pD 4, .inl (cA false, 12, .inl (xD 4))), (pD 5, .inl (cA false, 12, .inl (xD 5))), (pD 6, .inl (cA false, 108, .inl (xD 6))), (pD 7, .inl (cA false, 36, .inl (xD 7))), (pD 8, .inl (cA false, 36, .inl (xD 8))), (pD 9, .inl (cA false, 36, .inl (xD 9))), (pD 10, .inl (cA false, 12, .inl (xD 10))), (pD 11, .inl (cA false, 12, .inl (xD 11))), (pT 0, .inr (6, [.ref (pD 0), .ref (pT 1), .ref (pT 2), .ref (pT 3), .ref (pT 4), .ref (pT 5), .ref (pT 6), .ref (pT 7), .ref (pT 8), .int (xT 0 9), .int (xT 0 10), .int (xT 0 11), .int (xT 0 12)])), (pT 1, .inl (cA false, 512, .inl (xT 1))), (pT 2, .inl (cA false, 512, .inl (xT 2))), (pT 3, .inl (cA false, 512, .inl (xT 3))), (pT 4, .inl (cA false, 512, .inl (xT 4))), (pT 5, .inl (cA false, 1536, .inl (xT 5))), (pT 6, .inl (cA false, 512, .inl (xT 6))), (pT 7, .inl (cA true, 512, .inl (xT 7))), (pT 8, .inl (cA true, 512, .inl (xT 8))), (pF 0, .inr (1, [.ref (pD 0), .ref (pT 0)])), (pO 0, .inr (2, [.ref (pD 0), .ref (pT 0), .ref (pF 0)])), (pU 0, .inr (5, [.ref (pD 0), .ref (pT 0), .ref (pF 0), .ref (pO 0)]))] := hD
  refine lv_aload_n hx hb dC_99 rfl hl0 ?_
  refine ac_new1 (ci := 4) (N := 7) (C := RX4) (T := TX4) (df := [.null, .null, .null, .null, .int 0, .int 0, .int 0]) hx hb hown hts hin hK hA rfl dd_E wl_E.1 wl_E.2.1 wl_E.2.2 hP hD hS (Nat.le_of_ble_eq_true rfl) (Nat.le_of_ble_eq_true rfl) dC_100 dC_103 (fun qE H hP hD hS => ?_)
  refine ac_gets (ci := 7) (T := TX7) (N := 9) (a := h0) (fs := [.ref (pD 0), .ref (pT 0), .ref (pF 0), .ref (pO 0), .ref (pU 0), .null, .null, .null, .int 0]) (wr := ([(pD 0, .inr (0, [.ref (pD 1), .ref (pD 2), .ref (pD 3), .ref (pD 4), .ref (pD 5), .ref (pD 6), .ref (pD 7), .ref (pD 8), .ref (pD 9), .ref (pD 10), .ref (pD 11), .int (xD 0 11)])), (pD 1, .inl (cA false, 12, .inl (xD 1))), (pD 2, .inl (cA false, 12, .inl (xD 2))), (pD 3, .inl (cA false, 12, .inl (xD 3))), (pD 4, .inl (cA false, 12, .inl (xD 4))), (pD 5, .inl (cA false, 12, .inl (xD 5))), (pD 6, .inl (cA false, 108, .inl (xD 6))), (pD 7, .inl (cA false, 36, .inl (xD 7))), (pD 8, .inl (cA false, 36, .inl (xD 8))), (pD 9, .inl (cA false, 36, .inl (xD 9))), (pD 10, .inl (cA false, 12, .inl (xD 10))), (pD 11, .inl (cA false, 12, .inl (xD 11))), (pT 0, .inr (6, [.ref (pD 0), .ref (pT 1), .ref (pT 2), .ref (pT 3), .ref (pT 4), .ref (pT 5), .ref (pT 6), .ref (pT 7), .ref (pT 8), .int (xT 0 9), .int (xT 0 10), .int (xT 0 11), .int (xT 0 12)])), (pT 1, .inl (cA false, 512, .inl (xT 1))), (pT 2, .inl (cA false, 512, .inl (xT 2))), (pT 3, .inl (cA false, 512, .inl (xT 3))), (pT 4, .inl (cA false, 512, .inl (xT 4))), (pT 5, .inl (cA false, 1536, .inl (xT 5))), (pT 6, .inl (cA false, 512, .inl (xT 6))), (pT 7, .inl (cA true, 512, .inl (xT 7))), (pT 8, .inl (cA true, 512, .inl (xT 8))), (pF 0, .inr (1, [.ref (pD 0), .ref (pT 0)])), (pO 0, .inr (2, [.ref (pD 0), .ref (pT 0), .ref (pF 0)])), (pU 0, .inr (5, [.ref (pD 0), .ref (pT 0), .ref (pF 0), .ref (pO 0)]))] : va_W) ++ ac_w0 qE 4 [.null, .null, .null, .null, .int 0, .int 0, .int 0]) hx hb hown hts hin hK rfl hl0 hP [(0, 10, 286), (1, 21, 287), (4, 48, 290)] [(pD 0), (pT 0), (pU 0)] 104 [.ref qE, .ref qE, .ref h0] gk_E rfl ?_
  refine ac_call1 (y := yX4_init) (q := qE) (ci := 4) (df := [.null, .null, .null, .null, .int 0, .int 0, .int 0]) (rs := [(pD 0), (pT 0), (pU 0)]) (rest := [.ref qE, .ref h0]) (ix := 54) (pc := 116) hx hb hml hown hts hin hN hK hA (ct_E l D cA ((pD 0)) ((pT 0)) ((pU 0))) wm_E.1 wm_E.2.1 wl_E.2.2 wm_E.2.2 rfl wy_E ⟨Nat.le_of_ble_eq_true rfl, Nat.le_of_ble_eq_true rfl⟩ hls (Nat.le_of_ble_eq_true rfl) hP hD hS (Nat.le_of_ble_eq_true rfl) (Nat.le_of_ble_eq_true rfl) dC_116 (fun u H locs hu hP2 hD2 hS2 => ?_)
  obtain ⟨pE, xE⟩ := u
  obtain ⟨eE, fE, gE_⟩ := hu
  have fE0 : pE 2 = (pD 0) := fE 0 _ rfl
  have fE1 : pE 3 = (pT 0) := fE 1 _ rfl
  have fE2 : pE 4 = (pU 0) := fE 2 _ rfl
  have eE : pE 0 = qE := eE
  subst eE
  (try dsimp only at hP2 hD2)
  rw [ws_E, fE0, fE1, fE2] at hP2 hD2
  have hP : va_P D ai_cl [(h0, .inr (7, [.ref (pD 0), .ref (pT 0), .ref (pF 0), .ref (pO 0), .ref (pU 0), .null, .null, .null, .int 0])), (pD 0, .inr (0, [.ref (pD 1), .ref (pD 2), .ref (pD 3), .ref (pD 4), .ref (pD 5), .ref (pD 6), .ref (pD 7), .ref (pD 8), .ref (pD 9), .ref (pD 10), .ref (pD 11), .int (xD 0 11)])), (pD 1, .inl (cA false, 12, .inl (xD 1))), (pD 2, .inl (cA false, 12, .inl (xD 2))), (pD 3, .inl (cA false, 12, .inl (xD 3))), (pD 4, .inl (cA false, 12, .inl (xD 4))), (pD 5, .inl (cA false, 12, .inl (xD 5))), (pD 6, .inl (cA false, 108, .inl (xD 6))), (pD 7, .inl (cA false, 36, .inl (xD 7))), (pD 8, .inl (cA false, 36, .inl (xD 8))), (pD 9, .inl (cA false, 36, .inl (xD 9))), (pD 10, .inl (cA false, 12, .inl (xD 10))), (pD 11, .inl (cA false, 12, .inl (xD 11))), (pT 0, .inr (6, [.ref (pD 0), .ref (pT 1), .ref (pT 2), .ref (pT 3), .ref (pT 4), .ref (pT 5), .ref (pT 6), .ref (pT 7), .ref (pT 8), .int (xT 0 9), .int (xT 0 10), .int (xT 0 11), .int (xT 0 12)])), (pT 1, .inl (cA false, 512, .inl (xT 1))), (pT 2, .inl (cA false, 512, .inl (xT 2))), (pT 3, .inl (cA false, 512, .inl (xT 3))), (pT 4, .inl (cA false, 512, .inl (xT 4))), (pT 5, .inl (cA false, 1536, .inl (xT 5))), (pT 6, .inl (cA false, 512, .inl (xT 6))), (pT 7, .inl (cA true, 512, .inl (xT 7))), (pT 8, .inl (cA true, 512, .inl (xT 8))), (pF 0, .inr (1, [.ref (pD 0), .ref (pT 0)])), (pO 0, .inr (2, [.ref (pD 0), .ref (pT 0), .ref (pF 0)])), (pU 0, .inr (5, [.ref (pD 0), .ref (pT 0), .ref (pF 0), .ref (pO 0)])), (pE 0, .inr (4, [.ref (pD 0), .ref (pT 0), .ref (pU 0), .ref (pE 1), .int (xE 0 4), .int (xE 0 5), .int (xE 0 6)])), (pE 1, .inl (cA false, 100, .inl (xE 1)))] H := hP2
  have hD : va_D A [(h0, .inr (7, [.ref (pD 0), .ref (pT 0), .ref (pF 0), .ref (pO 0), .ref (pU 0), .null, .null, .null, .int 0])), (pD 0, .inr (0, [.ref (pD 1), .ref (pD 2), .ref (pD 3), .ref (pD 4), .ref (pD 5), .ref (pD 6), .ref (pD 7), .ref (pD 8), .ref (pD 9), .ref (pD 10), .ref (pD 11), .int (xD 0 11)])), (pD 1, .inl (cA false, 12, .inl (xD 1))), (pD 2, .inl (cA false, 12, .inl (xD 2))), (pD 3, .inl (cA false, 12, .inl (xD 3))), (pD 4, .inl (cA false, 12, .inl (xD 4))), (pD 5, .inl (cA false, 12, .inl (xD 5))), (pD 6, .inl (cA false, 108, .inl (xD 6))), (pD 7, .inl (cA false, 36, .inl (xD 7))), (pD 8, .inl (cA false, 36, .inl (xD 8))), (pD 9, .inl (cA false, 36, .inl (xD 9))), (pD 10, .inl (cA false, 12, .inl (xD 10))), (pD 11, .inl (cA false, 12, .inl (xD 11))), (pT 0, .inr (6, [.ref (pD 0), .ref (pT 1), .ref (pT 2), .ref (pT 3), .ref (pT 4), .ref (pT 5), .ref (pT 6), .ref (pT 7), .ref (pT 8), .int (xT 0 9), .int (xT 0 10), .int (xT 0 11), .int (xT 0 12)])), (pT 1, .inl (cA false, 512, .inl (xT 1))), (pT 2, .inl (cA false, 512, .inl (xT 2))), (pT 3, .inl (cA false, 512, .inl (xT 3))), (pT 4, .inl (cA false, 512, .inl (xT 4))), (pT 5, .inl (cA false, 1536, .inl (xT 5))), (pT 6, .inl (cA false, 512, .inl (xT 6))), (pT 7, .inl (cA true, 512, .inl (xT 7))), (pT 8, .inl (cA true, 512, .inl (xT 8))), (pF 0, .inr (1, [.ref (pD 0), .ref (pT 0)])), (pO 0, .inr (2, [.ref (pD 0), .ref (pT 0), .ref (pF 0)])), (pU 0, .inr (5, [.ref (pD 0), .ref (pT 0), .ref (pF 0), .ref (pO 0)])), (pE 0, .inr (4, [.ref (pD 0), .ref (pT 0), .ref (pU 0), .ref (pE 1), .int (xE 0 4), .int (xE 0 5), .int (xE 0 6)])), (pE 1, .inl (cA false, 100, .inl (xE 1)))] := hD2
  have hS := hS2
  refine W.widen (k := 26) (n := 5561) (Nat.le_of_ble_eq_true rfl) (Nat.le_of_ble_eq_true rfl) ?_
  refine va_putF (D := D) (ci := 7) (a := h0) (v := .ref (pE 0)) (ty := .object RX4) (C := RX7) (T := TX7) (N := 9) (index := 57) hx hb hts hin2 ty0 t1 t2 hown hK hP hD hS 0 rfl rfl 5 (Nat.le_of_ble_eq_true rfl) (hts _ (hin _ (ai_tb_at (i := 291) (by decide +kernel) rfl))) (fun _ h9 => h9) rfl hini rfl (by decide +kernel) rfl rfl (Nat.le_of_ble_eq_true rfl) dC_119 (fun H locs hP hD hS => ?_)
  have hP : va_P D ai_cl [(h0, .inr (7, [.ref (pD 0), .ref (pT 0), .ref (pF 0), .ref (pO 0), .ref (pU 0), .ref (pE 0), .null, .null, .int 0])), (pD 0, .inr (0, [.ref (pD 1), .ref (pD 2), .ref (pD 3), .ref (pD 4), .ref (pD 5), .ref (pD 6), .ref (pD 7), .ref (pD 8), .ref (pD 9), .ref (pD 10), .ref (pD 11), .int (xD 0 11)])), (pD 1, .inl (cA false, 12, .inl (xD 1))), (pD 2, .inl (cA false, 12, .inl (xD 2))), (pD 3, .inl (cA false, 12, .inl (xD 3))), (pD 4, .inl (cA false, 12, .inl (xD 4))), (pD 5, .inl (cA false, 12, .inl (xD 5))), (pD 6, .inl (cA false, 108, .inl (xD 6))), (pD 7, .inl (cA false, 36, .inl (xD 7))), (pD 8, .inl (cA false, 36, .inl (xD 8))), (pD 9, .inl (cA false, 36, .inl (xD 9))), (pD 10, .inl (cA false, 12, .inl (xD 10))), (pD 11, .inl (cA false, 12, .inl (xD 11))), (pT 0, .inr (6, [.ref (pD 0), .ref (pT 1), .ref (pT 2), .ref (pT 3), .ref (pT 4), .ref (pT 5), .ref (pT 6), .ref (pT 7), .ref (pT 8), .int (xT 0 9), .int (xT 0 10), .int (xT 0 11), .int (xT 0 12)])), (pT 1, .inl (cA false, 512, .inl (xT 1))), (pT 2, .inl (cA false, 512, .inl (xT 2))), (pT 3, .inl (cA false, 512, .inl (xT 3))), (pT 4, .inl (cA false, 512, .inl (xT 4))), (pT 5, .inl (cA false, 1536, .inl (xT 5))), (pT 6, .inl (cA false, 512, .inl (xT 6))), (pT 7, .inl (cA true, 512, .inl (xT 7))), (pT 8, .inl (cA true, 512, .inl (xT 8))), (pF 0, .inr (1, [.ref (pD 0), .ref (pT 0)])), (pO 0, .inr (2, [.ref (pD 0), .ref (pT 0), .ref (pF 0)])), (pU 0, .inr (5, [.ref (pD 0), .ref (pT 0), .ref (pF 0), .ref (pO 0)])), (pE 0, .inr (4, [.ref (pD 0), .ref (pT 0), .ref (pU 0), .ref (pE 1), .int (xE 0 4), .int (xE 0 5), .int (xE 0 6)])), (pE 1, .inl (cA false, 100, .inl (xE 1)))] H := hP
  have hD : va_D A [(h0, .inr (7, [.ref (pD 0), .ref (pT 0), .ref (pF 0), .ref (pO 0), .ref (pU 0), .ref (pE 0), .null, .null, .int 0])), (pD 0, .inr (0, [.ref (pD 1), .ref (pD 2), .ref (pD 3), .ref (pD 4), .ref (pD 5), .ref (pD 6), .ref (pD 7), .ref (pD 8), .ref (pD 9), .ref (pD 10), .ref (pD 11), .int (xD 0 11)])), (pD 1, .inl (cA false, 12, .inl (xD 1))), (pD 2, .inl (cA false, 12, .inl (xD 2))), (pD 3, .inl (cA false, 12, .inl (xD 3))), (pD 4, .inl (cA false, 12, .inl (xD 4))), (pD 5, .inl (cA false, 12, .inl (xD 5))), (pD 6, .inl (cA false, 108, .inl (xD 6))), (pD 7, .inl (cA false, 36, .inl (xD 7))), (pD 8, .inl (cA false, 36, .inl (xD 8))), (pD 9, .inl (cA false, 36, .inl (xD 9))), (pD 10, .inl (cA false, 12, .inl (xD 10))), (pD 11, .inl (cA false, 12, .inl (xD 11))), (pT 0, .inr (6, [.ref (pD 0), .ref (pT 1), .ref (pT 2), .ref (pT 3), .ref (pT 4), .ref (pT 5), .ref (pT 6), .ref (pT 7), .ref (pT 8), .int (xT 0 9), .int (xT 0 10), .int (xT 0 11), .int (xT 0 12)])), (pT 1, .inl (cA false, 512, .inl (xT 1))), (pT 2, .inl (cA false, 512, .inl (xT 2))), (pT 3, .inl (cA false, 512, .inl (xT 3))), (pT 4, .inl (cA false, 512, .inl (xT 4))), (pT 5, .inl (cA false, 1536, .inl (xT 5))), (pT 6, .inl (cA false, 512, .inl (xT 6))), (pT 7, .inl (cA true, 512, .inl (xT 7))), (pT 8, .inl (cA true, 512, .inl (xT 8))), (pF 0, .inr (1, [.ref (pD 0), .ref (pT 0)])), (pO 0, .inr (2, [.ref (pD 0), .ref (pT 0), .ref (pF 0)])), (pU 0, .inr (5, [.ref (pD 0), .ref (pT 0), .ref (pF 0), .ref (pO 0)])), (pE 0, .inr (4, [.ref (pD 0), .ref (pT 0), .ref (pU 0), .ref (pE 1), .int (xE 0 4), .int (xE 0 5), .int (xE 0 6)])), (pE 1, .inl (cA false, 100, .inl (xE 1)))] := hD
  refine lv_aload_n hx hb dC_122 rfl hl0 ?_
  refine ac_new1 (ci := 3) (N := 5) (C := RX3) (T := TX3) (df := [.null, .null, .null, .int 0, .int 0]) hx hb hown hts hin hK hA rfl dd_P wl_P.1 wl_P.2.1 wl_P.2.2 hP hD hS (Nat.le_of_ble_eq_true rfl) (Nat.le_of_ble_eq_true rfl) dC_123 dC_126 (fun qP H hP hD hS => ?_)
  refine ac_gets (ci := 7) (T := TX7) (N := 9) (a := h0) (fs := [.ref (pD 0), .ref (pT 0), .ref (pF 0), .ref (pO 0), .ref (pU 0), .ref (pE 0), .null, .null, .int 0]) (wr := ([(pD 0, .inr (0, [.ref (pD 1), .ref (pD 2), .ref (pD 3), .ref (pD 4), .ref (pD 5), .ref (pD 6), .ref (pD 7), .ref (pD 8), .ref (pD 9), .ref (pD 10), .ref (pD 11), .int (xD 0 11)])), (pD 1, .inl (cA false, 12, .inl (xD 1))), (pD 2, .inl (cA false, 12, .inl (xD 2))), (pD 3, .inl (cA false, 12, .inl (xD 3))), (pD 4, .inl (cA false, 12, .inl (xD 4))), (pD 5, .inl (cA false, 12, .inl (xD 5))), (pD 6, .inl (cA false, 108, .inl (xD 6))), (pD 7, .inl (cA false, 36, .inl (xD 7))), (pD 8, .inl (cA false, 36, .inl (xD 8))), (pD 9, .inl (cA false, 36, .inl (xD 9))), (pD 10, .inl (cA false, 12, .inl (xD 10))), (pD 11, .inl (cA false, 12, .inl (xD 11))), (pT 0, .inr (6, [.ref (pD 0), .ref (pT 1), .ref (pT 2), .ref (pT 3), .ref (pT 4), .ref (pT 5), .ref (pT 6), .ref (pT 7), .ref (pT 8), .int (xT 0 9), .int (xT 0 10), .int (xT 0 11), .int (xT 0 12)])), (pT 1, .inl (cA false, 512, .inl (xT 1))), (pT 2, .inl (cA false, 512, .inl (xT 2))), (pT 3, .inl (cA false, 512, .inl (xT 3))), (pT 4, .inl (cA false, 512, .inl (xT 4))), (pT 5, .inl (cA false, 1536, .inl (xT 5))), (pT 6, .inl (cA false, 512, .inl (xT 6))), (pT 7, .inl (cA true, 512, .inl (xT 7))), (pT 8, .inl (cA true, 512, .inl (xT 8))), (pF 0, .inr (1, [.ref (pD 0), .ref (pT 0)])), (pO 0, .inr (2, [.ref (pD 0), .ref (pT 0), .ref (pF 0)])), (pU 0, .inr (5, [.ref (pD 0), .ref (pT 0), .ref (pF 0), .ref (pO 0)])), (pE 0, .inr (4, [.ref (pD 0), .ref (pT 0), .ref (pU 0), .ref (pE 1), .int (xE 0 4), .int (xE 0 5), .int (xE 0 6)])), (pE 1, .inl (cA false, 100, .inl (xE 1)))] : va_W) ++ ac_w0 qP 3 [.null, .null, .null, .int 0, .int 0]) hx hb hown hts hin hK rfl hl0 hP [(1, 21, 287)] [(pT 0)] 127 [.ref qP, .ref qP, .ref h0] gk_P rfl ?_
  refine ac_call1 (y := yX3_init) (q := qP) (ci := 3) (df := [.null, .null, .null, .int 0, .int 0]) (rs := [(pT 0)]) (rest := [.ref qP, .ref h0]) (ix := 63) (pc := 131) hx hb hml hown hts hin hN hK hA (ct_P l D cA ((pT 0))) wm_P.1 wm_P.2.1 wl_P.2.2 wm_P.2.2 rfl wy_P ⟨Nat.le_of_ble_eq_true rfl, Nat.le_of_ble_eq_true rfl⟩ hls (Nat.le_of_ble_eq_true rfl) hP hD hS (Nat.le_of_ble_eq_true rfl) (Nat.le_of_ble_eq_true rfl) dC_131 (fun u H locs hu hP2 hD2 hS2 => ?_)
  obtain ⟨pP, xP⟩ := u
  obtain ⟨eP, fP, gP_⟩ := hu
  have fP0 : pP 3 = (pT 0) := fP 0 _ rfl
  have eP : pP 0 = qP := eP
  subst eP
  (try dsimp only at hP2 hD2)
  rw [ws_P, fP0] at hP2 hD2
  have hP : va_P D ai_cl [(h0, .inr (7, [.ref (pD 0), .ref (pT 0), .ref (pF 0), .ref (pO 0), .ref (pU 0), .ref (pE 0), .null, .null, .int 0])), (pD 0, .inr (0, [.ref (pD 1), .ref (pD 2), .ref (pD 3), .ref (pD 4), .ref (pD 5), .ref (pD 6), .ref (pD 7), .ref (pD 8), .ref (pD 9), .ref (pD 10), .ref (pD 11), .int (xD 0 11)])), (pD 1, .inl (cA false, 12, .inl (xD 1))), (pD 2, .inl (cA false, 12, .inl (xD 2))), (pD 3, .inl (cA false, 12, .inl (xD 3))), (pD 4, .inl (cA false, 12, .inl (xD 4))), (pD 5, .inl (cA false, 12, .inl (xD 5))), (pD 6, .inl (cA false, 108, .inl (xD 6))), (pD 7, .inl (cA false, 36, .inl (xD 7))), (pD 8, .inl (cA false, 36, .inl (xD 8))), (pD 9, .inl (cA false, 36, .inl (xD 9))), (pD 10, .inl (cA false, 12, .inl (xD 10))), (pD 11, .inl (cA false, 12, .inl (xD 11))), (pT 0, .inr (6, [.ref (pD 0), .ref (pT 1), .ref (pT 2), .ref (pT 3), .ref (pT 4), .ref (pT 5), .ref (pT 6), .ref (pT 7), .ref (pT 8), .int (xT 0 9), .int (xT 0 10), .int (xT 0 11), .int (xT 0 12)])), (pT 1, .inl (cA false, 512, .inl (xT 1))), (pT 2, .inl (cA false, 512, .inl (xT 2))), (pT 3, .inl (cA false, 512, .inl (xT 3))), (pT 4, .inl (cA false, 512, .inl (xT 4))), (pT 5, .inl (cA false, 1536, .inl (xT 5))), (pT 6, .inl (cA false, 512, .inl (xT 6))), (pT 7, .inl (cA true, 512, .inl (xT 7))), (pT 8, .inl (cA true, 512, .inl (xT 8))), (pF 0, .inr (1, [.ref (pD 0), .ref (pT 0)])), (pO 0, .inr (2, [.ref (pD 0), .ref (pT 0), .ref (pF 0)])), (pU 0, .inr (5, [.ref (pD 0), .ref (pT 0), .ref (pF 0), .ref (pO 0)])), (pE 0, .inr (4, [.ref (pD 0), .ref (pT 0), .ref (pU 0), .ref (pE 1), .int (xE 0 4), .int (xE 0 5), .int (xE 0 6)])), (pE 1, .inl (cA false, 100, .inl (xE 1))), (pP 0, .inr (3, [.ref (pT 0), .ref (pP 1), .ref (pP 2), .int (xP 0 3), .int (xP 0 4)])), (pP 1, .inl (cA false, 200, .inl (xP 1))), (pP 2, .inl (cA false, 200, .inl (xP 2)))] H := hP2
  have hD : va_D A [(h0, .inr (7, [.ref (pD 0), .ref (pT 0), .ref (pF 0), .ref (pO 0), .ref (pU 0), .ref (pE 0), .null, .null, .int 0])), (pD 0, .inr (0, [.ref (pD 1), .ref (pD 2), .ref (pD 3), .ref (pD 4), .ref (pD 5), .ref (pD 6), .ref (pD 7), .ref (pD 8), .ref (pD 9), .ref (pD 10), .ref (pD 11), .int (xD 0 11)])), (pD 1, .inl (cA false, 12, .inl (xD 1))), (pD 2, .inl (cA false, 12, .inl (xD 2))), (pD 3, .inl (cA false, 12, .inl (xD 3))), (pD 4, .inl (cA false, 12, .inl (xD 4))), (pD 5, .inl (cA false, 12, .inl (xD 5))), (pD 6, .inl (cA false, 108, .inl (xD 6))), (pD 7, .inl (cA false, 36, .inl (xD 7))), (pD 8, .inl (cA false, 36, .inl (xD 8))), (pD 9, .inl (cA false, 36, .inl (xD 9))), (pD 10, .inl (cA false, 12, .inl (xD 10))), (pD 11, .inl (cA false, 12, .inl (xD 11))), (pT 0, .inr (6, [.ref (pD 0), .ref (pT 1), .ref (pT 2), .ref (pT 3), .ref (pT 4), .ref (pT 5), .ref (pT 6), .ref (pT 7), .ref (pT 8), .int (xT 0 9), .int (xT 0 10), .int (xT 0 11), .int (xT 0 12)])), (pT 1, .inl (cA false, 512, .inl (xT 1))), (pT 2, .inl (cA false, 512, .inl (xT 2))), (pT 3, .inl (cA false, 512, .inl (xT 3))), (pT 4, .inl (cA false, 512, .inl (xT 4))), (pT 5, .inl (cA false, 1536, .inl (xT 5))), (pT 6, .inl (cA false, 512, .inl (xT 6))), (pT 7, .inl (cA true, 512, .inl (xT 7))), (pT 8, .inl (cA true, 512, .inl (xT 8))), (pF 0, .inr (1, [.ref (pD 0), .ref (pT 0)])), (pO 0, .inr (2, [.ref (pD 0), .ref (pT 0), .ref (pF 0)])), (pU 0, .inr (5, [.ref (pD 0), .ref (pT 0), .ref (pF 0), .ref (pO 0)])), (pE 0, .inr (4, [.ref (pD 0), .ref (pT 0), .ref (pU 0), .ref (pE 1), .int (xE 0 4), .int (xE 0 5), .int (xE 0 6)])), (pE 1, .inl (cA false, 100, .inl (xE 1))), (pP 0, .inr (3, [.ref (pT 0), .ref (pP 1), .ref (pP 2), .int (xP 0 3), .int (xP 0 4)])), (pP 1, .inl (cA false, 200, .inl (xP 1))), (pP 2, .inl (cA false, 200, .inl (xP 2)))] := hD2
  have hS := hS2
  refine W.widen (k := 29) (n := 5966) (Nat.le_of_ble_eq_true rfl) (Nat.le_of_ble_eq_true rfl) ?_
  refine va_putF (D := D) (ci := 7) (a := h0) (v := .ref (pP 0)) (ty := .object RX3) (C := RX7) (T := TX7) (N := 9) (index := 66) hx hb hts hin2 ty0 t1 t2 hown hK hP hD hS 0 rfl rfl 6 (Nat.le_of_ble_eq_true rfl) (hts _ (hin _ (ai_tb_at (i := 292) (by decide +kernel) rfl))) (fun _ h9 => h9) rfl hini rfl (by decide +kernel) rfl rfl (Nat.le_of_ble_eq_true rfl) dC_134 (fun H locs hP hD hS => ?_)
  have hP : va_P D ai_cl [(h0, .inr (7, [.ref (pD 0), .ref (pT 0), .ref (pF 0), .ref (pO 0), .ref (pU 0), .ref (pE 0), .ref (pP 0), .null, .int 0])), (pD 0, .inr (0, [.ref (pD 1), .ref (pD 2), .ref (pD 3), .ref (pD 4), .ref (pD 5), .ref (pD 6), .ref (pD 7), .ref (pD 8), .ref (pD 9), .ref (pD 10), .ref (pD 11), .int (xD 0 11)])), (pD 1, .inl (cA false, 12, .inl (xD 1))), (pD 2, .inl (cA false, 12, .inl (xD 2))), (pD 3, .inl (cA false, 12, .inl (xD 3))), (pD 4, .inl (cA false, 12, .inl (xD 4))), (pD 5, .inl (cA false, 12, .inl (xD 5))), (pD 6, .inl (cA false, 108, .inl (xD 6))), (pD 7, .inl (cA false, 36, .inl (xD 7))), (pD 8, .inl (cA false, 36, .inl (xD 8))), (pD 9, .inl (cA false, 36, .inl (xD 9))), (pD 10, .inl (cA false, 12, .inl (xD 10))), (pD 11, .inl (cA false, 12, .inl (xD 11))), (pT 0, .inr (6, [.ref (pD 0), .ref (pT 1), .ref (pT 2), .ref (pT 3), .ref (pT 4), .ref (pT 5), .ref (pT 6), .ref (pT 7), .ref (pT 8), .int (xT 0 9), .int (xT 0 10), .int (xT 0 11), .int (xT 0 12)])), (pT 1, .inl (cA false, 512, .inl (xT 1))), (pT 2, .inl (cA false, 512, .inl (xT 2))), (pT 3, .inl (cA false, 512, .inl (xT 3))), (pT 4, .inl (cA false, 512, .inl (xT 4))), (pT 5, .inl (cA false, 1536, .inl (xT 5))), (pT 6, .inl (cA false, 512, .inl (xT 6))), (pT 7, .inl (cA true, 512, .inl (xT 7))), (pT 8, .inl (cA true, 512, .inl (xT 8))), (pF 0, .inr (1, [.ref (pD 0), .ref (pT 0)])), (pO 0, .inr (2, [.ref (pD 0), .ref (pT 0), .ref (pF 0)])), (pU 0, .inr (5, [.ref (pD 0), .ref (pT 0), .ref (pF 0), .ref (pO 0)])), (pE 0, .inr (4, [.ref (pD 0), .ref (pT 0), .ref (pU 0), .ref (pE 1), .int (xE 0 4), .int (xE 0 5), .int (xE 0 6)])), (pE 1, .inl (cA false, 100, .inl (xE 1))), (pP 0, .inr (3, [.ref (pT 0), .ref (pP 1), .ref (pP 2), .int (xP 0 3), .int (xP 0 4)])), (pP 1, .inl (cA false, 200, .inl (xP 1))), (pP 2, .inl (cA false, 200, .inl (xP 2)))] H := hP
  have hD : va_D A [(h0, .inr (7, [.ref (pD 0), .ref (pT 0), .ref (pF 0), .ref (pO 0), .ref (pU 0), .ref (pE 0), .ref (pP 0), .null, .int 0])), (pD 0, .inr (0, [.ref (pD 1), .ref (pD 2), .ref (pD 3), .ref (pD 4), .ref (pD 5), .ref (pD 6), .ref (pD 7), .ref (pD 8), .ref (pD 9), .ref (pD 10), .ref (pD 11), .int (xD 0 11)])), (pD 1, .inl (cA false, 12, .inl (xD 1))), (pD 2, .inl (cA false, 12, .inl (xD 2))), (pD 3, .inl (cA false, 12, .inl (xD 3))), (pD 4, .inl (cA false, 12, .inl (xD 4))), (pD 5, .inl (cA false, 12, .inl (xD 5))), (pD 6, .inl (cA false, 108, .inl (xD 6))), (pD 7, .inl (cA false, 36, .inl (xD 7))), (pD 8, .inl (cA false, 36, .inl (xD 8))), (pD 9, .inl (cA false, 36, .inl (xD 9))), (pD 10, .inl (cA false, 12, .inl (xD 10))), (pD 11, .inl (cA false, 12, .inl (xD 11))), (pT 0, .inr (6, [.ref (pD 0), .ref (pT 1), .ref (pT 2), .ref (pT 3), .ref (pT 4), .ref (pT 5), .ref (pT 6), .ref (pT 7), .ref (pT 8), .int (xT 0 9), .int (xT 0 10), .int (xT 0 11), .int (xT 0 12)])), (pT 1, .inl (cA false, 512, .inl (xT 1))), (pT 2, .inl (cA false, 512, .inl (xT 2))), (pT 3, .inl (cA false, 512, .inl (xT 3))), (pT 4, .inl (cA false, 512, .inl (xT 4))), (pT 5, .inl (cA false, 1536, .inl (xT 5))), (pT 6, .inl (cA false, 512, .inl (xT 6))), (pT 7, .inl (cA true, 512, .inl (xT 7))), (pT 8, .inl (cA true, 512, .inl (xT 8))), (pF 0, .inr (1, [.ref (pD 0), .ref (pT 0)])), (pO 0, .inr (2, [.ref (pD 0), .ref (pT 0), .ref (pF 0)])), (pU 0, .inr (5, [.ref (pD 0), .ref (pT 0), .ref (pF 0), .ref (pO 0)])), (pE 0, .inr (4, [.ref (pD 0), .ref (pT 0), .ref (pU 0), .ref (pE 1), .int (xE 0 4), .int (xE 0 5), .int (xE 0 6)])), (pE 1, .inl (cA false, 100, .inl (xE 1))), (pP 0, .inr (3, [.ref (pT 0), .ref (pP 1), .ref (pP 2), .int (xP 0 3), .int (xP 0 4)])), (pP 1, .inl (cA false, 200, .inl (xP 1))), (pP 2, .inl (cA false, 200, .inl (xP 2)))] := hD
  refine ac_walk (T := TX7) (N := 9) (ci := 7) (a := h0) (r := fun _ => h0) (nr := 1) hx hb hown hts hin hini hK hA rfl hl0 (fun j hj => by rw [show j = 0 by omega]; exact hl0) 144 opC 137 29 5966 [.ref (pD 0), .ref (pT 0), .ref (pF 0), .ref (pO 0), .ref (pU 0), .ref (pE 0), .ref (pP 0), .null, .int 0] ([(pD 0, .inr (0, [.ref (pD 1), .ref (pD 2), .ref (pD 3), .ref (pD 4), .ref (pD 5), .ref (pD 6), .ref (pD 7), .ref (pD 8), .ref (pD 9), .ref (pD 10), .ref (pD 11), .int (xD 0 11)])), (pD 1, .inl (cA false, 12, .inl (xD 1))), (pD 2, .inl (cA false, 12, .inl (xD 2))), (pD 3, .inl (cA false, 12, .inl (xD 3))), (pD 4, .inl (cA false, 12, .inl (xD 4))), (pD 5, .inl (cA false, 12, .inl (xD 5))), (pD 6, .inl (cA false, 108, .inl (xD 6))), (pD 7, .inl (cA false, 36, .inl (xD 7))), (pD 8, .inl (cA false, 36, .inl (xD 8))), (pD 9, .inl (cA false, 36, .inl (xD 9))), (pD 10, .inl (cA false, 12, .inl (xD 10))), (pD 11, .inl (cA false, 12, .inl (xD 11))), (pT 0, .inr (6, [.ref (pD 0), .ref (pT 1), .ref (pT 2), .ref (pT 3), .ref (pT 4), .ref (pT 5), .ref (pT 6), .ref (pT 7), .ref (pT 8), .int (xT 0 9), .int (xT 0 10), .int (xT 0 11), .int (xT 0 12)])), (pT 1, .inl (cA false, 512, .inl (xT 1))), (pT 2, .inl (cA false, 512, .inl (xT 2))), (pT 3, .inl (cA false, 512, .inl (xT 3))), (pT 4, .inl (cA false, 512, .inl (xT 4))), (pT 5, .inl (cA false, 1536, .inl (xT 5))), (pT 6, .inl (cA false, 512, .inl (xT 6))), (pT 7, .inl (cA true, 512, .inl (xT 7))), (pT 8, .inl (cA true, 512, .inl (xT 8))), (pF 0, .inr (1, [.ref (pD 0), .ref (pT 0)])), (pO 0, .inr (2, [.ref (pD 0), .ref (pT 0), .ref (pF 0)])), (pU 0, .inr (5, [.ref (pD 0), .ref (pT 0), .ref (pF 0), .ref (pO 0)])), (pE 0, .inr (4, [.ref (pD 0), .ref (pT 0), .ref (pU 0), .ref (pE 1), .int (xE 0 4), .int (xE 0 5), .int (xE 0 6)])), (pE 1, .inl (cA false, 100, .inl (xE 1))), (pP 0, .inr (3, [.ref (pT 0), .ref (pP 1), .ref (pP 2), .int (xP 0 3), .int (xP 0 4)])), (pP 1, .inl (cA false, 200, .inl (xP 1))), (pP 2, .inl (cA false, 200, .inl (xP 2)))] : va_W) H locs ao_C rfl (Nat.le_of_ble_eq_true rfl) (Nat.le_of_ble_eq_true rfl) hP hD hS (fun qs H locs hq hP hD hS => ?_)
  obtain ⟨q, rfl⟩ : ∃ q, qs = [q] := by
    match qs, hq with
    | [q], _ => exact ⟨q, rfl⟩
  have hP : va_P D ai_cl [(h0, .inr (7, [.ref (pD 0), .ref (pT 0), .ref (pF 0), .ref (pO 0), .ref (pU 0), .ref (pE 0), .ref (pP 0), .ref q, .int 0])), (pD 0, .inr (0, [.ref (pD 1), .ref (pD 2), .ref (pD 3), .ref (pD 4), .ref (pD 5), .ref (pD 6), .ref (pD 7), .ref (pD 8), .ref (pD 9), .ref (pD 10), .ref (pD 11), .int (xD 0 11)])), (pD 1, .inl (cA false, 12, .inl (xD 1))), (pD 2, .inl (cA false, 12, .inl (xD 2))), (pD 3, .inl (cA false, 12, .inl (xD 3))), (pD 4, .inl (cA false, 12, .inl (xD 4))), (pD 5, .inl (cA false, 12, .inl (xD 5))), (pD 6, .inl (cA false, 108, .inl (xD 6))), (pD 7, .inl (cA false, 36, .inl (xD 7))), (pD 8, .inl (cA false, 36, .inl (xD 8))), (pD 9, .inl (cA false, 36, .inl (xD 9))), (pD 10, .inl (cA false, 12, .inl (xD 10))), (pD 11, .inl (cA false, 12, .inl (xD 11))), (pT 0, .inr (6, [.ref (pD 0), .ref (pT 1), .ref (pT 2), .ref (pT 3), .ref (pT 4), .ref (pT 5), .ref (pT 6), .ref (pT 7), .ref (pT 8), .int (xT 0 9), .int (xT 0 10), .int (xT 0 11), .int (xT 0 12)])), (pT 1, .inl (cA false, 512, .inl (xT 1))), (pT 2, .inl (cA false, 512, .inl (xT 2))), (pT 3, .inl (cA false, 512, .inl (xT 3))), (pT 4, .inl (cA false, 512, .inl (xT 4))), (pT 5, .inl (cA false, 1536, .inl (xT 5))), (pT 6, .inl (cA false, 512, .inl (xT 6))), (pT 7, .inl (cA true, 512, .inl (xT 7))), (pT 8, .inl (cA true, 512, .inl (xT 8))), (pF 0, .inr (1, [.ref (pD 0), .ref (pT 0)])), (pO 0, .inr (2, [.ref (pD 0), .ref (pT 0), .ref (pF 0)])), (pU 0, .inr (5, [.ref (pD 0), .ref (pT 0), .ref (pF 0), .ref (pO 0)])), (pE 0, .inr (4, [.ref (pD 0), .ref (pT 0), .ref (pU 0), .ref (pE 1), .int (xE 0 4), .int (xE 0 5), .int (xE 0 6)])), (pE 1, .inl (cA false, 100, .inl (xE 1))), (pP 0, .inr (3, [.ref (pT 0), .ref (pP 1), .ref (pP 2), .int (xP 0 3), .int (xP 0 4)])), (pP 1, .inl (cA false, 200, .inl (xP 1))), (pP 2, .inl (cA false, 200, .inl (xP 2))), (q, .inl (cA false, 3, .inl (fun _ => 0)))] H := hP
  have hD : va_D A [(h0, .inr (7, [.ref (pD 0), .ref (pT 0), .ref (pF 0), .ref (pO 0), .ref (pU 0), .ref (pE 0), .ref (pP 0), .ref q, .int 0])), (pD 0, .inr (0, [.ref (pD 1), .ref (pD 2), .ref (pD 3), .ref (pD 4), .ref (pD 5), .ref (pD 6), .ref (pD 7), .ref (pD 8), .ref (pD 9), .ref (pD 10), .ref (pD 11), .int (xD 0 11)])), (pD 1, .inl (cA false, 12, .inl (xD 1))), (pD 2, .inl (cA false, 12, .inl (xD 2))), (pD 3, .inl (cA false, 12, .inl (xD 3))), (pD 4, .inl (cA false, 12, .inl (xD 4))), (pD 5, .inl (cA false, 12, .inl (xD 5))), (pD 6, .inl (cA false, 108, .inl (xD 6))), (pD 7, .inl (cA false, 36, .inl (xD 7))), (pD 8, .inl (cA false, 36, .inl (xD 8))), (pD 9, .inl (cA false, 36, .inl (xD 9))), (pD 10, .inl (cA false, 12, .inl (xD 10))), (pD 11, .inl (cA false, 12, .inl (xD 11))), (pT 0, .inr (6, [.ref (pD 0), .ref (pT 1), .ref (pT 2), .ref (pT 3), .ref (pT 4), .ref (pT 5), .ref (pT 6), .ref (pT 7), .ref (pT 8), .int (xT 0 9), .int (xT 0 10), .int (xT 0 11), .int (xT 0 12)])), (pT 1, .inl (cA false, 512, .inl (xT 1))), (pT 2, .inl (cA false, 512, .inl (xT 2))), (pT 3, .inl (cA false, 512, .inl (xT 3))), (pT 4, .inl (cA false, 512, .inl (xT 4))), (pT 5, .inl (cA false, 1536, .inl (xT 5))), (pT 6, .inl (cA false, 512, .inl (xT 6))), (pT 7, .inl (cA true, 512, .inl (xT 7))), (pT 8, .inl (cA true, 512, .inl (xT 8))), (pF 0, .inr (1, [.ref (pD 0), .ref (pT 0)])), (pO 0, .inr (2, [.ref (pD 0), .ref (pT 0), .ref (pF 0)])), (pU 0, .inr (5, [.ref (pD 0), .ref (pT 0), .ref (pF 0), .ref (pO 0)])), (pE 0, .inr (4, [.ref (pD 0), .ref (pT 0), .ref (pU 0), .ref (pE 1), .int (xE 0 4), .int (xE 0 5), .int (xE 0 6)])), (pE 1, .inl (cA false, 100, .inl (xE 1))), (pP 0, .inr (3, [.ref (pT 0), .ref (pP 1), .ref (pP 2), .int (xP 0 3), .int (xP 0 4)])), (pP 1, .inl (cA false, 200, .inl (xP 1))), (pP 2, .inl (cA false, 200, .inl (xP 2))), (q, .inl (cA false, 3, .inl (fun _ => 0)))] := hD
  have hP1 : va_P D ai_cl (ai_ws cA (adC h0 q pD pT pF pO pU pE pP) shC (hiC xD xT xE xP)) H := by rw [ws_C2]; exact hP.sub [1, 2, 3, 4, 5, 6, 7, 8, 9, 10, 11, 12, 13, 14, 15, 16, 17, 18, 19, 20, 21, 22, 23, 24, 25, 26, 27, 28, 29, 0, 30] rfl
  have hD1 : va_D A (ai_ws cA (adC h0 q pD pT pF pO pU pE pP) shC (hiC xD xT xE xP)) := by rw [ws_C2]; exact hD.sub [1, 2, 3, 4, 5, 6, 7, 8, 9, 10, 11, 12, 13, 14, 15, 16, 17, 18, 19, 20, 21, 22, 23, 24, 25, 26, 27, 28, 29, 0, 30] (by decide) rfl
  have hG : ab_h gB (hiC xD xT xE xP) := hiC_ok gD_ gT_ gE_ gP_
  generalize hiC xD xT xE xP = xC at hP1 hD1 hG
  have h29 : adC h0 q pD pT pF pO pU pE pP 29 = h0 := rfl
  generalize adC h0 q pD pT pF pO pU pE pP = pC at hP1 hD1 h29
  have hdist := (ac_dist hD1).1
  have hAd := (ac_dist hD1).2
  have hL := hent [29] pC (by rw [List.map_cons, h29]; rfl)
  have hp := ab_sound (ab_call (sh := shC) (mci := mciC) (ml := mlC) (cd := cdC) (fuel := 300) 0) none gC 100 144 _ _ _ ruC (ai_ent 1 ([29].map Value.ref)) [] xC (ab_l_ent (n := 1) (A := [.inl 29]) (S := [29].map Value.ref) ⟨rfl, trivial⟩) trivial hG
  refine W.widen (k := 30) (n := 5969) (Nat.le_of_ble_eq_true rfl) (Nat.le_of_ble_eq_true rfl) ?_
  refine ai_walk (mt := mtC) (d := 0) (Q := fun r' h' => ab_r none r' ∧ ab_h gC h') hx hb hml hown hts hin hN hK hdist hAd hr hlocks (fun pc q hpc => List.all_eq_true.mp ak_C (pc, q) (ai_lu_mem kiC pc q hpc)) mokC (Nat.le_of_ble_eq_true rfl) (Nat.le_of_ble_eq_true rfl) (Nat.le_of_ble_eq_true rfl) (Nat.le_of_ble_eq_true rfl) (fun i q hi as h r h2 hC => ai_sound l hdist ckC mokC 0 i q hi as h r h2 hC) ?_ (fun q hq => hq) 100 144 _ [] _ H locs ls hp hP1 hS hL rfl
  intro r' h' H locs t hQ hP hS ht hW
  obtain ⟨hr', hg⟩ := hQ
  have e1 : r' = none := by
    cases r' with
    | none => rfl
    | some v => exact hr'.elim
  subst e1
  exact ⟨⟨(pC, h'), rfl, ⟨h29, fun j q hj => by simp at hj, hg⟩, by rw [ht]; exact hP, ai_D hdist hAd h'⟩, hS.F ht⟩
end
section
/-! THE CLAIM OUT OF ONE WALK OF THE LAW'S BODY. Your part is whole_start (and what it stands on); all else here is the same for every law, but numbers. -/
def R_law : String := "TypeForms2Law"
def lw_P (b : Addr) (xs : List Int32) (args : Array Value) (s : State) : Prop := args = #[.ref b] ∧ s.IntsAt b xs ∧ xs.length ≤ 4 ∧ (Jvm.Cond.and given_1 narrow_1).before args s = true
def lw_Q (_ : Array Value) (s : State) (o : Outcome) (t : State) : Prop := o = .returned (some (.int 1)) ∧ Framed s o t [] 600000 7302250
def lw_Z (below : List Frame) (a : Array Value) (s : State) : State → Prop := fun t => ∃ o, t.status = .running ∧ Ended t below o ∧ lw_Q a s o t
/-- the law's own end, with 1 on the stack, nothing written that was there before, its room as the claim has it -/
theorem lw_ret {p : Program} {l : Launch} {e : Env} {s : State} {m : MethodId} {below : List Frame} {meth : Method} {c : Code} {b : Nat} (hx : p.tables.exec = Jvm.exec) (hb : c.code = code) (hr : meth.sig.returnType = ret) (hlocks : meth.locks = false) {pc : Nat} {H : Heap} {ls : Array Slot} (hdg : decode code pc = .ok (.ireturn, 1)) : W p l e room_1 s m #[Value.ref b] below meth c H [] 600000 7302250 (lw_Z below #[Value.ref b] s) (F0 m pc ls [.int 1]) := by
  intro T hT X
  obtain ⟨fs, hret, hrun, hended, hW, hframe⟩ := X.leave (v := some (.int 1)) (hlocks := hlocks) (fun h => by rw [hr] at h; cases h)
  have hmeth' : T.vm.method? m = some meth := X.method'
  refine ⟨T.setFrames fs, ?_, .returned (some (.int 1)), hrun, hended, rfl, ⟨_, rfl⟩, hW, hframe⟩
  jvm_step X.here [X.here.top, hx, hb, hdg, hmeth', hr, ret, narrow_b1]
  (try refine ⟨rfl, ?_⟩); (try refine ⟨rfl, ?_⟩)
  first | (intro acts; rw [hret _ acts rfl rfl rfl]) | rw [hret _ _ rfl rfl rfl]
  exact Steps.refl _
/-- what holds at the law's entry: the machine, the code, the tables' words (any of lw_tbl by 'hts w (by decide +kernel)'), the script of L ints xs at the cell b, what the Statement gives of the start (any of its parts by flat_of_before) -/
def lw_At (p : Program) (s : State) (m : MethodId) (meth : Method) (c : Code) (b L : Nat) (xs : Nat → Int32) : Prop :=
  p.tables.exec = Jvm.exec ∧ c.code = code ∧ meth.sig.returnType = ret ∧ c.maxLocals = 4 ∧ s.vm.findClass R_law = some m.cls ∧ (∀ w ∈ lw_tbl, w.before #[Value.ref b] s = true) ∧ va_X b L xs s s.heap ∧ b < s.heap.size ∧ meth.locks = false ∧ (Jvm.Cond.and given_1 narrow_1).before #[Value.ref b] s = true
end
section
theorem d_law_0 : decode code 0 = .ok (.new 7, 3) := by decide +kernel
theorem d_law_3 : decode code 3 = .ok (.dup, 1) := by decide +kernel
theorem d_law_4 : decode code 4 = .ok (.invokespecial 9, 3) := by decide +kernel
theorem d_law_7 : decode code 7 = .ok (.astore_n 1, 1) := by decide +kernel
theorem d_law_8 : decode code 8 = .ok (.new 10, 3) := by decide +kernel
theorem d_law_11 : decode code 11 = .ok (.dup, 1) := by decide +kernel
theorem d_law_12 : decode code 12 = .ok (.invokespecial 12, 3) := by decide +kernel
theorem d_law_15 : decode code 15 = .ok (.astore_n 2, 1) := by decide +kernel
theorem d_law_16 : decode code 16 = .ok (.iconst 0, 1) := by decide +kernel
theorem d_law_17 : decode code 17 = .ok (.istore_n 3, 1) := by decide +kernel
theorem d_law_18 : decode code 18 = .ok (.iload_n 3, 1) := by decide +kernel
theorem d_law_19 : decode code 19 = .ok (.aload_n 0, 1) := by decide +kernel
theorem d_law_20 : decode code 20 = .ok (.arraylength, 1) := by decide +kernel
theorem d_law_21 : decode code 21 = .ok (.iconst 4, 1) := by decide +kernel
theorem d_law_22 : decode code 22 = .ok (.isub, 1) := by decide +kernel
theorem d_law_23 : decode code 23 = .ok (.if_icmp .gt 667, 3) := by decide +kernel
theorem d_law_26 : decode code 26 = .ok (.aload_n 0, 1) := by decide +kernel
theorem d_law_27 : decode code 27 = .ok (.iload_n 3, 1) := by decide +kernel
theorem d_law_28 : decode code 28 = .ok (.iaload, 1) := by decide +kernel
theorem d_law_29 : decode code 29 = .ok (.bipush 31, 2) := by decide +kernel
theorem d_law_31 : decode code 31 = .ok (.iand, 1) := by decide +kernel
theorem d_law_32 : decode code 32 = .ok (.tableswitch 652 0 17 #[88, 131, 164, 207, 240, 273, 306, 329, 362, 395, 418, 441, 474, 507, 570, 583, 606, 629], 88) := by decide +kernel
theorem d_law_120 : decode code 120 = .ok (.aload_n 1, 1) := by decide +kernel
theorem d_law_121 : decode code 121 = .ok (.aload_n 0, 1) := by decide +kernel
theorem d_law_122 : decode code 122 = .ok (.iload_n 3, 1) := by decide +kernel
theorem d_law_123 : decode code 123 = .ok (.iconst 1, 1) := by decide +kernel
theorem d_law_124 : decode code 124 = .ok (.iadd, 1) := by decide +kernel
theorem d_law_125 : decode code 125 = .ok (.iaload, 1) := by decide +kernel
theorem d_law_126 : decode code 126 = .ok (.aload_n 0, 1) := by decide +kernel
theorem d_law_127 : decode code 127 = .ok (.iload_n 3, 1) := by decide +kernel
theorem d_law_128 : decode code 128 = .ok (.iconst 2, 1) := by decide +kernel
theorem d_law_129 : decode code 129 = .ok (.iadd, 1) := by decide +kernel
theorem d_law_130 : decode code 130 = .ok (.iaload, 1) := by decide +kernel
theorem d_law_131 : decode code 131 = .ok (.aload_n 0, 1) := by decide +kernel
theorem d_law_132 : decode code 132 = .ok (.iload_n 3, 1) := by decide +kernel
theorem d_law_133 : decode code 133 = .ok (.iconst 3, 1) := by decide +kernel
theorem d_law_134 : decode code 134 = .ok (.iadd, 1) := by decide +kernel
theorem d_law_135 : decode code 135 = .ok (.iaload, 1) := by decide +kernel
theorem d_law_136 : decode code 136 = .ok (.invokevirtual 13, 3) := by decide +kernel
theorem d_law_139 : decode code 139 = .ok (.aload_n 2, 1) := by decide +kernel
theorem d_law_140 : decode code 140 = .ok (.aload_n 0, 1) := by decide +kernel
theorem d_law_141 : decode code 141 = .ok (.iload_n 3, 1) := by decide +kernel
theorem d_law_142 : decode code 142 = .ok (.iconst 1, 1) := by decide +kernel
theorem d_law_143 : decode code 143 = .ok (.iadd, 1) := by decide +kernel
theorem d_law_144 : decode code 144 = .ok (.iaload, 1) := by decide +kernel
theorem d_law_145 : decode code 145 = .ok (.aload_n 0, 1) := by decide +kernel
theorem d_law_146 : decode code 146 = .ok (.iload_n 3, 1) := by decide +kernel
theorem d_law_147 : decode code 147 = .ok (.iconst 2, 1) := by decide +kernel
theorem d_law_148 : decode code 148 = .ok (.iadd, 1) := by decide +kernel
theorem d_law_149 : decode code 149 = .ok (.iaload, 1) := by decide +kernel
theorem d_law_150 : decode code 150 = .ok (.aload_n 0, 1) := by decide +kernel
theorem d_law_151 : decode code 151 = .ok (.iload_n 3, 1) := by decide +kernel
theorem d_law_152 : decode code 152 = .ok (.iconst 3, 1) := by decide +kernel
theorem d_law_153 : decode code 153 = .ok (.iadd, 1) := by decide +kernel
theorem d_law_154 : decode code 154 = .ok (.iaload, 1) := by decide +kernel
theorem d_law_155 : decode code 155 = .ok (.invokevirtual 17, 3) := by decide +kernel
theorem d_law_158 : decode code 158 = .ok (.if_icmp .eq 526, 3) := by decide +kernel
theorem d_law_161 : decode code 161 = .ok (.iconst 0, 1) := by decide +kernel
theorem d_law_162 : decode code 162 = .ok (.ireturn, 1) := by decide +kernel
theorem d_law_163 : decode code 163 = .ok (.aload_n 1, 1) := by decide +kernel
theorem d_law_164 : decode code 164 = .ok (.aload_n 0, 1) := by decide +kernel
theorem d_law_165 : decode code 165 = .ok (.iload_n 3, 1) := by decide +kernel
theorem d_law_166 : decode code 166 = .ok (.iconst 1, 1) := by decide +kernel
theorem d_law_167 : decode code 167 = .ok (.iadd, 1) := by decide +kernel
theorem d_law_168 : decode code 168 = .ok (.iaload, 1) := by decide +kernel
theorem d_law_169 : decode code 169 = .ok (.aload_n 0, 1) := by decide +kernel
theorem d_law_170 : decode code 170 = .ok (.iload_n 3, 1) := by decide +kernel
theorem d_law_171 : decode code 171 = .ok (.iconst 2, 1) := by decide +kernel
theorem d_law_172 : decode code 172 = .ok (.iadd, 1) := by decide +kernel
theorem d_law_173 : decode code 173 = .ok (.iaload, 1) := by decide +kernel
theorem d_law_174 : decode code 174 = .ok (.invokevirtual 18, 3) := by decide +kernel
theorem d_law_177 : decode code 177 = .ok (.aload_n 2, 1) := by decide +kernel
theorem d_law_178 : decode code 178 = .ok (.aload_n 0, 1) := by decide +kernel
theorem d_law_179 : decode code 179 = .ok (.iload_n 3, 1) := by decide +kernel
theorem d_law_180 : decode code 180 = .ok (.iconst 1, 1) := by decide +kernel
theorem d_law_181 : decode code 181 = .ok (.iadd, 1) := by decide +kernel
theorem d_law_182 : decode code 182 = .ok (.iaload, 1) := by decide +kernel
theorem d_law_183 : decode code 183 = .ok (.aload_n 0, 1) := by decide +kernel
theorem d_law_184 : decode code 184 = .ok (.iload_n 3, 1) := by decide +kernel
theorem d_law_185 : decode code 185 = .ok (.iconst 2, 1) := by decide +kernel
theorem d_law_186 : decode code 186 = .ok (.iadd, 1) := by decide +kernel
theorem d_law_187 : decode code 187 = .ok (.iaload, 1) := by decide +kernel
theorem d_law_188 : decode code 188 = .ok (.invokevirtual 22, 3) := by decide +kernel
theorem d_law_191 : decode code 191 = .ok (.if_icmp .eq 493, 3) := by decide +kernel
theorem d_law_194 : decode code 194 = .ok (.iconst 0, 1) := by decide +kernel
theorem d_law_195 : decode code 195 = .ok (.ireturn, 1) := by decide +kernel
theorem d_law_196 : decode code 196 = .ok (.aload_n 1, 1) := by decide +kernel
theorem d_law_197 : decode code 197 = .ok (.aload_n 0, 1) := by decide +kernel
theorem d_law_198 : decode code 198 = .ok (.iload_n 3, 1) := by decide +kernel
theorem d_law_199 : decode code 199 = .ok (.iconst 1, 1) := by decide +kernel
theorem d_law_200 : decode code 200 = .ok (.iadd, 1) := by decide +kernel
theorem d_law_201 : decode code 201 = .ok (.iaload, 1) := by decide +kernel
theorem d_law_202 : decode code 202 = .ok (.aload_n 0, 1) := by decide +kernel
theorem d_law_203 : decode code 203 = .ok (.iload_n 3, 1) := by decide +kernel
theorem d_law_204 : decode code 204 = .ok (.iconst 2, 1) := by decide +kernel
theorem d_law_205 : decode code 205 = .ok (.iadd, 1) := by decide +kernel
theorem d_law_206 : decode code 206 = .ok (.iaload, 1) := by decide +kernel
theorem d_law_207 : decode code 207 = .ok (.aload_n 0, 1) := by decide +kernel
theorem d_law_208 : decode code 208 = .ok (.iload_n 3, 1) := by decide +kernel
theorem d_law_209 : decode code 209 = .ok (.iconst 3, 1) := by decide +kernel
theorem d_law_210 : decode code 210 = .ok (.iadd, 1) := by decide +kernel
theorem d_law_211 : decode code 211 = .ok (.iaload, 1) := by decide +kernel
theorem d_law_212 : decode code 212 = .ok (.invokevirtual 23, 3) := by decide +kernel
theorem d_law_215 : decode code 215 = .ok (.aload_n 2, 1) := by decide +kernel
theorem d_law_216 : decode code 216 = .ok (.aload_n 0, 1) := by decide +kernel
theorem d_law_217 : decode code 217 = .ok (.iload_n 3, 1) := by decide +kernel
theorem d_law_218 : decode code 218 = .ok (.iconst 1, 1) := by decide +kernel
theorem d_law_219 : decode code 219 = .ok (.iadd, 1) := by decide +kernel
theorem d_law_220 : decode code 220 = .ok (.iaload, 1) := by decide +kernel
theorem d_law_221 : decode code 221 = .ok (.aload_n 0, 1) := by decide +kernel
theorem d_law_222 : decode code 222 = .ok (.iload_n 3, 1) := by decide +kernel
theorem d_law_223 : decode code 223 = .ok (.iconst 2, 1) := by decide +kernel
theorem d_law_224 : decode code 224 = .ok (.iadd, 1) := by decide +kernel
theorem d_law_225 : decode code 225 = .ok (.iaload, 1) := by decide +kernel
theorem d_law_226 : decode code 226 = .ok (.aload_n 0, 1) := by decide +kernel
theorem d_law_227 : decode code 227 = .ok (.iload_n 3, 1) := by decide +kernel
theorem d_law_228 : decode code 228 = .ok (.iconst 3, 1) := by decide +kernel
theorem d_law_229 : decode code 229 = .ok (.iadd, 1) := by decide +kernel
theorem d_law_230 : decode code 230 = .ok (.iaload, 1) := by decide +kernel
theorem d_law_231 : decode code 231 = .ok (.invokevirtual 26, 3) := by decide +kernel
theorem d_law_234 : decode code 234 = .ok (.if_icmp .eq 450, 3) := by decide +kernel
theorem d_law_237 : decode code 237 = .ok (.iconst 0, 1) := by decide +kernel
theorem d_law_238 : decode code 238 = .ok (.ireturn, 1) := by decide +kernel
theorem d_law_239 : decode code 239 = .ok (.aload_n 1, 1) := by decide +kernel
theorem d_law_240 : decode code 240 = .ok (.aload_n 0, 1) := by decide +kernel
theorem d_law_241 : decode code 241 = .ok (.iload_n 3, 1) := by decide +kernel
theorem d_law_242 : decode code 242 = .ok (.iconst 1, 1) := by decide +kernel
theorem d_law_243 : decode code 243 = .ok (.iadd, 1) := by decide +kernel
theorem d_law_244 : decode code 244 = .ok (.iaload, 1) := by decide +kernel
theorem d_law_245 : decode code 245 = .ok (.aload_n 0, 1) := by decide +kernel
theorem d_law_246 : decode code 246 = .ok (.iload_n 3, 1) := by decide +kernel
theorem d_law_247 : decode code 247 = .ok (.iconst 2, 1) := by decide +kernel
theorem d_law_248 : decode code 248 = .ok (.iadd, 1) := by decide +kernel
theorem d_law_249 : decode code 249 = .ok (.iaload, 1) := by decide +kernel
theorem d_law_250 : decode code 250 = .ok (.invokevirtual 27, 3) := by decide +kernel
theorem d_law_253 : decode code 253 = .ok (.aload_n 2, 1) := by decide +kernel
theorem d_law_254 : decode code 254 = .ok (.aload_n 0, 1) := by decide +kernel
theorem d_law_255 : decode code 255 = .ok (.iload_n 3, 1) := by decide +kernel
theorem d_law_256 : decode code 256 = .ok (.iconst 1, 1) := by decide +kernel
theorem d_law_257 : decode code 257 = .ok (.iadd, 1) := by decide +kernel
theorem d_law_258 : decode code 258 = .ok (.iaload, 1) := by decide +kernel
theorem d_law_259 : decode code 259 = .ok (.aload_n 0, 1) := by decide +kernel
theorem d_law_260 : decode code 260 = .ok (.iload_n 3, 1) := by decide +kernel
theorem d_law_261 : decode code 261 = .ok (.iconst 2, 1) := by decide +kernel
theorem d_law_262 : decode code 262 = .ok (.iadd, 1) := by decide +kernel
theorem d_law_263 : decode code 263 = .ok (.iaload, 1) := by decide +kernel
theorem d_law_264 : decode code 264 = .ok (.invokevirtual 30, 3) := by decide +kernel
theorem d_law_267 : decode code 267 = .ok (.if_icmp .eq 417, 3) := by decide +kernel
theorem d_law_270 : decode code 270 = .ok (.iconst 0, 1) := by decide +kernel
theorem d_law_271 : decode code 271 = .ok (.ireturn, 1) := by decide +kernel
theorem d_law_272 : decode code 272 = .ok (.aload_n 1, 1) := by decide +kernel
theorem d_law_273 : decode code 273 = .ok (.aload_n 0, 1) := by decide +kernel
theorem d_law_274 : decode code 274 = .ok (.iload_n 3, 1) := by decide +kernel
theorem d_law_275 : decode code 275 = .ok (.iconst 1, 1) := by decide +kernel
theorem d_law_276 : decode code 276 = .ok (.iadd, 1) := by decide +kernel
theorem d_law_277 : decode code 277 = .ok (.iaload, 1) := by decide +kernel
theorem d_law_278 : decode code 278 = .ok (.aload_n 0, 1) := by decide +kernel
theorem d_law_279 : decode code 279 = .ok (.iload_n 3, 1) := by decide +kernel
theorem d_law_280 : decode code 280 = .ok (.iconst 2, 1) := by decide +kernel
theorem d_law_281 : decode code 281 = .ok (.iadd, 1) := by decide +kernel
theorem d_law_282 : decode code 282 = .ok (.iaload, 1) := by decide +kernel
theorem d_law_283 : decode code 283 = .ok (.invokevirtual 31, 3) := by decide +kernel
theorem d_law_286 : decode code 286 = .ok (.aload_n 2, 1) := by decide +kernel
theorem d_law_287 : decode code 287 = .ok (.aload_n 0, 1) := by decide +kernel
theorem d_law_288 : decode code 288 = .ok (.iload_n 3, 1) := by decide +kernel
theorem d_law_289 : decode code 289 = .ok (.iconst 1, 1) := by decide +kernel
theorem d_law_290 : decode code 290 = .ok (.iadd, 1) := by decide +kernel
theorem d_law_291 : decode code 291 = .ok (.iaload, 1) := by decide +kernel
theorem d_law_292 : decode code 292 = .ok (.aload_n 0, 1) := by decide +kernel
theorem d_law_293 : decode code 293 = .ok (.iload_n 3, 1) := by decide +kernel
theorem d_law_294 : decode code 294 = .ok (.iconst 2, 1) := by decide +kernel
theorem d_law_295 : decode code 295 = .ok (.iadd, 1) := by decide +kernel
theorem d_law_296 : decode code 296 = .ok (.iaload, 1) := by decide +kernel
theorem d_law_297 : decode code 297 = .ok (.invokevirtual 34, 3) := by decide +kernel
theorem d_law_300 : decode code 300 = .ok (.if_icmp .eq 384, 3) := by decide +kernel
theorem d_law_303 : decode code 303 = .ok (.iconst 0, 1) := by decide +kernel
theorem d_law_304 : decode code 304 = .ok (.ireturn, 1) := by decide +kernel
theorem d_law_305 : decode code 305 = .ok (.aload_n 1, 1) := by decide +kernel
theorem d_law_306 : decode code 306 = .ok (.aload_n 0, 1) := by decide +kernel
theorem d_law_307 : decode code 307 = .ok (.iload_n 3, 1) := by decide +kernel
theorem d_law_308 : decode code 308 = .ok (.iconst 1, 1) := by decide +kernel
theorem d_law_309 : decode code 309 = .ok (.iadd, 1) := by decide +kernel
theorem d_law_310 : decode code 310 = .ok (.iaload, 1) := by decide +kernel
theorem d_law_311 : decode code 311 = .ok (.aload_n 0, 1) := by decide +kernel
theorem d_law_312 : decode code 312 = .ok (.iload_n 3, 1) := by decide +kernel
theorem d_law_313 : decode code 313 = .ok (.iconst 2, 1) := by decide +kernel
theorem d_law_314 : decode code 314 = .ok (.iadd, 1) := by decide +kernel
theorem d_law_315 : decode code 315 = .ok (.iaload, 1) := by decide +kernel
theorem d_law_316 : decode code 316 = .ok (.invokevirtual 35, 3) := by decide +kernel
theorem d_law_319 : decode code 319 = .ok (.aload_n 2, 1) := by decide +kernel
theorem d_law_320 : decode code 320 = .ok (.aload_n 0, 1) := by decide +kernel
theorem d_law_321 : decode code 321 = .ok (.iload_n 3, 1) := by decide +kernel
theorem d_law_322 : decode code 322 = .ok (.iconst 1, 1) := by decide +kernel
theorem d_law_323 : decode code 323 = .ok (.iadd, 1) := by decide +kernel
theorem d_law_324 : decode code 324 = .ok (.iaload, 1) := by decide +kernel
theorem d_law_325 : decode code 325 = .ok (.aload_n 0, 1) := by decide +kernel
theorem d_law_326 : decode code 326 = .ok (.iload_n 3, 1) := by decide +kernel
theorem d_law_327 : decode code 327 = .ok (.iconst 2, 1) := by decide +kernel
theorem d_law_328 : decode code 328 = .ok (.iadd, 1) := by decide +kernel
theorem d_law_329 : decode code 329 = .ok (.iaload, 1) := by decide +kernel
theorem d_law_330 : decode code 330 = .ok (.invokevirtual 38, 3) := by decide +kernel
theorem d_law_333 : decode code 333 = .ok (.if_icmp .eq 351, 3) := by decide +kernel
theorem d_law_336 : decode code 336 = .ok (.iconst 0, 1) := by decide +kernel
theorem d_law_337 : decode code 337 = .ok (.ireturn, 1) := by decide +kernel
theorem d_law_338 : decode code 338 = .ok (.aload_n 1, 1) := by decide +kernel
theorem d_law_339 : decode code 339 = .ok (.aload_n 0, 1) := by decide +kernel
theorem d_law_340 : decode code 340 = .ok (.iload_n 3, 1) := by decide +kernel
theorem d_law_341 : decode code 341 = .ok (.iconst 1, 1) := by decide +kernel
theorem d_law_342 : decode code 342 = .ok (.iadd, 1) := by decide +kernel
theorem d_law_343 : decode code 343 = .ok (.iaload, 1) := by decide +kernel
theorem d_law_344 : decode code 344 = .ok (.invokevirtual 39, 3) := by decide +kernel
theorem d_law_347 : decode code 347 = .ok (.aload_n 2, 1) := by decide +kernel
theorem d_law_348 : decode code 348 = .ok (.aload_n 0, 1) := by decide +kernel
theorem d_law_349 : decode code 349 = .ok (.iload_n 3, 1) := by decide +kernel
theorem d_law_350 : decode code 350 = .ok (.iconst 1, 1) := by decide +kernel
theorem d_law_351 : decode code 351 = .ok (.iadd, 1) := by decide +kernel
theorem d_law_352 : decode code 352 = .ok (.iaload, 1) := by decide +kernel
theorem d_law_353 : decode code 353 = .ok (.invokevirtual 43, 3) := by decide +kernel
theorem d_law_356 : decode code 356 = .ok (.if_icmp .eq 328, 3) := by decide +kernel
theorem d_law_359 : decode code 359 = .ok (.iconst 0, 1) := by decide +kernel
theorem d_law_360 : decode code 360 = .ok (.ireturn, 1) := by decide +kernel
theorem d_law_361 : decode code 361 = .ok (.aload_n 1, 1) := by decide +kernel
theorem d_law_362 : decode code 362 = .ok (.aload_n 0, 1) := by decide +kernel
theorem d_law_363 : decode code 363 = .ok (.iload_n 3, 1) := by decide +kernel
theorem d_law_364 : decode code 364 = .ok (.iconst 1, 1) := by decide +kernel
theorem d_law_365 : decode code 365 = .ok (.iadd, 1) := by decide +kernel
theorem d_law_366 : decode code 366 = .ok (.iaload, 1) := by decide +kernel
theorem d_law_367 : decode code 367 = .ok (.aload_n 0, 1) := by decide +kernel
theorem d_law_368 : decode code 368 = .ok (.iload_n 3, 1) := by decide +kernel
theorem d_law_369 : decode code 369 = .ok (.iconst 2, 1) := by decide +kernel
theorem d_law_370 : decode code 370 = .ok (.iadd, 1) := by decide +kernel
theorem d_law_371 : decode code 371 = .ok (.iaload, 1) := by decide +kernel
theorem d_law_372 : decode code 372 = .ok (.invokevirtual 44, 3) := by decide +kernel
theorem d_law_375 : decode code 375 = .ok (.aload_n 2, 1) := by decide +kernel
theorem d_law_376 : decode code 376 = .ok (.aload_n 0, 1) := by decide +kernel
theorem d_law_377 : decode code 377 = .ok (.iload_n 3, 1) := by decide +kernel
theorem d_law_378 : decode code 378 = .ok (.iconst 1, 1) := by decide +kernel
theorem d_law_379 : decode code 379 = .ok (.iadd, 1) := by decide +kernel
theorem d_law_380 : decode code 380 = .ok (.iaload, 1) := by decide +kernel
theorem d_law_381 : decode code 381 = .ok (.aload_n 0, 1) := by decide +kernel
theorem d_law_382 : decode code 382 = .ok (.iload_n 3, 1) := by decide +kernel
theorem d_law_383 : decode code 383 = .ok (.iconst 2, 1) := by decide +kernel
theorem d_law_384 : decode code 384 = .ok (.iadd, 1) := by decide +kernel
theorem d_law_385 : decode code 385 = .ok (.iaload, 1) := by decide +kernel
theorem d_law_386 : decode code 386 = .ok (.invokevirtual 47, 3) := by decide +kernel
theorem d_law_389 : decode code 389 = .ok (.if_icmp .eq 295, 3) := by decide +kernel
theorem d_law_392 : decode code 392 = .ok (.iconst 0, 1) := by decide +kernel
theorem d_law_393 : decode code 393 = .ok (.ireturn, 1) := by decide +kernel
theorem d_law_394 : decode code 394 = .ok (.aload_n 1, 1) := by decide +kernel
theorem d_law_395 : decode code 395 = .ok (.aload_n 0, 1) := by decide +kernel
theorem d_law_396 : decode code 396 = .ok (.iload_n 3, 1) := by decide +kernel
theorem d_law_397 : decode code 397 = .ok (.iconst 1, 1) := by decide +kernel
theorem d_law_398 : decode code 398 = .ok (.iadd, 1) := by decide +kernel
theorem d_law_399 : decode code 399 = .ok (.iaload, 1) := by decide +kernel
theorem d_law_400 : decode code 400 = .ok (.aload_n 0, 1) := by decide +kernel
theorem d_law_401 : decode code 401 = .ok (.iload_n 3, 1) := by decide +kernel
theorem d_law_402 : decode code 402 = .ok (.iconst 2, 1) := by decide +kernel
theorem d_law_403 : decode code 403 = .ok (.iadd, 1) := by decide +kernel
theorem d_law_404 : decode code 404 = .ok (.iaload, 1) := by decide +kernel
theorem d_law_405 : decode code 405 = .ok (.invokevirtual 48, 3) := by decide +kernel
theorem d_law_408 : decode code 408 = .ok (.aload_n 2, 1) := by decide +kernel
theorem d_law_409 : decode code 409 = .ok (.aload_n 0, 1) := by decide +kernel
theorem d_law_410 : decode code 410 = .ok (.iload_n 3, 1) := by decide +kernel
theorem d_law_411 : decode code 411 = .ok (.iconst 1, 1) := by decide +kernel
theorem d_law_412 : decode code 412 = .ok (.iadd, 1) := by decide +kernel
theorem d_law_413 : decode code 413 = .ok (.iaload, 1) := by decide +kernel
theorem d_law_414 : decode code 414 = .ok (.aload_n 0, 1) := by decide +kernel
theorem d_law_415 : decode code 415 = .ok (.iload_n 3, 1) := by decide +kernel
theorem d_law_416 : decode code 416 = .ok (.iconst 2, 1) := by decide +kernel
theorem d_law_417 : decode code 417 = .ok (.iadd, 1) := by decide +kernel
theorem d_law_418 : decode code 418 = .ok (.iaload, 1) := by decide +kernel
theorem d_law_419 : decode code 419 = .ok (.invokevirtual 51, 3) := by decide +kernel
theorem d_law_422 : decode code 422 = .ok (.if_icmp .eq 262, 3) := by decide +kernel
theorem d_law_425 : decode code 425 = .ok (.iconst 0, 1) := by decide +kernel
theorem d_law_426 : decode code 426 = .ok (.ireturn, 1) := by decide +kernel
theorem d_law_427 : decode code 427 = .ok (.aload_n 1, 1) := by decide +kernel
theorem d_law_428 : decode code 428 = .ok (.aload_n 0, 1) := by decide +kernel
theorem d_law_429 : decode code 429 = .ok (.iload_n 3, 1) := by decide +kernel
theorem d_law_430 : decode code 430 = .ok (.iconst 1, 1) := by decide +kernel
theorem d_law_431 : decode code 431 = .ok (.iadd, 1) := by decide +kernel
theorem d_law_432 : decode code 432 = .ok (.iaload, 1) := by decide +kernel
theorem d_law_433 : decode code 433 = .ok (.invokevirtual 52, 3) := by decide +kernel
theorem d_law_436 : decode code 436 = .ok (.aload_n 2, 1) := by decide +kernel
theorem d_law_437 : decode code 437 = .ok (.aload_n 0, 1) := by decide +kernel
theorem d_law_438 : decode code 438 = .ok (.iload_n 3, 1) := by decide +kernel
theorem d_law_439 : decode code 439 = .ok (.iconst 1, 1) := by decide +kernel
theorem d_law_440 : decode code 440 = .ok (.iadd, 1) := by decide +kernel
theorem d_law_441 : decode code 441 = .ok (.iaload, 1) := by decide +kernel
theorem d_law_442 : decode code 442 = .ok (.invokevirtual 55, 3) := by decide +kernel
theorem d_law_445 : decode code 445 = .ok (.if_icmp .eq 239, 3) := by decide +kernel
theorem d_law_448 : decode code 448 = .ok (.iconst 0, 1) := by decide +kernel
theorem d_law_449 : decode code 449 = .ok (.ireturn, 1) := by decide +kernel
theorem d_law_450 : decode code 450 = .ok (.aload_n 1, 1) := by decide +kernel
theorem d_law_451 : decode code 451 = .ok (.aload_n 0, 1) := by decide +kernel
theorem d_law_452 : decode code 452 = .ok (.iload_n 3, 1) := by decide +kernel
theorem d_law_453 : decode code 453 = .ok (.iconst 1, 1) := by decide +kernel
theorem d_law_454 : decode code 454 = .ok (.iadd, 1) := by decide +kernel
theorem d_law_455 : decode code 455 = .ok (.iaload, 1) := by decide +kernel
theorem d_law_456 : decode code 456 = .ok (.invokevirtual 56, 3) := by decide +kernel
theorem d_law_459 : decode code 459 = .ok (.aload_n 2, 1) := by decide +kernel
theorem d_law_460 : decode code 460 = .ok (.aload_n 0, 1) := by decide +kernel
theorem d_law_461 : decode code 461 = .ok (.iload_n 3, 1) := by decide +kernel
theorem d_law_462 : decode code 462 = .ok (.iconst 1, 1) := by decide +kernel
theorem d_law_463 : decode code 463 = .ok (.iadd, 1) := by decide +kernel
theorem d_law_464 : decode code 464 = .ok (.iaload, 1) := by decide +kernel
theorem d_law_465 : decode code 465 = .ok (.invokevirtual 59, 3) := by decide +kernel
theorem d_law_468 : decode code 468 = .ok (.if_icmp .eq 216, 3) := by decide +kernel
theorem d_law_471 : decode code 471 = .ok (.iconst 0, 1) := by decide +kernel
theorem d_law_472 : decode code 472 = .ok (.ireturn, 1) := by decide +kernel
theorem d_law_473 : decode code 473 = .ok (.aload_n 1, 1) := by decide +kernel
theorem d_law_474 : decode code 474 = .ok (.aload_n 0, 1) := by decide +kernel
theorem d_law_475 : decode code 475 = .ok (.iload_n 3, 1) := by decide +kernel
theorem d_law_476 : decode code 476 = .ok (.iconst 1, 1) := by decide +kernel
theorem d_law_477 : decode code 477 = .ok (.iadd, 1) := by decide +kernel
theorem d_law_478 : decode code 478 = .ok (.iaload, 1) := by decide +kernel
theorem d_law_479 : decode code 479 = .ok (.aload_n 0, 1) := by decide +kernel
theorem d_law_480 : decode code 480 = .ok (.iload_n 3, 1) := by decide +kernel
theorem d_law_481 : decode code 481 = .ok (.iconst 2, 1) := by decide +kernel
theorem d_law_482 : decode code 482 = .ok (.iadd, 1) := by decide +kernel
theorem d_law_483 : decode code 483 = .ok (.iaload, 1) := by decide +kernel
theorem d_law_484 : decode code 484 = .ok (.invokevirtual 60, 3) := by decide +kernel
theorem d_law_487 : decode code 487 = .ok (.aload_n 2, 1) := by decide +kernel
theorem d_law_488 : decode code 488 = .ok (.aload_n 0, 1) := by decide +kernel
theorem d_law_489 : decode code 489 = .ok (.iload_n 3, 1) := by decide +kernel
theorem d_law_490 : decode code 490 = .ok (.iconst 1, 1) := by decide +kernel
theorem d_law_491 : decode code 491 = .ok (.iadd, 1) := by decide +kernel
theorem d_law_492 : decode code 492 = .ok (.iaload, 1) := by decide +kernel
theorem d_law_493 : decode code 493 = .ok (.aload_n 0, 1) := by decide +kernel
theorem d_law_494 : decode code 494 = .ok (.iload_n 3, 1) := by decide +kernel
theorem d_law_495 : decode code 495 = .ok (.iconst 2, 1) := by decide +kernel
theorem d_law_496 : decode code 496 = .ok (.iadd, 1) := by decide +kernel
theorem d_law_497 : decode code 497 = .ok (.iaload, 1) := by decide +kernel
theorem d_law_498 : decode code 498 = .ok (.invokevirtual 63, 3) := by decide +kernel
theorem d_law_501 : decode code 501 = .ok (.if_icmp .eq 183, 3) := by decide +kernel
theorem d_law_504 : decode code 504 = .ok (.iconst 0, 1) := by decide +kernel
theorem d_law_505 : decode code 505 = .ok (.ireturn, 1) := by decide +kernel
theorem d_law_506 : decode code 506 = .ok (.aload_n 1, 1) := by decide +kernel
theorem d_law_507 : decode code 507 = .ok (.aload_n 0, 1) := by decide +kernel
theorem d_law_508 : decode code 508 = .ok (.iload_n 3, 1) := by decide +kernel
theorem d_law_509 : decode code 509 = .ok (.iconst 1, 1) := by decide +kernel
theorem d_law_510 : decode code 510 = .ok (.iadd, 1) := by decide +kernel
theorem d_law_511 : decode code 511 = .ok (.iaload, 1) := by decide +kernel
theorem d_law_512 : decode code 512 = .ok (.aload_n 0, 1) := by decide +kernel
theorem d_law_513 : decode code 513 = .ok (.iload_n 3, 1) := by decide +kernel
theorem d_law_514 : decode code 514 = .ok (.iconst 2, 1) := by decide +kernel
theorem d_law_515 : decode code 515 = .ok (.iadd, 1) := by decide +kernel
theorem d_law_516 : decode code 516 = .ok (.iaload, 1) := by decide +kernel
theorem d_law_517 : decode code 517 = .ok (.invokevirtual 64, 3) := by decide +kernel
theorem d_law_520 : decode code 520 = .ok (.aload_n 2, 1) := by decide +kernel
theorem d_law_521 : decode code 521 = .ok (.aload_n 0, 1) := by decide +kernel
theorem d_law_522 : decode code 522 = .ok (.iload_n 3, 1) := by decide +kernel
theorem d_law_523 : decode code 523 = .ok (.iconst 1, 1) := by decide +kernel
theorem d_law_524 : decode code 524 = .ok (.iadd, 1) := by decide +kernel
theorem d_law_525 : decode code 525 = .ok (.iaload, 1) := by decide +kernel
theorem d_law_526 : decode code 526 = .ok (.aload_n 0, 1) := by decide +kernel
theorem d_law_527 : decode code 527 = .ok (.iload_n 3, 1) := by decide +kernel
theorem d_law_528 : decode code 528 = .ok (.iconst 2, 1) := by decide +kernel
theorem d_law_529 : decode code 529 = .ok (.iadd, 1) := by decide +kernel
theorem d_law_530 : decode code 530 = .ok (.iaload, 1) := by decide +kernel
theorem d_law_531 : decode code 531 = .ok (.invokevirtual 67, 3) := by decide +kernel
theorem d_law_534 : decode code 534 = .ok (.if_icmp .eq 150, 3) := by decide +kernel
theorem d_law_537 : decode code 537 = .ok (.iconst 0, 1) := by decide +kernel
theorem d_law_538 : decode code 538 = .ok (.ireturn, 1) := by decide +kernel
theorem d_law_539 : decode code 539 = .ok (.aload_n 1, 1) := by decide +kernel
theorem d_law_540 : decode code 540 = .ok (.aload_n 0, 1) := by decide +kernel
theorem d_law_541 : decode code 541 = .ok (.iload_n 3, 1) := by decide +kernel
theorem d_law_542 : decode code 542 = .ok (.iconst 1, 1) := by decide +kernel
theorem d_law_543 : decode code 543 = .ok (.iadd, 1) := by decide +kernel
theorem d_law_544 : decode code 544 = .ok (.iaload, 1) := by decide +kernel
theorem d_law_545 : decode code 545 = .ok (.aload_n 0, 1) := by decide +kernel
theorem d_law_546 : decode code 546 = .ok (.iload_n 3, 1) := by decide +kernel
theorem d_law_547 : decode code 547 = .ok (.iconst 2, 1) := by decide +kernel
theorem d_law_548 : decode code 548 = .ok (.iadd, 1) := by decide +kernel
theorem d_law_549 : decode code 549 = .ok (.iaload, 1) := by decide +kernel
theorem d_law_550 : decode code 550 = .ok (.i2l, 1) := by decide +kernel
theorem d_law_551 : decode code 551 = .ok (.bipush 32, 2) := by decide +kernel
theorem d_law_553 : decode code 553 = .ok (.lshl, 1) := by decide +kernel
theorem d_law_554 : decode code 554 = .ok (.aload_n 0, 1) := by decide +kernel
theorem d_law_555 : decode code 555 = .ok (.iload_n 3, 1) := by decide +kernel
theorem d_law_556 : decode code 556 = .ok (.iconst 3, 1) := by decide +kernel
theorem d_law_557 : decode code 557 = .ok (.iadd, 1) := by decide +kernel
theorem d_law_558 : decode code 558 = .ok (.iaload, 1) := by decide +kernel
theorem d_law_559 : decode code 559 = .ok (.i2l, 1) := by decide +kernel
theorem d_law_560 : decode code 560 = .ok (.ldc2_w 68, 3) := by decide +kernel
theorem d_law_563 : decode code 563 = .ok (.land, 1) := by decide +kernel
theorem d_law_564 : decode code 564 = .ok (.lor, 1) := by decide +kernel
theorem d_law_565 : decode code 565 = .ok (.invokevirtual 70, 3) := by decide +kernel
theorem d_law_568 : decode code 568 = .ok (.aload_n 2, 1) := by decide +kernel
theorem d_law_569 : decode code 569 = .ok (.aload_n 0, 1) := by decide +kernel
theorem d_law_570 : decode code 570 = .ok (.iload_n 3, 1) := by decide +kernel
theorem d_law_571 : decode code 571 = .ok (.iconst 1, 1) := by decide +kernel
theorem d_law_572 : decode code 572 = .ok (.iadd, 1) := by decide +kernel
theorem d_law_573 : decode code 573 = .ok (.iaload, 1) := by decide +kernel
theorem d_law_574 : decode code 574 = .ok (.aload_n 0, 1) := by decide +kernel
theorem d_law_575 : decode code 575 = .ok (.iload_n 3, 1) := by decide +kernel
theorem d_law_576 : decode code 576 = .ok (.iconst 2, 1) := by decide +kernel
theorem d_law_577 : decode code 577 = .ok (.iadd, 1) := by decide +kernel
theorem d_law_578 : decode code 578 = .ok (.iaload, 1) := by decide +kernel
theorem d_law_579 : decode code 579 = .ok (.i2l, 1) := by decide +kernel
theorem d_law_580 : decode code 580 = .ok (.bipush 32, 2) := by decide +kernel
theorem d_law_582 : decode code 582 = .ok (.lshl, 1) := by decide +kernel
theorem d_law_583 : decode code 583 = .ok (.aload_n 0, 1) := by decide +kernel
theorem d_law_584 : decode code 584 = .ok (.iload_n 3, 1) := by decide +kernel
theorem d_law_585 : decode code 585 = .ok (.iconst 3, 1) := by decide +kernel
theorem d_law_586 : decode code 586 = .ok (.iadd, 1) := by decide +kernel
theorem d_law_587 : decode code 587 = .ok (.iaload, 1) := by decide +kernel
theorem d_law_588 : decode code 588 = .ok (.i2l, 1) := by decide +kernel
theorem d_law_589 : decode code 589 = .ok (.ldc2_w 68, 3) := by decide +kernel
theorem d_law_592 : decode code 592 = .ok (.land, 1) := by decide +kernel
theorem d_law_593 : decode code 593 = .ok (.lor, 1) := by decide +kernel
theorem d_law_594 : decode code 594 = .ok (.invokevirtual 74, 3) := by decide +kernel
theorem d_law_597 : decode code 597 = .ok (.if_icmp .eq 87, 3) := by decide +kernel
theorem d_law_600 : decode code 600 = .ok (.iconst 0, 1) := by decide +kernel
theorem d_law_601 : decode code 601 = .ok (.ireturn, 1) := by decide +kernel
theorem d_law_602 : decode code 602 = .ok (.aload_n 1, 1) := by decide +kernel
theorem d_law_603 : decode code 603 = .ok (.invokevirtual 75, 3) := by decide +kernel
theorem d_law_606 : decode code 606 = .ok (.aload_n 2, 1) := by decide +kernel
theorem d_law_607 : decode code 607 = .ok (.invokevirtual 79, 3) := by decide +kernel
theorem d_law_610 : decode code 610 = .ok (.if_icmp .eq 74, 3) := by decide +kernel
theorem d_law_613 : decode code 613 = .ok (.iconst 0, 1) := by decide +kernel
theorem d_law_614 : decode code 614 = .ok (.ireturn, 1) := by decide +kernel
theorem d_law_615 : decode code 615 = .ok (.aload_n 1, 1) := by decide +kernel
theorem d_law_616 : decode code 616 = .ok (.aload_n 0, 1) := by decide +kernel
theorem d_law_617 : decode code 617 = .ok (.iload_n 3, 1) := by decide +kernel
theorem d_law_618 : decode code 618 = .ok (.iconst 1, 1) := by decide +kernel
theorem d_law_619 : decode code 619 = .ok (.iadd, 1) := by decide +kernel
theorem d_law_620 : decode code 620 = .ok (.iaload, 1) := by decide +kernel
theorem d_law_621 : decode code 621 = .ok (.invokevirtual 80, 3) := by decide +kernel
theorem d_law_624 : decode code 624 = .ok (.aload_n 2, 1) := by decide +kernel
theorem d_law_625 : decode code 625 = .ok (.aload_n 0, 1) := by decide +kernel
theorem d_law_626 : decode code 626 = .ok (.iload_n 3, 1) := by decide +kernel
theorem d_law_627 : decode code 627 = .ok (.iconst 1, 1) := by decide +kernel
theorem d_law_628 : decode code 628 = .ok (.iadd, 1) := by decide +kernel
theorem d_law_629 : decode code 629 = .ok (.iaload, 1) := by decide +kernel
theorem d_law_630 : decode code 630 = .ok (.invokevirtual 83, 3) := by decide +kernel
theorem d_law_633 : decode code 633 = .ok (.if_icmp .eq 51, 3) := by decide +kernel
theorem d_law_636 : decode code 636 = .ok (.iconst 0, 1) := by decide +kernel
theorem d_law_637 : decode code 637 = .ok (.ireturn, 1) := by decide +kernel
theorem d_law_638 : decode code 638 = .ok (.aload_n 1, 1) := by decide +kernel
theorem d_law_639 : decode code 639 = .ok (.aload_n 0, 1) := by decide +kernel
theorem d_law_640 : decode code 640 = .ok (.iload_n 3, 1) := by decide +kernel
theorem d_law_641 : decode code 641 = .ok (.iconst 1, 1) := by decide +kernel
theorem d_law_642 : decode code 642 = .ok (.iadd, 1) := by decide +kernel
theorem d_law_643 : decode code 643 = .ok (.iaload, 1) := by decide +kernel
theorem d_law_644 : decode code 644 = .ok (.invokevirtual 84, 3) := by decide +kernel
theorem d_law_647 : decode code 647 = .ok (.aload_n 2, 1) := by decide +kernel
theorem d_law_648 : decode code 648 = .ok (.aload_n 0, 1) := by decide +kernel
theorem d_law_649 : decode code 649 = .ok (.iload_n 3, 1) := by decide +kernel
theorem d_law_650 : decode code 650 = .ok (.iconst 1, 1) := by decide +kernel
theorem d_law_651 : decode code 651 = .ok (.iadd, 1) := by decide +kernel
theorem d_law_652 : decode code 652 = .ok (.iaload, 1) := by decide +kernel
theorem d_law_653 : decode code 653 = .ok (.invokevirtual 87, 3) := by decide +kernel
theorem d_law_656 : decode code 656 = .ok (.if_icmp .eq 28, 3) := by decide +kernel
theorem d_law_659 : decode code 659 = .ok (.iconst 0, 1) := by decide +kernel
theorem d_law_660 : decode code 660 = .ok (.ireturn, 1) := by decide +kernel
theorem d_law_661 : decode code 661 = .ok (.aload_n 1, 1) := by decide +kernel
theorem d_law_662 : decode code 662 = .ok (.aload_n 0, 1) := by decide +kernel
theorem d_law_663 : decode code 663 = .ok (.iload_n 3, 1) := by decide +kernel
theorem d_law_664 : decode code 664 = .ok (.iconst 1, 1) := by decide +kernel
theorem d_law_665 : decode code 665 = .ok (.iadd, 1) := by decide +kernel
theorem d_law_666 : decode code 666 = .ok (.iaload, 1) := by decide +kernel
theorem d_law_667 : decode code 667 = .ok (.invokevirtual 88, 3) := by decide +kernel
theorem d_law_670 : decode code 670 = .ok (.aload_n 2, 1) := by decide +kernel
theorem d_law_671 : decode code 671 = .ok (.aload_n 0, 1) := by decide +kernel
theorem d_law_672 : decode code 672 = .ok (.iload_n 3, 1) := by decide +kernel
theorem d_law_673 : decode code 673 = .ok (.iconst 1, 1) := by decide +kernel
theorem d_law_674 : decode code 674 = .ok (.iadd, 1) := by decide +kernel
theorem d_law_675 : decode code 675 = .ok (.iaload, 1) := by decide +kernel
theorem d_law_676 : decode code 676 = .ok (.invokevirtual 91, 3) := by decide +kernel
theorem d_law_679 : decode code 679 = .ok (.if_icmp .eq 5, 3) := by decide +kernel
theorem d_law_682 : decode code 682 = .ok (.iconst 0, 1) := by decide +kernel
theorem d_law_683 : decode code 683 = .ok (.ireturn, 1) := by decide +kernel
theorem d_law_684 : decode code 684 = .ok (.iinc 3 4, 3) := by decide +kernel
theorem d_law_687 : decode code 687 = .ok (.goto (-669), 3) := by decide +kernel
theorem d_law_690 : decode code 690 = .ok (.iconst 1, 1) := by decide +kernel
theorem d_law_691 : decode code 691 = .ok (.ireturn, 1) := by decide +kernel
end
section
theorem lw_call {p : Program} {l : Launch} {e : Env} {R : Room} {s : State} {m : MethodId} {args : Array Value} {below : List Frame} {meth : Method} {c : Code} {cells slots : Nat} {Q : State → Prop} {sh : ai_Sh} {cA : Bool → ClassId} {ad : Nat → Nat} {D : va_G} {A : Nat → Prop} {bs : ByteArray} {own : String} {Ts : List Cond} {nL : Nat}
    (hx : p.tables.exec = Jvm.exec) (hb : c.code = bs) (hml : c.maxLocals = nL) (hown : s.vm.findClass own = some m.cls) (hts : ∀ w ∈ Ts, w.before args s = true) (hin : ∀ w ∈ ai_tb, w ∈ Ts) (hN : ai_N s) (hK : va_K D ai_cl [(cA false, .int), (cA true, .boolean)] s) (hAd : ∀ k, k < sh.length → A (ad k))
    {y : MethodName} {yb : ByteArray} {yn ci na d k ix pc : Nat} {yt : Option FieldType} {fs : List (Option Nat)} {As rest : List Value} {r : Int32} {h h2 : ai_H} {H : Heap} {locs : List Loc} {ls : Array Slot} (hm1 : ai_mokP (y, yb, yn, yt, ci, false, na)) (hsk : sh[k]? = some (.inr (ci, fs)))
    (hmet : Met l y (.code y yb yn yt :: ai_tb) (ai_rm d) (ai_Pc D cA ad sh (.ref k :: As) h) (ai_Qc D cA ad sh (some (.int r)) h2) 0 0 (ai_A ad sh)) (hlk : Cond.methodLink own ix y ∈ lw_tbl) (hlen : As.length = na)
    (hfr : d + 1 ≤ R.frames) (hlo : 50 * d + 50 ≤ R.locals) (hce : cells ≤ R.cells) (hsl : slots ≤ R.slots) (hls : ls.size = nL) (hrest : (rest.map fun v => v.category).sum ≤ 8) (hP : va_P D ai_cl (ai_ws cA ad sh h) H) (hS : va_S A s.heap H locs) (hdec : decode bs pc = .ok (.invokevirtual ix, 3))
    (kk : ∀ (H1 : Heap) (locs1 : List Loc), (∀ q : Nat, q < H.size → ¬ ai_A ad sh q → H1[q]? = H[q]?) → va_S A s.heap H1 locs1 → W p l e R s m args below meth c H1 locs1 cells slots Q (F0 m (pc + 3) ls (.int r :: rest))) :
    W p l e R s m args below meth c H locs cells slots Q (F0 m pc ls ((As.map (ai_cv ad)).reverse ++ .ref (ad k) :: rest)) := by
  simp only [ai_mokP] at hm1
  obtain ⟨w1, w2, w3, w4, w5, w6, w7, w8⟩ := hm1
  simp only [Bool.false_eq_true, if_false] at w8
  obtain ⟨w8, w9, w10⟩ := w8
  have hG : ∀ w ∈ (Cond.code y yb yn yt :: ai_tb), w ∈ ai_tb := fun w hw => (List.mem_cons.mp hw).elim (fun e => e ▸ ai_tb_in w1 rfl) (fun e => e)
  have hci : ∃ T N, ai_cl[ci]? = some (y.cls, T, N) := by
    cases hz : ai_cl[ci]? with
    | none => rw [hz] at w10; cases w10
    | some q => obtain ⟨C, T, N⟩ := q; rw [hz] at w10; cases w10; exact ⟨T, N, rfl⟩
  obtain ⟨T, N, hci⟩ := hci
  have hpre : PreV s H y.cls (ad k) (ai_Pc D cA ad sh (.ref k :: As) h) (As.map (ai_cv ad)) :=
    ⟨ai_blind D cA ad sh _ h, va_recv hK hP hci (ai_ws_at hsk), fun U hU hW => ⟨rfl, by rw [hU]; exact hP, va_K.moved hW.alike hK, ai_N_warm hW hN⟩⟩
  have hroom : (ai_rm d).frames + 1 ≤ R.frames ∧ 8 + (yn + 11) + (ai_rm d).locals ≤ R.locals := ⟨hfr, by show 8 + (yn + 11) + 50 * d ≤ _; omega⟩
  have hr : va_Run p l e R s m args below meth c H locs cells slots 0 0 (F0 m pc ls ((As.map (ai_cv ad)).reverse ++ .ref (ad k) :: rest)) rest (ai_Qc D cA ad sh (some (.int r)) h2 (Value.ref (ad k) :: As.map (ai_cv ad)).toArray) (ai_A ad sh) := by
    refine va_runV (n := na) (C := y.cls) (bytes := yb) (maxL := yn) (ret := yt) (index := ix) (own := own) (Ts := Ts) ⟨hx, hb, hml, hown, hts⟩ hmet ?_ hpre rfl (by rw [List.length_map]; exact hlen) hls rfl (lv_room hrest) hdec ⟨hce, hsl⟩
    exact cwV na hts (ai_good (fun w hw => by
      rcases List.mem_append.mp hw with q | q
      · rcases List.mem_cons.mp q with rfl | q
        · exact ai_tb_in hlk rfl
        rcases List.mem_cons.mp q with rfl | q
        · exact ai_tb_in w8 rfl
        rcases List.mem_cons.mp q with rfl | q
        · exact ai_tb_in w9 rfl
        rcases List.mem_cons.mp q with rfl | q
        · exact ai_tb_in w2 rfl
        cases q
      · exact hG w q) hin) rfl rfl rfl ⟨rfl, w4, w5, w7⟩ hroom
  have hA : ∀ q, ai_A ad sh q → A q := fun q hq => by obtain ⟨k9, h9, rfl⟩ := hq; exact hAd k9 h9
  intro T hT X
  obtain ⟨v, st₀, t, T', L, h0, X', hL, e1, e2, ⟨hv, hp, hz, hk⟩, st⟩ := hr T hT X
  cases hv
  rw [h0] at hz hk
  obtain ⟨t2, a1, b1⟩ := kk T'.heap (locs ++ L) (fun q h1 h2 => by rw [e1]; exact hk q h1 h2)
    ⟨Nat.le_trans hS.1 (by rw [e1]; exact hz), fun q h1 h2 => by rw [e1, hk q (Nat.lt_of_lt_of_le h1 hS.1) (fun z => h2 (hA q z))]; exact hS.2.1 q h1 h2, fun q hq => by
      rcases List.mem_append.mp hq with h | h
      · exact hS.2.2 q h
      · exact hA _ (hL q h)⟩ T' rfl X'
  exact ⟨t2, st t2 a1, b1⟩
/-- what stands at the loop's head, both objects being new -/
def lw_St (s : State) (b : Nat) (D : va_G) (cA : Bool → ClassId) (pC pM : Nat → Nat) (xC xM : ai_H) (H : Heap) (locs : List Loc) (ls : Array Slot) : Prop :=
  va_P D ai_cl (ai_ws cA pC shC xC) H ∧ (∀ H1 : Heap, (∀ q : Nat, q < H.size → ¬ ai_A pC shC q → H1[q]? = H[q]?) → va_P D ai_cl (ai_ws cA pM shM xM) H1) ∧
  (∀ i j, i < shC.length → j < shC.length → pC i = pC j → i = j) ∧ (∀ i j, i < shM.length → j < shM.length → pM i = pM j → i = j) ∧ (∀ k, k < shC.length → s.heap.size ≤ pC k) ∧ (∀ k, k < shM.length → s.heap.size ≤ pM k) ∧
  ab_h gC xC ∧ ab_h gM xM ∧ va_S (fun q : Nat => s.heap.size ≤ q) s.heap H locs ∧ lv_has ls 4 [(3, .int 0), (2, .ref (pM 0)), (1, .ref (pC 29)), (0, .ref b)] ∧ va_K D ai_cl [(cA false, .int), (cA true, .boolean)] s ∧ ai_N s
theorem lw_in : ∀ w ∈ ai_tb, w ∈ lw_tbl := fun _ hw => (List.mem_filter.mp hw).1
/-- the loop's head, behind the last call -/
theorem lw_exit {p : Program} {l : Launch} {e : Env} {s : State} {m : MethodId} {below : List Frame} {meth : Method} {c : Code} {b L : Nat} {xs : Nat → Int32} {H : Heap} {locs : List Loc} {ls : Array Slot} {x3 : Int32} {u1 u2 : Nat} (C0 : lw_At p s m meth c b L xs) (hS : va_S (fun q : Nat => s.heap.size ≤ q) s.heap H locs) (hl : lv_has ls 4 [(3, .int x3), (2, .ref u1), (1, .ref u2), (0, .ref b)]) (hgt : Int32.ofNat L - 4 < x3) :
    W p l e room_1 s m #[Value.ref b] below meth c H locs 72 102720 (lw_Z below #[Value.ref b] s) (F0 m 18 ls []) := by
  obtain ⟨hx, hb, hr, hml, hown, hts, hX, hbl, hlocks, hgv⟩ := id C0
  have hbA : ¬ (fun q : Nat => s.heap.size ≤ q) b := Nat.not_le.mpr hbl
  refine lv_iload_n hx hb d_law_18 rfl (lv_at hl 0 rfl) ?_
  refine lv_aload_n hx hb d_law_19 rfl (lv_at hl 3 rfl) ?_
  refine va_slen hx hb hX hbl hbA hS d_law_20 ?_
  refine lv_iconst (v := 4) hx hb d_law_21 (by decide +kernel) ?_
  refine lv_isub hx hb d_law_22 ?_
  refine lv_icmp_gt (tgt := 690) hx hb d_law_23 (by decide) (fun _ => ?_) (fun h => absurd hgt h)
  refine va_forget (fun q hq => hS.2.2 q hq) ?_
  refine W.widen (k := 600000) (n := 7302250) (Nat.le_of_ble_eq_true rfl) (Nat.le_of_ble_eq_true rfl) ?_
  refine lv_iconst (v := 1) hx hb d_law_690 (by decide +kernel) ?_
  exact lw_ret hx hb hr hlocks d_law_691
/-- behind a case -/
theorem lw_next {p : Program} {l : Launch} {e : Env} {s : State} {m : MethodId} {below : List Frame} {meth : Method} {c : Code} {b L : Nat} {xs : Nat → Int32} {H : Heap} {locs : List Loc} {ls : Array Slot} {u1 u2 : Nat} (h4 : L = 4) (C0 : lw_At p s m meth c b L xs) (hS : va_S (fun q : Nat => s.heap.size ≤ q) s.heap H locs) (hl : lv_has ls 4 [(3, .int 0), (2, .ref u1), (1, .ref u2), (0, .ref b)]) :
    W p l e room_1 s m #[Value.ref b] below meth c H locs 72 102720 (lw_Z below #[Value.ref b] s) (F0 m 684 ls []) := by
  obtain ⟨hx, hb, -⟩ := id C0
  refine lv_iinc (v := 4) (lv' := [(3, .int 4), (2, .ref u1), (1, .ref u2), (0, .ref b)]) hx hb d_law_684 hl (k := 0) rfl (by decide +kernel) (by decide) rfl (fun ls hl => ?_)
  refine lv_goto (tgt := 18) hx hb d_law_687 (by decide) ?_
  exact lw_exit C0 hS hl (by subst h4; decide +kernel)
theorem lw_v0 : vp_in 0 4 := by unfold vp_in; decide +kernel
theorem lw_v1 : vp_in (0 + 1) 4 := by unfold vp_in; decide +kernel
theorem lw_v2 : vp_in (0 + 2) 4 := by unfold vp_in; decide +kernel
theorem lw_v3 : vp_in (0 + 3) 4 := by unfold vp_in; decide +kernel
end
section
set_option maxHeartbeats 4000000 in
set_option maxRecDepth 20000 in
/-- declare -/
theorem lw_c0 {p : Program} {e : Env} {s : State} {m : MethodId} {below : List Frame} {meth : Method} {c : Code} (l : Launch) {b : Nat} {xs : Nat → Int32} {D : va_G} {cA : Bool → ClassId} {pC pM : Nat → Nat} {xC xM : ai_H} {H : Heap} {locs : List Loc} {ls : Array Slot} (C0 : lw_At p s m meth c b 4 xs) (St : lw_St s b D cA pC pM xC xM H locs ls) :
    W p l e room_1 s m #[Value.ref b] below meth c H locs 72 102720 (lw_Z below #[Value.ref b] s) (F0 m 120 ls []) := by
  obtain ⟨hx, hb, hr, hml, hown, hts, hX, hbl, hlocks, hgv⟩ := id C0
  obtain ⟨hPC, hPM, hdC, hdM, hAC, hAM, hgC, hgM, hS, hl, hK, hN⟩ := St
  have hbA : ¬ (fun q : Nat => s.heap.size ≤ q) b := Nat.not_le.mpr hbl
  obtain ⟨r, h2, h3, c1, c2⟩ := sa_0 hgC hgM (xs (0 + 1 : Int32).toNatClampNeg) (xs (0 + 2 : Int32).toNatClampNeg) (xs (0 + 3 : Int32).toNatClampNeg)
  refine lv_aload_n hx hb d_law_120 rfl (lv_at hl 2 rfl) ?_
  refine lv_aload_n hx hb d_law_121 rfl (lv_at hl 3 rfl) ?_
  refine lv_iload_n hx hb d_law_122 rfl (lv_at hl 0 rfl) ?_
  refine lv_iconst (v := 1) hx hb d_law_123 (by decide +kernel) ?_
  refine lv_iadd hx hb d_law_124 ?_
  refine va_sld hx hb hX hbl hbA hS lw_v1 d_law_125 ?_
  refine lv_aload_n hx hb d_law_126 rfl (lv_at hl 3 rfl) ?_
  refine lv_iload_n hx hb d_law_127 rfl (lv_at hl 0 rfl) ?_
  refine lv_iconst (v := 2) hx hb d_law_128 (by decide +kernel) ?_
  refine lv_iadd hx hb d_law_129 ?_
  refine va_sld hx hb hX hbl hbA hS lw_v2 d_law_130 ?_
  refine lv_aload_n hx hb d_law_131 rfl (lv_at hl 3 rfl) ?_
  refine lv_iload_n hx hb d_law_132 rfl (lv_at hl 0 rfl) ?_
  refine lv_iconst (v := 3) hx hb d_law_133 (by decide +kernel) ?_
  refine lv_iadd hx hb d_law_134 ?_
  refine va_sld hx hb hX hbl hbA hS lw_v3 d_law_135 ?_
  refine lw_call (y := yX7_declare) (yb := cX7_declare) (yn := 5) (yt := some .int) (ci := 7) (na := 3) (d := 7) (k := 29) (ix := 13) (As := [.int (xs (0 + 1 : Int32).toNatClampNeg), .int (xs (0 + 2 : Int32).toNatClampNeg), .int (xs (0 + 3 : Int32).toNatClampNeg)]) (rest := []) (sh := shC) (ad := pC) hx hb hml hown hts lw_in hN hK hAC mokC_78 rfl (ai_sound l hdC ckC mokC 7 78 _ rfl _ _ _ _ c1) (List.mem_of_getElem? (i := 314) (by decide +kernel)) rfl (Nat.le_of_ble_eq_true rfl) (Nat.le_of_ble_eq_true rfl) (Nat.le_of_ble_eq_true rfl) (Nat.le_of_ble_eq_true rfl) hl.1 (Nat.le_of_ble_eq_true rfl) hPC hS d_law_136 (fun H1 locs hk hS => ?_)
  have hPM1 := hPM H1 hk
  refine lv_aload_n hx hb d_law_139 rfl (lv_at hl 1 rfl) ?_
  refine lv_aload_n hx hb d_law_140 rfl (lv_at hl 3 rfl) ?_
  refine lv_iload_n hx hb d_law_141 rfl (lv_at hl 0 rfl) ?_
  refine lv_iconst (v := 1) hx hb d_law_142 (by decide +kernel) ?_
  refine lv_iadd hx hb d_law_143 ?_
  refine va_sld hx hb hX hbl hbA hS lw_v1 d_law_144 ?_
  refine lv_aload_n hx hb d_law_145 rfl (lv_at hl 3 rfl) ?_
  refine lv_iload_n hx hb d_law_146 rfl (lv_at hl 0 rfl) ?_
  refine lv_iconst (v := 2) hx hb d_law_147 (by decide +kernel) ?_
  refine lv_iadd hx hb d_law_148 ?_
  refine va_sld hx hb hX hbl hbA hS lw_v2 d_law_149 ?_
  refine lv_aload_n hx hb d_law_150 rfl (lv_at hl 3 rfl) ?_
  refine lv_iload_n hx hb d_law_151 rfl (lv_at hl 0 rfl) ?_
  refine lv_iconst (v := 3) hx hb d_law_152 (by decide +kernel) ?_
  refine lv_iadd hx hb d_law_153 ?_
  refine va_sld hx hb hX hbl hbA hS lw_v3 d_law_154 ?_
  refine lw_call (y := yX8_declare) (yb := cX8_declare) (yn := 6) (yt := some .int) (ci := 8) (na := 3) (d := 7) (k := 0) (ix := 17) (As := [.int (xs (0 + 1 : Int32).toNatClampNeg), .int (xs (0 + 2 : Int32).toNatClampNeg), .int (xs (0 + 3 : Int32).toNatClampNeg)]) (rest := [.int r]) (sh := shM) (ad := pM) hx hb hml hown hts lw_in hN hK hAM mokM_32 rfl (ai_sound l hdM ckM mokM 7 32 _ rfl _ _ _ _ c2) (List.mem_of_getElem? (i := 958) (by decide +kernel)) rfl (Nat.le_of_ble_eq_true rfl) (Nat.le_of_ble_eq_true rfl) (Nat.le_of_ble_eq_true rfl) (Nat.le_of_ble_eq_true rfl) hl.1 (Nat.le_of_ble_eq_true rfl) hPM1 hS d_law_155 (fun H1 locs hk hS => ?_)
  refine lv_icmp_eq (tgt := 684) hx hb d_law_158 (by decide) (fun _ => ?_) (fun h => absurd rfl h)
  exact lw_next rfl C0 hS hl
set_option maxHeartbeats 4000000 in
set_option maxRecDepth 20000 in
/-- variable -/
theorem lw_c1 {p : Program} {e : Env} {s : State} {m : MethodId} {below : List Frame} {meth : Method} {c : Code} (l : Launch) {b : Nat} {xs : Nat → Int32} {D : va_G} {cA : Bool → ClassId} {pC pM : Nat → Nat} {xC xM : ai_H} {H : Heap} {locs : List Loc} {ls : Array Slot} (C0 : lw_At p s m meth c b 4 xs) (St : lw_St s b D cA pC pM xC xM H locs ls) :
    W p l e room_1 s m #[Value.ref b] below meth c H locs 72 102720 (lw_Z below #[Value.ref b] s) (F0 m 163 ls []) := by
  obtain ⟨hx, hb, hr, hml, hown, hts, hX, hbl, hlocks, hgv⟩ := id C0
  obtain ⟨hPC, hPM, hdC, hdM, hAC, hAM, hgC, hgM, hS, hl, hK, hN⟩ := St
  have hbA : ¬ (fun q : Nat => s.heap.size ≤ q) b := Nat.not_le.mpr hbl
  obtain ⟨r, h2, h3, c1, c2⟩ := sa_1 hgC hgM (xs (0 + 1 : Int32).toNatClampNeg) (xs (0 + 2 : Int32).toNatClampNeg)
  refine lv_aload_n hx hb d_law_163 rfl (lv_at hl 2 rfl) ?_
  refine lv_aload_n hx hb d_law_164 rfl (lv_at hl 3 rfl) ?_
  refine lv_iload_n hx hb d_law_165 rfl (lv_at hl 0 rfl) ?_
  refine lv_iconst (v := 1) hx hb d_law_166 (by decide +kernel) ?_
  refine lv_iadd hx hb d_law_167 ?_
  refine va_sld hx hb hX hbl hbA hS lw_v1 d_law_168 ?_
  refine lv_aload_n hx hb d_law_169 rfl (lv_at hl 3 rfl) ?_
  refine lv_iload_n hx hb d_law_170 rfl (lv_at hl 0 rfl) ?_
  refine lv_iconst (v := 2) hx hb d_law_171 (by decide +kernel) ?_
  refine lv_iadd hx hb d_law_172 ?_
  refine va_sld hx hb hX hbl hbA hS lw_v2 d_law_173 ?_
  refine lw_call (y := yX7_variable) (yb := cX7_variable) (yn := 4) (yt := some .int) (ci := 7) (na := 2) (d := 7) (k := 29) (ix := 18) (As := [.int (xs (0 + 1 : Int32).toNatClampNeg), .int (xs (0 + 2 : Int32).toNatClampNeg)]) (rest := []) (sh := shC) (ad := pC) hx hb hml hown hts lw_in hN hK hAC mokC_79 rfl (ai_sound l hdC ckC mokC 7 79 _ rfl _ _ _ _ c1) (List.mem_of_getElem? (i := 343) (by decide +kernel)) rfl (Nat.le_of_ble_eq_true rfl) (Nat.le_of_ble_eq_true rfl) (Nat.le_of_ble_eq_true rfl) (Nat.le_of_ble_eq_true rfl) hl.1 (Nat.le_of_ble_eq_true rfl) hPC hS d_law_174 (fun H1 locs hk hS => ?_)
  have hPM1 := hPM H1 hk
  refine lv_aload_n hx hb d_law_177 rfl (lv_at hl 1 rfl) ?_
  refine lv_aload_n hx hb d_law_178 rfl (lv_at hl 3 rfl) ?_
  refine lv_iload_n hx hb d_law_179 rfl (lv_at hl 0 rfl) ?_
  refine lv_iconst (v := 1) hx hb d_law_180 (by decide +kernel) ?_
  refine lv_iadd hx hb d_law_181 ?_
  refine va_sld hx hb hX hbl hbA hS lw_v1 d_law_182 ?_
  refine lv_aload_n hx hb d_law_183 rfl (lv_at hl 3 rfl) ?_
  refine lv_iload_n hx hb d_law_184 rfl (lv_at hl 0 rfl) ?_
  refine lv_iconst (v := 2) hx hb d_law_185 (by decide +kernel) ?_
  refine lv_iadd hx hb d_law_186 ?_
  refine va_sld hx hb hX hbl hbA hS lw_v2 d_law_187 ?_
  refine lw_call (y := yX8_variable) (yb := cX8_variable) (yn := 4) (yt := some .int) (ci := 8) (na := 2) (d := 7) (k := 0) (ix := 22) (As := [.int (xs (0 + 1 : Int32).toNatClampNeg), .int (xs (0 + 2 : Int32).toNatClampNeg)]) (rest := [.int r]) (sh := shM) (ad := pM) hx hb hml hown hts lw_in hN hK hAM mokM_33 rfl (ai_sound l hdM ckM mokM 7 33 _ rfl _ _ _ _ c2) (List.mem_of_getElem? (i := 973) (by decide +kernel)) rfl (Nat.le_of_ble_eq_true rfl) (Nat.le_of_ble_eq_true rfl) (Nat.le_of_ble_eq_true rfl) (Nat.le_of_ble_eq_true rfl) hl.1 (Nat.le_of_ble_eq_true rfl) hPM1 hS d_law_188 (fun H1 locs hk hS => ?_)
  refine lv_icmp_eq (tgt := 684) hx hb d_law_191 (by decide) (fun _ => ?_) (fun h => absurd rfl h)
  exact lw_next rfl C0 hS hl
set_option maxHeartbeats 4000000 in
set_option maxRecDepth 20000 in
/-- bound -/
theorem lw_c2 {p : Program} {e : Env} {s : State} {m : MethodId} {below : List Frame} {meth : Method} {c : Code} (l : Launch) {b : Nat} {xs : Nat → Int32} {D : va_G} {cA : Bool → ClassId} {pC pM : Nat → Nat} {xC xM : ai_H} {H : Heap} {locs : List Loc} {ls : Array Slot} (C0 : lw_At p s m meth c b 4 xs) (St : lw_St s b D cA pC pM xC xM H locs ls) :
    W p l e room_1 s m #[Value.ref b] below meth c H locs 72 102720 (lw_Z below #[Value.ref b] s) (F0 m 196 ls []) := by
  obtain ⟨hx, hb, hr, hml, hown, hts, hX, hbl, hlocks, hgv⟩ := id C0
  obtain ⟨hPC, hPM, hdC, hdM, hAC, hAM, hgC, hgM, hS, hl, hK, hN⟩ := St
  have hbA : ¬ (fun q : Nat => s.heap.size ≤ q) b := Nat.not_le.mpr hbl
  obtain ⟨r, h2, h3, c1, c2⟩ := sa_2 hgC hgM (xs (0 + 1 : Int32).toNatClampNeg) (xs (0 + 2 : Int32).toNatClampNeg) (xs (0 + 3 : Int32).toNatClampNeg)
  refine lv_aload_n hx hb d_law_196 rfl (lv_at hl 2 rfl) ?_
  refine lv_aload_n hx hb d_law_197 rfl (lv_at hl 3 rfl) ?_
  refine lv_iload_n hx hb d_law_198 rfl (lv_at hl 0 rfl) ?_
  refine lv_iconst (v := 1) hx hb d_law_199 (by decide +kernel) ?_
  refine lv_iadd hx hb d_law_200 ?_
  refine va_sld hx hb hX hbl hbA hS lw_v1 d_law_201 ?_
  refine lv_aload_n hx hb d_law_202 rfl (lv_at hl 3 rfl) ?_
  refine lv_iload_n hx hb d_law_203 rfl (lv_at hl 0 rfl) ?_
  refine lv_iconst (v := 2) hx hb d_law_204 (by decide +kernel) ?_
  refine lv_iadd hx hb d_law_205 ?_
  refine va_sld hx hb hX hbl hbA hS lw_v2 d_law_206 ?_
  refine lv_aload_n hx hb d_law_207 rfl (lv_at hl 3 rfl) ?_
  refine lv_iload_n hx hb d_law_208 rfl (lv_at hl 0 rfl) ?_
  refine lv_iconst (v := 3) hx hb d_law_209 (by decide +kernel) ?_
  refine lv_iadd hx hb d_law_210 ?_
  refine va_sld hx hb hX hbl hbA hS lw_v3 d_law_211 ?_
  refine lw_call (y := yX7_bound) (yb := cX7_bound) (yn := 5) (yt := some .int) (ci := 7) (na := 3) (d := 7) (k := 29) (ix := 23) (As := [.int (xs (0 + 1 : Int32).toNatClampNeg), .int (xs (0 + 2 : Int32).toNatClampNeg), .int (xs (0 + 3 : Int32).toNatClampNeg)]) (rest := []) (sh := shC) (ad := pC) hx hb hml hown hts lw_in hN hK hAC mokC_80 rfl (ai_sound l hdC ckC mokC 7 80 _ rfl _ _ _ _ c1) (List.mem_of_getElem? (i := 355) (by decide +kernel)) rfl (Nat.le_of_ble_eq_true rfl) (Nat.le_of_ble_eq_true rfl) (Nat.le_of_ble_eq_true rfl) (Nat.le_of_ble_eq_true rfl) hl.1 (Nat.le_of_ble_eq_true rfl) hPC hS d_law_212 (fun H1 locs hk hS => ?_)
  have hPM1 := hPM H1 hk
  refine lv_aload_n hx hb d_law_215 rfl (lv_at hl 1 rfl) ?_
  refine lv_aload_n hx hb d_law_216 rfl (lv_at hl 3 rfl) ?_
  refine lv_iload_n hx hb d_law_217 rfl (lv_at hl 0 rfl) ?_
  refine lv_iconst (v := 1) hx hb d_law_218 (by decide +kernel) ?_
  refine lv_iadd hx hb d_law_219 ?_
  refine va_sld hx hb hX hbl hbA hS lw_v1 d_law_220 ?_
  refine lv_aload_n hx hb d_law_221 rfl (lv_at hl 3 rfl) ?_
  refine lv_iload_n hx hb d_law_222 rfl (lv_at hl 0 rfl) ?_
  refine lv_iconst (v := 2) hx hb d_law_223 (by decide +kernel) ?_
  refine lv_iadd hx hb d_law_224 ?_
  refine va_sld hx hb hX hbl hbA hS lw_v2 d_law_225 ?_
  refine lv_aload_n hx hb d_law_226 rfl (lv_at hl 3 rfl) ?_
  refine lv_iload_n hx hb d_law_227 rfl (lv_at hl 0 rfl) ?_
  refine lv_iconst (v := 3) hx hb d_law_228 (by decide +kernel) ?_
  refine lv_iadd hx hb d_law_229 ?_
  refine va_sld hx hb hX hbl hbA hS lw_v3 d_law_230 ?_
  refine lw_call (y := yX8_bound) (yb := cX8_bound) (yn := 6) (yt := some .int) (ci := 8) (na := 3) (d := 7) (k := 0) (ix := 26) (As := [.int (xs (0 + 1 : Int32).toNatClampNeg), .int (xs (0 + 2 : Int32).toNatClampNeg), .int (xs (0 + 3 : Int32).toNatClampNeg)]) (rest := [.int r]) (sh := shM) (ad := pM) hx hb hml hown hts lw_in hN hK hAM mokM_35 rfl (ai_sound l hdM ckM mokM 7 35 _ rfl _ _ _ _ c2) (List.mem_of_getElem? (i := 985) (by decide +kernel)) rfl (Nat.le_of_ble_eq_true rfl) (Nat.le_of_ble_eq_true rfl) (Nat.le_of_ble_eq_true rfl) (Nat.le_of_ble_eq_true rfl) hl.1 (Nat.le_of_ble_eq_true rfl) hPM1 hS d_law_231 (fun H1 locs hk hS => ?_)
  refine lv_icmp_eq (tgt := 684) hx hb d_law_234 (by decide) (fun _ => ?_) (fun h => absurd rfl h)
  exact lw_next rfl C0 hS hl
set_option maxHeartbeats 4000000 in
set_option maxRecDepth 20000 in
/-- parent -/
theorem lw_c3 {p : Program} {e : Env} {s : State} {m : MethodId} {below : List Frame} {meth : Method} {c : Code} (l : Launch) {b : Nat} {xs : Nat → Int32} {D : va_G} {cA : Bool → ClassId} {pC pM : Nat → Nat} {xC xM : ai_H} {H : Heap} {locs : List Loc} {ls : Array Slot} (C0 : lw_At p s m meth c b 4 xs) (St : lw_St s b D cA pC pM xC xM H locs ls) :
    W p l e room_1 s m #[Value.ref b] below meth c H locs 72 102720 (lw_Z below #[Value.ref b] s) (F0 m 239 ls []) := by
  obtain ⟨hx, hb, hr, hml, hown, hts, hX, hbl, hlocks, hgv⟩ := id C0
  obtain ⟨hPC, hPM, hdC, hdM, hAC, hAM, hgC, hgM, hS, hl, hK, hN⟩ := St
  have hbA : ¬ (fun q : Nat => s.heap.size ≤ q) b := Nat.not_le.mpr hbl
  obtain ⟨r, h2, h3, c1, c2⟩ := sa_3 hgC hgM (xs (0 + 1 : Int32).toNatClampNeg) (xs (0 + 2 : Int32).toNatClampNeg)
  refine lv_aload_n hx hb d_law_239 rfl (lv_at hl 2 rfl) ?_
  refine lv_aload_n hx hb d_law_240 rfl (lv_at hl 3 rfl) ?_
  refine lv_iload_n hx hb d_law_241 rfl (lv_at hl 0 rfl) ?_
  refine lv_iconst (v := 1) hx hb d_law_242 (by decide +kernel) ?_
  refine lv_iadd hx hb d_law_243 ?_
  refine va_sld hx hb hX hbl hbA hS lw_v1 d_law_244 ?_
  refine lv_aload_n hx hb d_law_245 rfl (lv_at hl 3 rfl) ?_
  refine lv_iload_n hx hb d_law_246 rfl (lv_at hl 0 rfl) ?_
  refine lv_iconst (v := 2) hx hb d_law_247 (by decide +kernel) ?_
  refine lv_iadd hx hb d_law_248 ?_
  refine va_sld hx hb hX hbl hbA hS lw_v2 d_law_249 ?_
  refine lw_call (y := yX7_parent) (yb := cX7_parent) (yn := 4) (yt := some .int) (ci := 7) (na := 2) (d := 7) (k := 29) (ix := 27) (As := [.int (xs (0 + 1 : Int32).toNatClampNeg), .int (xs (0 + 2 : Int32).toNatClampNeg)]) (rest := []) (sh := shC) (ad := pC) hx hb hml hown hts lw_in hN hK hAC mokC_81 rfl (ai_sound l hdC ckC mokC 7 81 _ rfl _ _ _ _ c1) (List.mem_of_getElem? (i := 427) (by decide +kernel)) rfl (Nat.le_of_ble_eq_true rfl) (Nat.le_of_ble_eq_true rfl) (Nat.le_of_ble_eq_true rfl) (Nat.le_of_ble_eq_true rfl) hl.1 (Nat.le_of_ble_eq_true rfl) hPC hS d_law_250 (fun H1 locs hk hS => ?_)
  have hPM1 := hPM H1 hk
  refine lv_aload_n hx hb d_law_253 rfl (lv_at hl 1 rfl) ?_
  refine lv_aload_n hx hb d_law_254 rfl (lv_at hl 3 rfl) ?_
  refine lv_iload_n hx hb d_law_255 rfl (lv_at hl 0 rfl) ?_
  refine lv_iconst (v := 1) hx hb d_law_256 (by decide +kernel) ?_
  refine lv_iadd hx hb d_law_257 ?_
  refine va_sld hx hb hX hbl hbA hS lw_v1 d_law_258 ?_
  refine lv_aload_n hx hb d_law_259 rfl (lv_at hl 3 rfl) ?_
  refine lv_iload_n hx hb d_law_260 rfl (lv_at hl 0 rfl) ?_
  refine lv_iconst (v := 2) hx hb d_law_261 (by decide +kernel) ?_
  refine lv_iadd hx hb d_law_262 ?_
  refine va_sld hx hb hX hbl hbA hS lw_v2 d_law_263 ?_
  refine lw_call (y := yX8_parent) (yb := cX8_parent) (yn := 3) (yt := some .int) (ci := 8) (na := 2) (d := 7) (k := 0) (ix := 30) (As := [.int (xs (0 + 1 : Int32).toNatClampNeg), .int (xs (0 + 2 : Int32).toNatClampNeg)]) (rest := [.int r]) (sh := shM) (ad := pM) hx hb hml hown hts lw_in hN hK hAM mokM_37 rfl (ai_sound l hdM ckM mokM 7 37 _ rfl _ _ _ _ c2) (List.mem_of_getElem? (i := 1013) (by decide +kernel)) rfl (Nat.le_of_ble_eq_true rfl) (Nat.le_of_ble_eq_true rfl) (Nat.le_of_ble_eq_true rfl) (Nat.le_of_ble_eq_true rfl) hl.1 (Nat.le_of_ble_eq_true rfl) hPM1 hS d_law_264 (fun H1 locs hk hS => ?_)
  refine lv_icmp_eq (tgt := 684) hx hb d_law_267 (by decide) (fun _ => ?_) (fun h => absurd rfl h)
  exact lw_next rfl C0 hS hl
set_option maxHeartbeats 4000000 in
set_option maxRecDepth 20000 in
/-- argument -/
theorem lw_c4 {p : Program} {e : Env} {s : State} {m : MethodId} {below : List Frame} {meth : Method} {c : Code} (l : Launch) {b : Nat} {xs : Nat → Int32} {D : va_G} {cA : Bool → ClassId} {pC pM : Nat → Nat} {xC xM : ai_H} {H : Heap} {locs : List Loc} {ls : Array Slot} (C0 : lw_At p s m meth c b 4 xs) (St : lw_St s b D cA pC pM xC xM H locs ls) :
    W p l e room_1 s m #[Value.ref b] below meth c H locs 72 102720 (lw_Z below #[Value.ref b] s) (F0 m 272 ls []) := by
  obtain ⟨hx, hb, hr, hml, hown, hts, hX, hbl, hlocks, hgv⟩ := id C0
  obtain ⟨hPC, hPM, hdC, hdM, hAC, hAM, hgC, hgM, hS, hl, hK, hN⟩ := St
  have hbA : ¬ (fun q : Nat => s.heap.size ≤ q) b := Nat.not_le.mpr hbl
  obtain ⟨r, h2, h3, c1, c2⟩ := sa_4 hgC hgM (xs (0 + 1 : Int32).toNatClampNeg) (xs (0 + 2 : Int32).toNatClampNeg)
  refine lv_aload_n hx hb d_law_272 rfl (lv_at hl 2 rfl) ?_
  refine lv_aload_n hx hb d_law_273 rfl (lv_at hl 3 rfl) ?_
  refine lv_iload_n hx hb d_law_274 rfl (lv_at hl 0 rfl) ?_
  refine lv_iconst (v := 1) hx hb d_law_275 (by decide +kernel) ?_
  refine lv_iadd hx hb d_law_276 ?_
  refine va_sld hx hb hX hbl hbA hS lw_v1 d_law_277 ?_
  refine lv_aload_n hx hb d_law_278 rfl (lv_at hl 3 rfl) ?_
  refine lv_iload_n hx hb d_law_279 rfl (lv_at hl 0 rfl) ?_
  refine lv_iconst (v := 2) hx hb d_law_280 (by decide +kernel) ?_
  refine lv_iadd hx hb d_law_281 ?_
  refine va_sld hx hb hX hbl hbA hS lw_v2 d_law_282 ?_
  refine lw_call (y := yX7_argument) (yb := cX7_argument) (yn := 3) (yt := some .int) (ci := 7) (na := 2) (d := 7) (k := 29) (ix := 31) (As := [.int (xs (0 + 1 : Int32).toNatClampNeg), .int (xs (0 + 2 : Int32).toNatClampNeg)]) (rest := []) (sh := shC) (ad := pC) hx hb hml hown hts lw_in hN hK hAC mokC_82 rfl (ai_sound l hdC ckC mokC 7 82 _ rfl _ _ _ _ c1) (List.mem_of_getElem? (i := 449) (by decide +kernel)) rfl (Nat.le_of_ble_eq_true rfl) (Nat.le_of_ble_eq_true rfl) (Nat.le_of_ble_eq_true rfl) (Nat.le_of_ble_eq_true rfl) hl.1 (Nat.le_of_ble_eq_true rfl) hPC hS d_law_283 (fun H1 locs hk hS => ?_)
  have hPM1 := hPM H1 hk
  refine lv_aload_n hx hb d_law_286 rfl (lv_at hl 1 rfl) ?_
  refine lv_aload_n hx hb d_law_287 rfl (lv_at hl 3 rfl) ?_
  refine lv_iload_n hx hb d_law_288 rfl (lv_at hl 0 rfl) ?_
  refine lv_iconst (v := 1) hx hb d_law_289 (by decide +kernel) ?_
  refine lv_iadd hx hb d_law_290 ?_
  refine va_sld hx hb hX hbl hbA hS lw_v1 d_law_291 ?_
  refine lv_aload_n hx hb d_law_292 rfl (lv_at hl 3 rfl) ?_
  refine lv_iload_n hx hb d_law_293 rfl (lv_at hl 0 rfl) ?_
  refine lv_iconst (v := 2) hx hb d_law_294 (by decide +kernel) ?_
  refine lv_iadd hx hb d_law_295 ?_
  refine va_sld hx hb hX hbl hbA hS lw_v2 d_law_296 ?_
  refine lw_call (y := yX8_argument) (yb := cX8_argument) (yn := 3) (yt := some .int) (ci := 8) (na := 2) (d := 7) (k := 0) (ix := 34) (As := [.int (xs (0 + 1 : Int32).toNatClampNeg), .int (xs (0 + 2 : Int32).toNatClampNeg)]) (rest := [.int r]) (sh := shM) (ad := pM) hx hb hml hown hts lw_in hN hK hAM mokM_38 rfl (ai_sound l hdM ckM mokM 7 38 _ rfl _ _ _ _ c2) (List.mem_of_getElem? (i := 1017) (by decide +kernel)) rfl (Nat.le_of_ble_eq_true rfl) (Nat.le_of_ble_eq_true rfl) (Nat.le_of_ble_eq_true rfl) (Nat.le_of_ble_eq_true rfl) hl.1 (Nat.le_of_ble_eq_true rfl) hPM1 hS d_law_297 (fun H1 locs hk hS => ?_)
  refine lv_icmp_eq (tgt := 684) hx hb d_law_300 (by decide) (fun _ => ?_) (fun h => absurd rfl h)
  exact lw_next rfl C0 hS hl
set_option maxHeartbeats 4000000 in
set_option maxRecDepth 20000 in
/-- make -/
theorem lw_c5 {p : Program} {e : Env} {s : State} {m : MethodId} {below : List Frame} {meth : Method} {c : Code} (l : Launch) {b : Nat} {xs : Nat → Int32} {D : va_G} {cA : Bool → ClassId} {pC pM : Nat → Nat} {xC xM : ai_H} {H : Heap} {locs : List Loc} {ls : Array Slot} (C0 : lw_At p s m meth c b 4 xs) (St : lw_St s b D cA pC pM xC xM H locs ls) :
    W p l e room_1 s m #[Value.ref b] below meth c H locs 72 102720 (lw_Z below #[Value.ref b] s) (F0 m 305 ls []) := by
  obtain ⟨hx, hb, hr, hml, hown, hts, hX, hbl, hlocks, hgv⟩ := id C0
  obtain ⟨hPC, hPM, hdC, hdM, hAC, hAM, hgC, hgM, hS, hl, hK, hN⟩ := St
  have hbA : ¬ (fun q : Nat => s.heap.size ≤ q) b := Nat.not_le.mpr hbl
  obtain ⟨r, h2, h3, c1, c2⟩ := sa_5 hgC hgM (xs (0 + 1 : Int32).toNatClampNeg) (xs (0 + 2 : Int32).toNatClampNeg)
  refine lv_aload_n hx hb d_law_305 rfl (lv_at hl 2 rfl) ?_
  refine lv_aload_n hx hb d_law_306 rfl (lv_at hl 3 rfl) ?_
  refine lv_iload_n hx hb d_law_307 rfl (lv_at hl 0 rfl) ?_
  refine lv_iconst (v := 1) hx hb d_law_308 (by decide +kernel) ?_
  refine lv_iadd hx hb d_law_309 ?_
  refine va_sld hx hb hX hbl hbA hS lw_v1 d_law_310 ?_
  refine lv_aload_n hx hb d_law_311 rfl (lv_at hl 3 rfl) ?_
  refine lv_iload_n hx hb d_law_312 rfl (lv_at hl 0 rfl) ?_
  refine lv_iconst (v := 2) hx hb d_law_313 (by decide +kernel) ?_
  refine lv_iadd hx hb d_law_314 ?_
  refine va_sld hx hb hX hbl hbA hS lw_v2 d_law_315 ?_
  refine lw_call (y := yX7_make) (yb := cX7_make) (yn := 7) (yt := some .int) (ci := 7) (na := 2) (d := 7) (k := 29) (ix := 35) (As := [.int (xs (0 + 1 : Int32).toNatClampNeg), .int (xs (0 + 2 : Int32).toNatClampNeg)]) (rest := []) (sh := shC) (ad := pC) hx hb hml hown hts lw_in hN hK hAC mokC_83 rfl (ai_sound l hdC ckC mokC 7 83 _ rfl _ _ _ _ c1) (List.mem_of_getElem? (i := 461) (by decide +kernel)) rfl (Nat.le_of_ble_eq_true rfl) (Nat.le_of_ble_eq_true rfl) (Nat.le_of_ble_eq_true rfl) (Nat.le_of_ble_eq_true rfl) hl.1 (Nat.le_of_ble_eq_true rfl) hPC hS d_law_316 (fun H1 locs hk hS => ?_)
  have hPM1 := hPM H1 hk
  refine lv_aload_n hx hb d_law_319 rfl (lv_at hl 1 rfl) ?_
  refine lv_aload_n hx hb d_law_320 rfl (lv_at hl 3 rfl) ?_
  refine lv_iload_n hx hb d_law_321 rfl (lv_at hl 0 rfl) ?_
  refine lv_iconst (v := 1) hx hb d_law_322 (by decide +kernel) ?_
  refine lv_iadd hx hb d_law_323 ?_
  refine va_sld hx hb hX hbl hbA hS lw_v1 d_law_324 ?_
  refine lv_aload_n hx hb d_law_325 rfl (lv_at hl 3 rfl) ?_
  refine lv_iload_n hx hb d_law_326 rfl (lv_at hl 0 rfl) ?_
  refine lv_iconst (v := 2) hx hb d_law_327 (by decide +kernel) ?_
  refine lv_iadd hx hb d_law_328 ?_
  refine va_sld hx hb hX hbl hbA hS lw_v2 d_law_329 ?_
  refine lw_call (y := yX8_make) (yb := cX8_make) (yn := 5) (yt := some .int) (ci := 8) (na := 2) (d := 7) (k := 0) (ix := 38) (As := [.int (xs (0 + 1 : Int32).toNatClampNeg), .int (xs (0 + 2 : Int32).toNatClampNeg)]) (rest := [.int r]) (sh := shM) (ad := pM) hx hb hml hown hts lw_in hN hK hAM mokM_40 rfl (ai_sound l hdM ckM mokM 7 40 _ rfl _ _ _ _ c2) (List.mem_of_getElem? (i := 1025) (by decide +kernel)) rfl (Nat.le_of_ble_eq_true rfl) (Nat.le_of_ble_eq_true rfl) (Nat.le_of_ble_eq_true rfl) (Nat.le_of_ble_eq_true rfl) hl.1 (Nat.le_of_ble_eq_true rfl) hPM1 hS d_law_330 (fun H1 locs hk hS => ?_)
  refine lv_icmp_eq (tgt := 684) hx hb d_law_333 (by decide) (fun _ => ?_) (fun h => absurd rfl h)
  exact lw_next rfl C0 hS hl
set_option maxHeartbeats 4000000 in
set_option maxRecDepth 20000 in
/-- array -/
theorem lw_c6 {p : Program} {e : Env} {s : State} {m : MethodId} {below : List Frame} {meth : Method} {c : Code} (l : Launch) {b : Nat} {xs : Nat → Int32} {D : va_G} {cA : Bool → ClassId} {pC pM : Nat → Nat} {xC xM : ai_H} {H : Heap} {locs : List Loc} {ls : Array Slot} (C0 : lw_At p s m meth c b 4 xs) (St : lw_St s b D cA pC pM xC xM H locs ls) :
    W p l e room_1 s m #[Value.ref b] below meth c H locs 72 102720 (lw_Z below #[Value.ref b] s) (F0 m 338 ls []) := by
  obtain ⟨hx, hb, hr, hml, hown, hts, hX, hbl, hlocks, hgv⟩ := id C0
  obtain ⟨hPC, hPM, hdC, hdM, hAC, hAM, hgC, hgM, hS, hl, hK, hN⟩ := St
  have hbA : ¬ (fun q : Nat => s.heap.size ≤ q) b := Nat.not_le.mpr hbl
  obtain ⟨r, h2, h3, c1, c2⟩ := sa_6 hgC hgM (xs (0 + 1 : Int32).toNatClampNeg)
  refine lv_aload_n hx hb d_law_338 rfl (lv_at hl 2 rfl) ?_
  refine lv_aload_n hx hb d_law_339 rfl (lv_at hl 3 rfl) ?_
  refine lv_iload_n hx hb d_law_340 rfl (lv_at hl 0 rfl) ?_
  refine lv_iconst (v := 1) hx hb d_law_341 (by decide +kernel) ?_
  refine lv_iadd hx hb d_law_342 ?_
  refine va_sld hx hb hX hbl hbA hS lw_v1 d_law_343 ?_
  refine lw_call (y := yX7_array) (yb := cX7_array) (yn := 2) (yt := some .int) (ci := 7) (na := 1) (d := 7) (k := 29) (ix := 39) (As := [.int (xs (0 + 1 : Int32).toNatClampNeg)]) (rest := []) (sh := shC) (ad := pC) hx hb hml hown hts lw_in hN hK hAC mokC_84 rfl (ai_sound l hdC ckC mokC 7 84 _ rfl _ _ _ _ c1) (List.mem_of_getElem? (i := 615) (by decide +kernel)) rfl (Nat.le_of_ble_eq_true rfl) (Nat.le_of_ble_eq_true rfl) (Nat.le_of_ble_eq_true rfl) (Nat.le_of_ble_eq_true rfl) hl.1 (Nat.le_of_ble_eq_true rfl) hPC hS d_law_344 (fun H1 locs hk hS => ?_)
  have hPM1 := hPM H1 hk
  refine lv_aload_n hx hb d_law_347 rfl (lv_at hl 1 rfl) ?_
  refine lv_aload_n hx hb d_law_348 rfl (lv_at hl 3 rfl) ?_
  refine lv_iload_n hx hb d_law_349 rfl (lv_at hl 0 rfl) ?_
  refine lv_iconst (v := 1) hx hb d_law_350 (by decide +kernel) ?_
  refine lv_iadd hx hb d_law_351 ?_
  refine va_sld hx hb hX hbl hbA hS lw_v1 d_law_352 ?_
  refine lw_call (y := yX8_array) (yb := cX8_array) (yn := 2) (yt := some .int) (ci := 8) (na := 1) (d := 7) (k := 0) (ix := 43) (As := [.int (xs (0 + 1 : Int32).toNatClampNeg)]) (rest := [.int r]) (sh := shM) (ad := pM) hx hb hml hown hts lw_in hN hK hAM mokM_41 rfl (ai_sound l hdM ckM mokM 7 41 _ rfl _ _ _ _ c2) (List.mem_of_getElem? (i := 1120) (by decide +kernel)) rfl (Nat.le_of_ble_eq_true rfl) (Nat.le_of_ble_eq_true rfl) (Nat.le_of_ble_eq_true rfl) (Nat.le_of_ble_eq_true rfl) hl.1 (Nat.le_of_ble_eq_true rfl) hPM1 hS d_law_353 (fun H1 locs hk hS => ?_)
  refine lv_icmp_eq (tgt := 684) hx hb d_law_356 (by decide) (fun _ => ?_) (fun h => absurd rfl h)
  exact lw_next rfl C0 hS hl
set_option maxHeartbeats 4000000 in
set_option maxRecDepth 20000 in
/-- about -/
theorem lw_c7 {p : Program} {e : Env} {s : State} {m : MethodId} {below : List Frame} {meth : Method} {c : Code} (l : Launch) {b : Nat} {xs : Nat → Int32} {D : va_G} {cA : Bool → ClassId} {pC pM : Nat → Nat} {xC xM : ai_H} {H : Heap} {locs : List Loc} {ls : Array Slot} (C0 : lw_At p s m meth c b 4 xs) (St : lw_St s b D cA pC pM xC xM H locs ls) :
    W p l e room_1 s m #[Value.ref b] below meth c H locs 72 102720 (lw_Z below #[Value.ref b] s) (F0 m 361 ls []) := by
  obtain ⟨hx, hb, hr, hml, hown, hts, hX, hbl, hlocks, hgv⟩ := id C0
  obtain ⟨hPC, hPM, hdC, hdM, hAC, hAM, hgC, hgM, hS, hl, hK, hN⟩ := St
  have hbA : ¬ (fun q : Nat => s.heap.size ≤ q) b := Nat.not_le.mpr hbl
  obtain ⟨r, h2, h3, c1, c2⟩ := sa_7 hgC hgM (xs (0 + 1 : Int32).toNatClampNeg) (xs (0 + 2 : Int32).toNatClampNeg)
  refine lv_aload_n hx hb d_law_361 rfl (lv_at hl 2 rfl) ?_
  refine lv_aload_n hx hb d_law_362 rfl (lv_at hl 3 rfl) ?_
  refine lv_iload_n hx hb d_law_363 rfl (lv_at hl 0 rfl) ?_
  refine lv_iconst (v := 1) hx hb d_law_364 (by decide +kernel) ?_
  refine lv_iadd hx hb d_law_365 ?_
  refine va_sld hx hb hX hbl hbA hS lw_v1 d_law_366 ?_
  refine lv_aload_n hx hb d_law_367 rfl (lv_at hl 3 rfl) ?_
  refine lv_iload_n hx hb d_law_368 rfl (lv_at hl 0 rfl) ?_
  refine lv_iconst (v := 2) hx hb d_law_369 (by decide +kernel) ?_
  refine lv_iadd hx hb d_law_370 ?_
  refine va_sld hx hb hX hbl hbA hS lw_v2 d_law_371 ?_
  refine lw_call (y := yX7_about) (yb := cX7_about) (yn := 3) (yt := some .int) (ci := 7) (na := 2) (d := 7) (k := 29) (ix := 44) (As := [.int (xs (0 + 1 : Int32).toNatClampNeg), .int (xs (0 + 2 : Int32).toNatClampNeg)]) (rest := []) (sh := shC) (ad := pC) hx hb hml hown hts lw_in hN hK hAC mokC_85 rfl (ai_sound l hdC ckC mokC 7 85 _ rfl _ _ _ _ c1) (List.mem_of_getElem? (i := 623) (by decide +kernel)) rfl (Nat.le_of_ble_eq_true rfl) (Nat.le_of_ble_eq_true rfl) (Nat.le_of_ble_eq_true rfl) (Nat.le_of_ble_eq_true rfl) hl.1 (Nat.le_of_ble_eq_true rfl) hPC hS d_law_372 (fun H1 locs hk hS => ?_)
  have hPM1 := hPM H1 hk
  refine lv_aload_n hx hb d_law_375 rfl (lv_at hl 1 rfl) ?_
  refine lv_aload_n hx hb d_law_376 rfl (lv_at hl 3 rfl) ?_
  refine lv_iload_n hx hb d_law_377 rfl (lv_at hl 0 rfl) ?_
  refine lv_iconst (v := 1) hx hb d_law_378 (by decide +kernel) ?_
  refine lv_iadd hx hb d_law_379 ?_
  refine va_sld hx hb hX hbl hbA hS lw_v1 d_law_380 ?_
  refine lv_aload_n hx hb d_law_381 rfl (lv_at hl 3 rfl) ?_
  refine lv_iload_n hx hb d_law_382 rfl (lv_at hl 0 rfl) ?_
  refine lv_iconst (v := 2) hx hb d_law_383 (by decide +kernel) ?_
  refine lv_iadd hx hb d_law_384 ?_
  refine va_sld hx hb hX hbl hbA hS lw_v2 d_law_385 ?_
  refine lw_call (y := yX8_about) (yb := cX8_about) (yn := 5) (yt := some .int) (ci := 8) (na := 2) (d := 7) (k := 0) (ix := 47) (As := [.int (xs (0 + 1 : Int32).toNatClampNeg), .int (xs (0 + 2 : Int32).toNatClampNeg)]) (rest := [.int r]) (sh := shM) (ad := pM) hx hb hml hown hts lw_in hN hK hAM mokM_42 rfl (ai_sound l hdM ckM mokM 7 42 _ rfl _ _ _ _ c2) (List.mem_of_getElem? (i := 1124) (by decide +kernel)) rfl (Nat.le_of_ble_eq_true rfl) (Nat.le_of_ble_eq_true rfl) (Nat.le_of_ble_eq_true rfl) (Nat.le_of_ble_eq_true rfl) hl.1 (Nat.le_of_ble_eq_true rfl) hPM1 hS d_law_386 (fun H1 locs hk hS => ?_)
  refine lv_icmp_eq (tgt := 684) hx hb d_law_389 (by decide) (fun _ => ?_) (fun h => absurd rfl h)
  exact lw_next rfl C0 hS hl
set_option maxHeartbeats 4000000 in
set_option maxRecDepth 20000 in
/-- below -/
theorem lw_c8 {p : Program} {e : Env} {s : State} {m : MethodId} {below : List Frame} {meth : Method} {c : Code} (l : Launch) {b : Nat} {xs : Nat → Int32} {D : va_G} {cA : Bool → ClassId} {pC pM : Nat → Nat} {xC xM : ai_H} {H : Heap} {locs : List Loc} {ls : Array Slot} (C0 : lw_At p s m meth c b 4 xs) (St : lw_St s b D cA pC pM xC xM H locs ls) :
    W p l e room_1 s m #[Value.ref b] below meth c H locs 72 102720 (lw_Z below #[Value.ref b] s) (F0 m 394 ls []) := by
  obtain ⟨hx, hb, hr, hml, hown, hts, hX, hbl, hlocks, hgv⟩ := id C0
  obtain ⟨hPC, hPM, hdC, hdM, hAC, hAM, hgC, hgM, hS, hl, hK, hN⟩ := St
  have hbA : ¬ (fun q : Nat => s.heap.size ≤ q) b := Nat.not_le.mpr hbl
  obtain ⟨r, h2, h3, c1, c2⟩ := sa_8 hgC hgM (xs (0 + 1 : Int32).toNatClampNeg) (xs (0 + 2 : Int32).toNatClampNeg)
  refine lv_aload_n hx hb d_law_394 rfl (lv_at hl 2 rfl) ?_
  refine lv_aload_n hx hb d_law_395 rfl (lv_at hl 3 rfl) ?_
  refine lv_iload_n hx hb d_law_396 rfl (lv_at hl 0 rfl) ?_
  refine lv_iconst (v := 1) hx hb d_law_397 (by decide +kernel) ?_
  refine lv_iadd hx hb d_law_398 ?_
  refine va_sld hx hb hX hbl hbA hS lw_v1 d_law_399 ?_
  refine lv_aload_n hx hb d_law_400 rfl (lv_at hl 3 rfl) ?_
  refine lv_iload_n hx hb d_law_401 rfl (lv_at hl 0 rfl) ?_
  refine lv_iconst (v := 2) hx hb d_law_402 (by decide +kernel) ?_
  refine lv_iadd hx hb d_law_403 ?_
  refine va_sld hx hb hX hbl hbA hS lw_v2 d_law_404 ?_
  refine lw_call (y := yX7_below) (yb := cX7_below) (yn := 3) (yt := some .int) (ci := 7) (na := 2) (d := 7) (k := 29) (ix := 48) (As := [.int (xs (0 + 1 : Int32).toNatClampNeg), .int (xs (0 + 2 : Int32).toNatClampNeg)]) (rest := []) (sh := shC) (ad := pC) hx hb hml hown hts lw_in hN hK hAC mokC_86 rfl (ai_sound l hdC ckC mokC 7 86 _ rfl _ _ _ _ c1) (List.mem_of_getElem? (i := 636) (by decide +kernel)) rfl (Nat.le_of_ble_eq_true rfl) (Nat.le_of_ble_eq_true rfl) (Nat.le_of_ble_eq_true rfl) (Nat.le_of_ble_eq_true rfl) hl.1 (Nat.le_of_ble_eq_true rfl) hPC hS d_law_405 (fun H1 locs hk hS => ?_)
  have hPM1 := hPM H1 hk
  refine lv_aload_n hx hb d_law_408 rfl (lv_at hl 1 rfl) ?_
  refine lv_aload_n hx hb d_law_409 rfl (lv_at hl 3 rfl) ?_
  refine lv_iload_n hx hb d_law_410 rfl (lv_at hl 0 rfl) ?_
  refine lv_iconst (v := 1) hx hb d_law_411 (by decide +kernel) ?_
  refine lv_iadd hx hb d_law_412 ?_
  refine va_sld hx hb hX hbl hbA hS lw_v1 d_law_413 ?_
  refine lv_aload_n hx hb d_law_414 rfl (lv_at hl 3 rfl) ?_
  refine lv_iload_n hx hb d_law_415 rfl (lv_at hl 0 rfl) ?_
  refine lv_iconst (v := 2) hx hb d_law_416 (by decide +kernel) ?_
  refine lv_iadd hx hb d_law_417 ?_
  refine va_sld hx hb hX hbl hbA hS lw_v2 d_law_418 ?_
  refine lw_call (y := yX8_below) (yb := cX8_below) (yn := 4) (yt := some .int) (ci := 8) (na := 2) (d := 7) (k := 0) (ix := 51) (As := [.int (xs (0 + 1 : Int32).toNatClampNeg), .int (xs (0 + 2 : Int32).toNatClampNeg)]) (rest := [.int r]) (sh := shM) (ad := pM) hx hb hml hown hts lw_in hN hK hAM mokM_43 rfl (ai_sound l hdM ckM mokM 7 43 _ rfl _ _ _ _ c2) (List.mem_of_getElem? (i := 1128) (by decide +kernel)) rfl (Nat.le_of_ble_eq_true rfl) (Nat.le_of_ble_eq_true rfl) (Nat.le_of_ble_eq_true rfl) (Nat.le_of_ble_eq_true rfl) hl.1 (Nat.le_of_ble_eq_true rfl) hPM1 hS d_law_419 (fun H1 locs hk hS => ?_)
  refine lv_icmp_eq (tgt := 684) hx hb d_law_422 (by decide) (fun _ => ?_) (fun h => absurd rfl h)
  exact lw_next rfl C0 hS hl
set_option maxHeartbeats 4000000 in
set_option maxRecDepth 20000 in
/-- erased -/
theorem lw_c9 {p : Program} {e : Env} {s : State} {m : MethodId} {below : List Frame} {meth : Method} {c : Code} (l : Launch) {b : Nat} {xs : Nat → Int32} {D : va_G} {cA : Bool → ClassId} {pC pM : Nat → Nat} {xC xM : ai_H} {H : Heap} {locs : List Loc} {ls : Array Slot} (C0 : lw_At p s m meth c b 4 xs) (St : lw_St s b D cA pC pM xC xM H locs ls) :
    W p l e room_1 s m #[Value.ref b] below meth c H locs 72 102720 (lw_Z below #[Value.ref b] s) (F0 m 427 ls []) := by
  obtain ⟨hx, hb, hr, hml, hown, hts, hX, hbl, hlocks, hgv⟩ := id C0
  obtain ⟨hPC, hPM, hdC, hdM, hAC, hAM, hgC, hgM, hS, hl, hK, hN⟩ := St
  have hbA : ¬ (fun q : Nat => s.heap.size ≤ q) b := Nat.not_le.mpr hbl
  obtain ⟨r, h2, h3, c1, c2⟩ := sa_9 hgC hgM (xs (0 + 1 : Int32).toNatClampNeg)
  refine lv_aload_n hx hb d_law_427 rfl (lv_at hl 2 rfl) ?_
  refine lv_aload_n hx hb d_law_428 rfl (lv_at hl 3 rfl) ?_
  refine lv_iload_n hx hb d_law_429 rfl (lv_at hl 0 rfl) ?_
  refine lv_iconst (v := 1) hx hb d_law_430 (by decide +kernel) ?_
  refine lv_iadd hx hb d_law_431 ?_
  refine va_sld hx hb hX hbl hbA hS lw_v1 d_law_432 ?_
  refine lw_call (y := yX7_erased) (yb := cX7_erased) (yn := 2) (yt := some .int) (ci := 7) (na := 1) (d := 7) (k := 29) (ix := 52) (As := [.int (xs (0 + 1 : Int32).toNatClampNeg)]) (rest := []) (sh := shC) (ad := pC) hx hb hml hown hts lw_in hN hK hAC mokC_87 rfl (ai_sound l hdC ckC mokC 7 87 _ rfl _ _ _ _ c1) (List.mem_of_getElem? (i := 641) (by decide +kernel)) rfl (Nat.le_of_ble_eq_true rfl) (Nat.le_of_ble_eq_true rfl) (Nat.le_of_ble_eq_true rfl) (Nat.le_of_ble_eq_true rfl) hl.1 (Nat.le_of_ble_eq_true rfl) hPC hS d_law_433 (fun H1 locs hk hS => ?_)
  have hPM1 := hPM H1 hk
  refine lv_aload_n hx hb d_law_436 rfl (lv_at hl 1 rfl) ?_
  refine lv_aload_n hx hb d_law_437 rfl (lv_at hl 3 rfl) ?_
  refine lv_iload_n hx hb d_law_438 rfl (lv_at hl 0 rfl) ?_
  refine lv_iconst (v := 1) hx hb d_law_439 (by decide +kernel) ?_
  refine lv_iadd hx hb d_law_440 ?_
  refine va_sld hx hb hX hbl hbA hS lw_v1 d_law_441 ?_
  refine lw_call (y := yX8_erased) (yb := cX8_erased) (yn := 2) (yt := some .int) (ci := 8) (na := 1) (d := 7) (k := 0) (ix := 55) (As := [.int (xs (0 + 1 : Int32).toNatClampNeg)]) (rest := [.int r]) (sh := shM) (ad := pM) hx hb hml hown hts lw_in hN hK hAM mokM_44 rfl (ai_sound l hdM ckM mokM 7 44 _ rfl _ _ _ _ c2) (List.mem_of_getElem? (i := 1132) (by decide +kernel)) rfl (Nat.le_of_ble_eq_true rfl) (Nat.le_of_ble_eq_true rfl) (Nat.le_of_ble_eq_true rfl) (Nat.le_of_ble_eq_true rfl) hl.1 (Nat.le_of_ble_eq_true rfl) hPM1 hS d_law_442 (fun H1 locs hk hS => ?_)
  refine lv_icmp_eq (tgt := 684) hx hb d_law_445 (by decide) (fun _ => ?_) (fun h => absurd rfl h)
  exact lw_next rfl C0 hS hl
set_option maxHeartbeats 4000000 in
set_option maxRecDepth 20000 in
/-- whole -/
theorem lw_c10 {p : Program} {e : Env} {s : State} {m : MethodId} {below : List Frame} {meth : Method} {c : Code} (l : Launch) {b : Nat} {xs : Nat → Int32} {D : va_G} {cA : Bool → ClassId} {pC pM : Nat → Nat} {xC xM : ai_H} {H : Heap} {locs : List Loc} {ls : Array Slot} (C0 : lw_At p s m meth c b 4 xs) (St : lw_St s b D cA pC pM xC xM H locs ls) :
    W p l e room_1 s m #[Value.ref b] below meth c H locs 72 102720 (lw_Z below #[Value.ref b] s) (F0 m 450 ls []) := by
  obtain ⟨hx, hb, hr, hml, hown, hts, hX, hbl, hlocks, hgv⟩ := id C0
  obtain ⟨hPC, hPM, hdC, hdM, hAC, hAM, hgC, hgM, hS, hl, hK, hN⟩ := St
  have hbA : ¬ (fun q : Nat => s.heap.size ≤ q) b := Nat.not_le.mpr hbl
  obtain ⟨r, h2, h3, c1, c2⟩ := sa_10 hgC hgM (xs (0 + 1 : Int32).toNatClampNeg)
  refine lv_aload_n hx hb d_law_450 rfl (lv_at hl 2 rfl) ?_
  refine lv_aload_n hx hb d_law_451 rfl (lv_at hl 3 rfl) ?_
  refine lv_iload_n hx hb d_law_452 rfl (lv_at hl 0 rfl) ?_
  refine lv_iconst (v := 1) hx hb d_law_453 (by decide +kernel) ?_
  refine lv_iadd hx hb d_law_454 ?_
  refine va_sld hx hb hX hbl hbA hS lw_v1 d_law_455 ?_
  refine lw_call (y := yX7_whole) (yb := cX7_whole) (yn := 2) (yt := some .int) (ci := 7) (na := 1) (d := 7) (k := 29) (ix := 56) (As := [.int (xs (0 + 1 : Int32).toNatClampNeg)]) (rest := []) (sh := shC) (ad := pC) hx hb hml hown hts lw_in hN hK hAC mokC_88 rfl (ai_sound l hdC ckC mokC 7 88 _ rfl _ _ _ _ c1) (List.mem_of_getElem? (i := 646) (by decide +kernel)) rfl (Nat.le_of_ble_eq_true rfl) (Nat.le_of_ble_eq_true rfl) (Nat.le_of_ble_eq_true rfl) (Nat.le_of_ble_eq_true rfl) hl.1 (Nat.le_of_ble_eq_true rfl) hPC hS d_law_456 (fun H1 locs hk hS => ?_)
  have hPM1 := hPM H1 hk
  refine lv_aload_n hx hb d_law_459 rfl (lv_at hl 1 rfl) ?_
  refine lv_aload_n hx hb d_law_460 rfl (lv_at hl 3 rfl) ?_
  refine lv_iload_n hx hb d_law_461 rfl (lv_at hl 0 rfl) ?_
  refine lv_iconst (v := 1) hx hb d_law_462 (by decide +kernel) ?_
  refine lv_iadd hx hb d_law_463 ?_
  refine va_sld hx hb hX hbl hbA hS lw_v1 d_law_464 ?_
  refine lw_call (y := yX8_whole) (yb := cX8_whole) (yn := 5) (yt := some .int) (ci := 8) (na := 1) (d := 7) (k := 0) (ix := 59) (As := [.int (xs (0 + 1 : Int32).toNatClampNeg)]) (rest := [.int r]) (sh := shM) (ad := pM) hx hb hml hown hts lw_in hN hK hAM mokM_45 rfl (ai_sound l hdM ckM mokM 7 45 _ rfl _ _ _ _ c2) (List.mem_of_getElem? (i := 1136) (by decide +kernel)) rfl (Nat.le_of_ble_eq_true rfl) (Nat.le_of_ble_eq_true rfl) (Nat.le_of_ble_eq_true rfl) (Nat.le_of_ble_eq_true rfl) hl.1 (Nat.le_of_ble_eq_true rfl) hPM1 hS d_law_465 (fun H1 locs hk hS => ?_)
  refine lv_icmp_eq (tgt := 684) hx hb d_law_468 (by decide) (fun _ => ?_) (fun h => absurd rfl h)
  exact lw_next rfl C0 hS hl
set_option maxHeartbeats 4000000 in
set_option maxRecDepth 20000 in
/-- above -/
theorem lw_c11 {p : Program} {e : Env} {s : State} {m : MethodId} {below : List Frame} {meth : Method} {c : Code} (l : Launch) {b : Nat} {xs : Nat → Int32} {D : va_G} {cA : Bool → ClassId} {pC pM : Nat → Nat} {xC xM : ai_H} {H : Heap} {locs : List Loc} {ls : Array Slot} (C0 : lw_At p s m meth c b 4 xs) (St : lw_St s b D cA pC pM xC xM H locs ls) :
    W p l e room_1 s m #[Value.ref b] below meth c H locs 72 102720 (lw_Z below #[Value.ref b] s) (F0 m 473 ls []) := by
  obtain ⟨hx, hb, hr, hml, hown, hts, hX, hbl, hlocks, hgv⟩ := id C0
  obtain ⟨hPC, hPM, hdC, hdM, hAC, hAM, hgC, hgM, hS, hl, hK, hN⟩ := St
  have hbA : ¬ (fun q : Nat => s.heap.size ≤ q) b := Nat.not_le.mpr hbl
  obtain ⟨r, h2, h3, c1, c2⟩ := sa_11 hgC hgM (xs (0 + 1 : Int32).toNatClampNeg) (xs (0 + 2 : Int32).toNatClampNeg)
  refine lv_aload_n hx hb d_law_473 rfl (lv_at hl 2 rfl) ?_
  refine lv_aload_n hx hb d_law_474 rfl (lv_at hl 3 rfl) ?_
  refine lv_iload_n hx hb d_law_475 rfl (lv_at hl 0 rfl) ?_
  refine lv_iconst (v := 1) hx hb d_law_476 (by decide +kernel) ?_
  refine lv_iadd hx hb d_law_477 ?_
  refine va_sld hx hb hX hbl hbA hS lw_v1 d_law_478 ?_
  refine lv_aload_n hx hb d_law_479 rfl (lv_at hl 3 rfl) ?_
  refine lv_iload_n hx hb d_law_480 rfl (lv_at hl 0 rfl) ?_
  refine lv_iconst (v := 2) hx hb d_law_481 (by decide +kernel) ?_
  refine lv_iadd hx hb d_law_482 ?_
  refine va_sld hx hb hX hbl hbA hS lw_v2 d_law_483 ?_
  refine lw_call (y := yX7_above) (yb := cX7_above) (yn := 4) (yt := some .int) (ci := 7) (na := 2) (d := 7) (k := 29) (ix := 60) (As := [.int (xs (0 + 1 : Int32).toNatClampNeg), .int (xs (0 + 2 : Int32).toNatClampNeg)]) (rest := []) (sh := shC) (ad := pC) hx hb hml hown hts lw_in hN hK hAC mokC_89 rfl (ai_sound l hdC ckC mokC 7 89 _ rfl _ _ _ _ c1) (List.mem_of_getElem? (i := 655) (by decide +kernel)) rfl (Nat.le_of_ble_eq_true rfl) (Nat.le_of_ble_eq_true rfl) (Nat.le_of_ble_eq_true rfl) (Nat.le_of_ble_eq_true rfl) hl.1 (Nat.le_of_ble_eq_true rfl) hPC hS d_law_484 (fun H1 locs hk hS => ?_)
  have hPM1 := hPM H1 hk
  refine lv_aload_n hx hb d_law_487 rfl (lv_at hl 1 rfl) ?_
  refine lv_aload_n hx hb d_law_488 rfl (lv_at hl 3 rfl) ?_
  refine lv_iload_n hx hb d_law_489 rfl (lv_at hl 0 rfl) ?_
  refine lv_iconst (v := 1) hx hb d_law_490 (by decide +kernel) ?_
  refine lv_iadd hx hb d_law_491 ?_
  refine va_sld hx hb hX hbl hbA hS lw_v1 d_law_492 ?_
  refine lv_aload_n hx hb d_law_493 rfl (lv_at hl 3 rfl) ?_
  refine lv_iload_n hx hb d_law_494 rfl (lv_at hl 0 rfl) ?_
  refine lv_iconst (v := 2) hx hb d_law_495 (by decide +kernel) ?_
  refine lv_iadd hx hb d_law_496 ?_
  refine va_sld hx hb hX hbl hbA hS lw_v2 d_law_497 ?_
  refine lw_call (y := yX8_above) (yb := cX8_above) (yn := 4) (yt := some .int) (ci := 8) (na := 2) (d := 7) (k := 0) (ix := 63) (As := [.int (xs (0 + 1 : Int32).toNatClampNeg), .int (xs (0 + 2 : Int32).toNatClampNeg)]) (rest := [.int r]) (sh := shM) (ad := pM) hx hb hml hown hts lw_in hN hK hAM mokM_46 rfl (ai_sound l hdM ckM mokM 7 46 _ rfl _ _ _ _ c2) (List.mem_of_getElem? (i := 1140) (by decide +kernel)) rfl (Nat.le_of_ble_eq_true rfl) (Nat.le_of_ble_eq_true rfl) (Nat.le_of_ble_eq_true rfl) (Nat.le_of_ble_eq_true rfl) hl.1 (Nat.le_of_ble_eq_true rfl) hPM1 hS d_law_498 (fun H1 locs hk hS => ?_)
  refine lv_icmp_eq (tgt := 684) hx hb d_law_501 (by decide) (fun _ => ?_) (fun h => absurd rfl h)
  exact lw_next rfl C0 hS hl
set_option maxHeartbeats 4000000 in
set_option maxRecDepth 20000 in
/-- member -/
theorem lw_c12 {p : Program} {e : Env} {s : State} {m : MethodId} {below : List Frame} {meth : Method} {c : Code} (l : Launch) {b : Nat} {xs : Nat → Int32} {D : va_G} {cA : Bool → ClassId} {pC pM : Nat → Nat} {xC xM : ai_H} {H : Heap} {locs : List Loc} {ls : Array Slot} (C0 : lw_At p s m meth c b 4 xs) (St : lw_St s b D cA pC pM xC xM H locs ls) :
    W p l e room_1 s m #[Value.ref b] below meth c H locs 72 102720 (lw_Z below #[Value.ref b] s) (F0 m 506 ls []) := by
  obtain ⟨hx, hb, hr, hml, hown, hts, hX, hbl, hlocks, hgv⟩ := id C0
  obtain ⟨hPC, hPM, hdC, hdM, hAC, hAM, hgC, hgM, hS, hl, hK, hN⟩ := St
  have hbA : ¬ (fun q : Nat => s.heap.size ≤ q) b := Nat.not_le.mpr hbl
  obtain ⟨r, h2, h3, c1, c2⟩ := sa_12 hgC hgM (xs (0 + 1 : Int32).toNatClampNeg) (xs (0 + 2 : Int32).toNatClampNeg)
  refine lv_aload_n hx hb d_law_506 rfl (lv_at hl 2 rfl) ?_
  refine lv_aload_n hx hb d_law_507 rfl (lv_at hl 3 rfl) ?_
  refine lv_iload_n hx hb d_law_508 rfl (lv_at hl 0 rfl) ?_
  refine lv_iconst (v := 1) hx hb d_law_509 (by decide +kernel) ?_
  refine lv_iadd hx hb d_law_510 ?_
  refine va_sld hx hb hX hbl hbA hS lw_v1 d_law_511 ?_
  refine lv_aload_n hx hb d_law_512 rfl (lv_at hl 3 rfl) ?_
  refine lv_iload_n hx hb d_law_513 rfl (lv_at hl 0 rfl) ?_
  refine lv_iconst (v := 2) hx hb d_law_514 (by decide +kernel) ?_
  refine lv_iadd hx hb d_law_515 ?_
  refine va_sld hx hb hX hbl hbA hS lw_v2 d_law_516 ?_
  refine lw_call (y := yX7_member) (yb := cX7_member) (yn := 3) (yt := some .int) (ci := 7) (na := 2) (d := 7) (k := 29) (ix := 64) (As := [.int (xs (0 + 1 : Int32).toNatClampNeg), .int (xs (0 + 2 : Int32).toNatClampNeg)]) (rest := []) (sh := shC) (ad := pC) hx hb hml hown hts lw_in hN hK hAC mokC_90 rfl (ai_sound l hdC ckC mokC 7 90 _ rfl _ _ _ _ c1) (List.mem_of_getElem? (i := 660) (by decide +kernel)) rfl (Nat.le_of_ble_eq_true rfl) (Nat.le_of_ble_eq_true rfl) (Nat.le_of_ble_eq_true rfl) (Nat.le_of_ble_eq_true rfl) hl.1 (Nat.le_of_ble_eq_true rfl) hPC hS d_law_517 (fun H1 locs hk hS => ?_)
  have hPM1 := hPM H1 hk
  refine lv_aload_n hx hb d_law_520 rfl (lv_at hl 1 rfl) ?_
  refine lv_aload_n hx hb d_law_521 rfl (lv_at hl 3 rfl) ?_
  refine lv_iload_n hx hb d_law_522 rfl (lv_at hl 0 rfl) ?_
  refine lv_iconst (v := 1) hx hb d_law_523 (by decide +kernel) ?_
  refine lv_iadd hx hb d_law_524 ?_
  refine va_sld hx hb hX hbl hbA hS lw_v1 d_law_525 ?_
  refine lv_aload_n hx hb d_law_526 rfl (lv_at hl 3 rfl) ?_
  refine lv_iload_n hx hb d_law_527 rfl (lv_at hl 0 rfl) ?_
  refine lv_iconst (v := 2) hx hb d_law_528 (by decide +kernel) ?_
  refine lv_iadd hx hb d_law_529 ?_
  refine va_sld hx hb hX hbl hbA hS lw_v2 d_law_530 ?_
  refine lw_call (y := yX8_member) (yb := cX8_member) (yn := 3) (yt := some .int) (ci := 8) (na := 2) (d := 7) (k := 0) (ix := 67) (As := [.int (xs (0 + 1 : Int32).toNatClampNeg), .int (xs (0 + 2 : Int32).toNatClampNeg)]) (rest := [.int r]) (sh := shM) (ad := pM) hx hb hml hown hts lw_in hN hK hAM mokM_47 rfl (ai_sound l hdM ckM mokM 7 47 _ rfl _ _ _ _ c2) (List.mem_of_getElem? (i := 1144) (by decide +kernel)) rfl (Nat.le_of_ble_eq_true rfl) (Nat.le_of_ble_eq_true rfl) (Nat.le_of_ble_eq_true rfl) (Nat.le_of_ble_eq_true rfl) hl.1 (Nat.le_of_ble_eq_true rfl) hPM1 hS d_law_531 (fun H1 locs hk hS => ?_)
  refine lv_icmp_eq (tgt := 684) hx hb d_law_534 (by decide) (fun _ => ?_) (fun h => absurd rfl h)
  exact lw_next rfl C0 hS hl
set_option maxHeartbeats 4000000 in
set_option maxRecDepth 20000 in
/-- feed -/
theorem lw_c13 {p : Program} {e : Env} {s : State} {m : MethodId} {below : List Frame} {meth : Method} {c : Code} (l : Launch) {b : Nat} {xs : Nat → Int32} {D : va_G} {cA : Bool → ClassId} {pC pM : Nat → Nat} {xC xM : ai_H} {H : Heap} {locs : List Loc} {ls : Array Slot} (C0 : lw_At p s m meth c b 4 xs) (St : lw_St s b D cA pC pM xC xM H locs ls) :
    W p l e room_1 s m #[Value.ref b] below meth c H locs 72 102720 (lw_Z below #[Value.ref b] s) (F0 m 539 ls []) := by
  obtain ⟨hx, hb, hr, hml, hown, hts, hX, hbl, hlocks, hgv⟩ := id C0
  obtain ⟨hPC, hPM, hdC, hdM, hAC, hAM, hgC, hgM, hS, hl, hK, hN⟩ := St
  have hbA : ¬ (fun q : Nat => s.heap.size ≤ q) b := Nat.not_le.mpr hbl
  obtain ⟨r, h2, h3, c1, c2⟩ := sa_13 hgC hgM (xs (0 + 1 : Int32).toNatClampNeg) ((xs (0 + 2 : Int32).toNatClampNeg).toInt64 <<< ((32 : Int32).toInt64 &&& 63) ||| ((xs (0 + 3 : Int32).toNatClampNeg).toInt64 &&& 4294967295))
  refine lv_aload_n hx hb d_law_539 rfl (lv_at hl 2 rfl) ?_
  refine lv_aload_n hx hb d_law_540 rfl (lv_at hl 3 rfl) ?_
  refine lv_iload_n hx hb d_law_541 rfl (lv_at hl 0 rfl) ?_
  refine lv_iconst (v := 1) hx hb d_law_542 (by decide +kernel) ?_
  refine lv_iadd hx hb d_law_543 ?_
  refine va_sld hx hb hX hbl hbA hS lw_v1 d_law_544 ?_
  refine lv_aload_n hx hb d_law_545 rfl (lv_at hl 3 rfl) ?_
  refine lv_iload_n hx hb d_law_546 rfl (lv_at hl 0 rfl) ?_
  refine lv_iconst (v := 2) hx hb d_law_547 (by decide +kernel) ?_
  refine lv_iadd hx hb d_law_548 ?_
  refine va_sld hx hb hX hbl hbA hS lw_v2 d_law_549 ?_
  refine lv_i2l hx hb d_law_550 rfl ?_
  refine lv_bipush (v := 32) hx hb d_law_551 (by decide +kernel) ?_
  refine lv_lshl hx hb d_law_553 rfl ?_
  refine lv_aload_n hx hb d_law_554 rfl (lv_at hl 3 rfl) ?_
  refine lv_iload_n hx hb d_law_555 rfl (lv_at hl 0 rfl) ?_
  refine lv_iconst (v := 3) hx hb d_law_556 (by decide +kernel) ?_
  refine lv_iadd hx hb d_law_557 ?_
  refine va_sld hx hb hX hbl hbA hS lw_v3 d_law_558 ?_
  refine lv_i2l hx hb d_law_559 rfl ?_
  refine lv_ldc2 (v := 4294967295) hx hb hown (hts _ (List.mem_of_getElem? (i := 1216) (by decide +kernel))) d_law_560 ?_
  refine lv_land hx hb d_law_563 ?_
  refine lv_lor hx hb d_law_564 ?_
  refine lw_call (y := yX7_feed) (yb := cX7_feed) (yn := 4) (yt := some .int) (ci := 7) (na := 2) (d := 7) (k := 29) (ix := 70) (As := [.int (xs (0 + 1 : Int32).toNatClampNeg), .long ((xs (0 + 2 : Int32).toNatClampNeg).toInt64 <<< ((32 : Int32).toInt64 &&& 63) ||| ((xs (0 + 3 : Int32).toNatClampNeg).toInt64 &&& 4294967295))]) (rest := []) (sh := shC) (ad := pC) hx hb hml hown hts lw_in hN hK hAC mokC_91 rfl (ai_sound l hdC ckC mokC 7 91 _ rfl _ _ _ _ c1) (List.mem_of_getElem? (i := 665) (by decide +kernel)) rfl (Nat.le_of_ble_eq_true rfl) (Nat.le_of_ble_eq_true rfl) (Nat.le_of_ble_eq_true rfl) (Nat.le_of_ble_eq_true rfl) hl.1 (Nat.le_of_ble_eq_true rfl) hPC hS d_law_565 (fun H1 locs hk hS => ?_)
  have hPM1 := hPM H1 hk
  refine lv_aload_n hx hb d_law_568 rfl (lv_at hl 1 rfl) ?_
  refine lv_aload_n hx hb d_law_569 rfl (lv_at hl 3 rfl) ?_
  refine lv_iload_n hx hb d_law_570 rfl (lv_at hl 0 rfl) ?_
  refine lv_iconst (v := 1) hx hb d_law_571 (by decide +kernel) ?_
  refine lv_iadd hx hb d_law_572 ?_
  refine va_sld hx hb hX hbl hbA hS lw_v1 d_law_573 ?_
  refine lv_aload_n hx hb d_law_574 rfl (lv_at hl 3 rfl) ?_
  refine lv_iload_n hx hb d_law_575 rfl (lv_at hl 0 rfl) ?_
  refine lv_iconst (v := 2) hx hb d_law_576 (by decide +kernel) ?_
  refine lv_iadd hx hb d_law_577 ?_
  refine va_sld hx hb hX hbl hbA hS lw_v2 d_law_578 ?_
  refine lv_i2l hx hb d_law_579 rfl ?_
  refine lv_bipush (v := 32) hx hb d_law_580 (by decide +kernel) ?_
  refine lv_lshl hx hb d_law_582 rfl ?_
  refine lv_aload_n hx hb d_law_583 rfl (lv_at hl 3 rfl) ?_
  refine lv_iload_n hx hb d_law_584 rfl (lv_at hl 0 rfl) ?_
  refine lv_iconst (v := 3) hx hb d_law_585 (by decide +kernel) ?_
  refine lv_iadd hx hb d_law_586 ?_
  refine va_sld hx hb hX hbl hbA hS lw_v3 d_law_587 ?_
  refine lv_i2l hx hb d_law_588 rfl ?_
  refine lv_ldc2 (v := 4294967295) hx hb hown (hts _ (List.mem_of_getElem? (i := 1216) (by decide +kernel))) d_law_589 ?_
  refine lv_land hx hb d_law_592 ?_
  refine lv_lor hx hb d_law_593 ?_
  refine lw_call (y := yX8_feed) (yb := cX8_feed) (yn := 5) (yt := some .int) (ci := 8) (na := 2) (d := 7) (k := 0) (ix := 74) (As := [.int (xs (0 + 1 : Int32).toNatClampNeg), .long ((xs (0 + 2 : Int32).toNatClampNeg).toInt64 <<< ((32 : Int32).toInt64 &&& 63) ||| ((xs (0 + 3 : Int32).toNatClampNeg).toInt64 &&& 4294967295))]) (rest := [.int r]) (sh := shM) (ad := pM) hx hb hml hown hts lw_in hN hK hAM mokM_48 rfl (ai_sound l hdM ckM mokM 7 48 _ rfl _ _ _ _ c2) (List.mem_of_getElem? (i := 1148) (by decide +kernel)) rfl (Nat.le_of_ble_eq_true rfl) (Nat.le_of_ble_eq_true rfl) (Nat.le_of_ble_eq_true rfl) (Nat.le_of_ble_eq_true rfl) hl.1 (Nat.le_of_ble_eq_true rfl) hPM1 hS d_law_594 (fun H1 locs hk hS => ?_)
  refine lv_icmp_eq (tgt := 684) hx hb d_law_597 (by decide) (fun _ => ?_) (fun h => absurd rfl h)
  exact lw_next rfl C0 hS hl
set_option maxHeartbeats 4000000 in
set_option maxRecDepth 20000 in
/-- read -/
theorem lw_c14 {p : Program} {e : Env} {s : State} {m : MethodId} {below : List Frame} {meth : Method} {c : Code} (l : Launch) {b : Nat} {xs : Nat → Int32} {D : va_G} {cA : Bool → ClassId} {pC pM : Nat → Nat} {xC xM : ai_H} {H : Heap} {locs : List Loc} {ls : Array Slot} (C0 : lw_At p s m meth c b 4 xs) (St : lw_St s b D cA pC pM xC xM H locs ls) :
    W p l e room_1 s m #[Value.ref b] below meth c H locs 72 102720 (lw_Z below #[Value.ref b] s) (F0 m 602 ls []) := by
  obtain ⟨hx, hb, hr, hml, hown, hts, hX, hbl, hlocks, hgv⟩ := id C0
  obtain ⟨hPC, hPM, hdC, hdM, hAC, hAM, hgC, hgM, hS, hl, hK, hN⟩ := St
  have hbA : ¬ (fun q : Nat => s.heap.size ≤ q) b := Nat.not_le.mpr hbl
  obtain ⟨r, h2, h3, c1, c2⟩ := sa_14 hgC hgM
  refine lv_aload_n hx hb d_law_602 rfl (lv_at hl 2 rfl) ?_
  refine lw_call (y := yX7_read) (yb := cX7_read) (yn := 3) (yt := some .int) (ci := 7) (na := 0) (d := 7) (k := 29) (ix := 75) (As := []) (rest := []) (sh := shC) (ad := pC) hx hb hml hown hts lw_in hN hK hAC mokC_92 rfl (ai_sound l hdC ckC mokC 7 92 _ rfl _ _ _ _ c1) (List.mem_of_getElem? (i := 674) (by decide +kernel)) rfl (Nat.le_of_ble_eq_true rfl) (Nat.le_of_ble_eq_true rfl) (Nat.le_of_ble_eq_true rfl) (Nat.le_of_ble_eq_true rfl) hl.1 (Nat.le_of_ble_eq_true rfl) hPC hS d_law_603 (fun H1 locs hk hS => ?_)
  have hPM1 := hPM H1 hk
  refine lv_aload_n hx hb d_law_606 rfl (lv_at hl 1 rfl) ?_
  refine lw_call (y := yX8_read) (yb := cX8_read) (yn := 2) (yt := some .int) (ci := 8) (na := 0) (d := 7) (k := 0) (ix := 79) (As := []) (rest := [.int r]) (sh := shM) (ad := pM) hx hb hml hown hts lw_in hN hK hAM mokM_59 rfl (ai_sound l hdM ckM mokM 7 59 _ rfl _ _ _ _ c2) (List.mem_of_getElem? (i := 1152) (by decide +kernel)) rfl (Nat.le_of_ble_eq_true rfl) (Nat.le_of_ble_eq_true rfl) (Nat.le_of_ble_eq_true rfl) (Nat.le_of_ble_eq_true rfl) hl.1 (Nat.le_of_ble_eq_true rfl) hPM1 hS d_law_607 (fun H1 locs hk hS => ?_)
  refine lv_icmp_eq (tgt := 684) hx hb d_law_610 (by decide) (fun _ => ?_) (fun h => absurd rfl h)
  exact lw_next rfl C0 hS hl
set_option maxHeartbeats 4000000 in
set_option maxRecDepth 20000 in
/-- print -/
theorem lw_c15 {p : Program} {e : Env} {s : State} {m : MethodId} {below : List Frame} {meth : Method} {c : Code} (l : Launch) {b : Nat} {xs : Nat → Int32} {D : va_G} {cA : Bool → ClassId} {pC pM : Nat → Nat} {xC xM : ai_H} {H : Heap} {locs : List Loc} {ls : Array Slot} (C0 : lw_At p s m meth c b 4 xs) (St : lw_St s b D cA pC pM xC xM H locs ls) :
    W p l e room_1 s m #[Value.ref b] below meth c H locs 72 102720 (lw_Z below #[Value.ref b] s) (F0 m 615 ls []) := by
  obtain ⟨hx, hb, hr, hml, hown, hts, hX, hbl, hlocks, hgv⟩ := id C0
  obtain ⟨hPC, hPM, hdC, hdM, hAC, hAM, hgC, hgM, hS, hl, hK, hN⟩ := St
  have hbA : ¬ (fun q : Nat => s.heap.size ≤ q) b := Nat.not_le.mpr hbl
  obtain ⟨r, h2, h3, c1, c2⟩ := sa_15 hgC hgM (xs (0 + 1 : Int32).toNatClampNeg)
  refine lv_aload_n hx hb d_law_615 rfl (lv_at hl 2 rfl) ?_
  refine lv_aload_n hx hb d_law_616 rfl (lv_at hl 3 rfl) ?_
  refine lv_iload_n hx hb d_law_617 rfl (lv_at hl 0 rfl) ?_
  refine lv_iconst (v := 1) hx hb d_law_618 (by decide +kernel) ?_
  refine lv_iadd hx hb d_law_619 ?_
  refine va_sld hx hb hX hbl hbA hS lw_v1 d_law_620 ?_
  refine lw_call (y := yX7_print) (yb := cX7_print) (yn := 2) (yt := some .int) (ci := 7) (na := 1) (d := 7) (k := 29) (ix := 80) (As := [.int (xs (0 + 1 : Int32).toNatClampNeg)]) (rest := []) (sh := shC) (ad := pC) hx hb hml hown hts lw_in hN hK hAC mokC_93 rfl (ai_sound l hdC ckC mokC 7 93 _ rfl _ _ _ _ c1) (List.mem_of_getElem? (i := 722) (by decide +kernel)) rfl (Nat.le_of_ble_eq_true rfl) (Nat.le_of_ble_eq_true rfl) (Nat.le_of_ble_eq_true rfl) (Nat.le_of_ble_eq_true rfl) hl.1 (Nat.le_of_ble_eq_true rfl) hPC hS d_law_621 (fun H1 locs hk hS => ?_)
  have hPM1 := hPM H1 hk
  refine lv_aload_n hx hb d_law_624 rfl (lv_at hl 1 rfl) ?_
  refine lv_aload_n hx hb d_law_625 rfl (lv_at hl 3 rfl) ?_
  refine lv_iload_n hx hb d_law_626 rfl (lv_at hl 0 rfl) ?_
  refine lv_iconst (v := 1) hx hb d_law_627 (by decide +kernel) ?_
  refine lv_iadd hx hb d_law_628 ?_
  refine va_sld hx hb hX hbl hbA hS lw_v1 d_law_629 ?_
  refine lw_call (y := yX8_print) (yb := cX8_print) (yn := 3) (yt := some .int) (ci := 8) (na := 1) (d := 7) (k := 0) (ix := 83) (As := [.int (xs (0 + 1 : Int32).toNatClampNeg)]) (rest := [.int r]) (sh := shM) (ad := pM) hx hb hml hown hts lw_in hN hK hAM mokM_62 rfl (ai_sound l hdM ckM mokM 7 62 _ rfl _ _ _ _ c2) (List.mem_of_getElem? (i := 1196) (by decide +kernel)) rfl (Nat.le_of_ble_eq_true rfl) (Nat.le_of_ble_eq_true rfl) (Nat.le_of_ble_eq_true rfl) (Nat.le_of_ble_eq_true rfl) hl.1 (Nat.le_of_ble_eq_true rfl) hPM1 hS d_law_630 (fun H1 locs hk hS => ?_)
  refine lv_icmp_eq (tgt := 684) hx hb d_law_633 (by decide) (fun _ => ?_) (fun h => absurd rfl h)
  exact lw_next rfl C0 hS hl
set_option maxHeartbeats 4000000 in
set_option maxRecDepth 20000 in
/-- out -/
theorem lw_c16 {p : Program} {e : Env} {s : State} {m : MethodId} {below : List Frame} {meth : Method} {c : Code} (l : Launch) {b : Nat} {xs : Nat → Int32} {D : va_G} {cA : Bool → ClassId} {pC pM : Nat → Nat} {xC xM : ai_H} {H : Heap} {locs : List Loc} {ls : Array Slot} (C0 : lw_At p s m meth c b 4 xs) (St : lw_St s b D cA pC pM xC xM H locs ls) :
    W p l e room_1 s m #[Value.ref b] below meth c H locs 72 102720 (lw_Z below #[Value.ref b] s) (F0 m 638 ls []) := by
  obtain ⟨hx, hb, hr, hml, hown, hts, hX, hbl, hlocks, hgv⟩ := id C0
  obtain ⟨hPC, hPM, hdC, hdM, hAC, hAM, hgC, hgM, hS, hl, hK, hN⟩ := St
  have hbA : ¬ (fun q : Nat => s.heap.size ≤ q) b := Nat.not_le.mpr hbl
  obtain ⟨r, h2, h3, c1, c2⟩ := sa_16 hgC hgM (xs (0 + 1 : Int32).toNatClampNeg)
  refine lv_aload_n hx hb d_law_638 rfl (lv_at hl 2 rfl) ?_
  refine lv_aload_n hx hb d_law_639 rfl (lv_at hl 3 rfl) ?_
  refine lv_iload_n hx hb d_law_640 rfl (lv_at hl 0 rfl) ?_
  refine lv_iconst (v := 1) hx hb d_law_641 (by decide +kernel) ?_
  refine lv_iadd hx hb d_law_642 ?_
  refine va_sld hx hb hX hbl hbA hS lw_v1 d_law_643 ?_
  refine lw_call (y := yX7_out) (yb := cX7_out) (yn := 2) (yt := some .int) (ci := 7) (na := 1) (d := 7) (k := 29) (ix := 84) (As := [.int (xs (0 + 1 : Int32).toNatClampNeg)]) (rest := []) (sh := shC) (ad := pC) hx hb hml hown hts lw_in hN hK hAC mokC_94 rfl (ai_sound l hdC ckC mokC 7 94 _ rfl _ _ _ _ c1) (List.mem_of_getElem? (i := 754) (by decide +kernel)) rfl (Nat.le_of_ble_eq_true rfl) (Nat.le_of_ble_eq_true rfl) (Nat.le_of_ble_eq_true rfl) (Nat.le_of_ble_eq_true rfl) hl.1 (Nat.le_of_ble_eq_true rfl) hPC hS d_law_644 (fun H1 locs hk hS => ?_)
  have hPM1 := hPM H1 hk
  refine lv_aload_n hx hb d_law_647 rfl (lv_at hl 1 rfl) ?_
  refine lv_aload_n hx hb d_law_648 rfl (lv_at hl 3 rfl) ?_
  refine lv_iload_n hx hb d_law_649 rfl (lv_at hl 0 rfl) ?_
  refine lv_iconst (v := 1) hx hb d_law_650 (by decide +kernel) ?_
  refine lv_iadd hx hb d_law_651 ?_
  refine va_sld hx hb hX hbl hbA hS lw_v1 d_law_652 ?_
  refine lw_call (y := yX8_out) (yb := cX8_out) (yn := 2) (yt := some .int) (ci := 8) (na := 1) (d := 7) (k := 0) (ix := 87) (As := [.int (xs (0 + 1 : Int32).toNatClampNeg)]) (rest := [.int r]) (sh := shM) (ad := pM) hx hb hml hown hts lw_in hN hK hAM mokM_63 rfl (ai_sound l hdM ckM mokM 7 63 _ rfl _ _ _ _ c2) (List.mem_of_getElem? (i := 1208) (by decide +kernel)) rfl (Nat.le_of_ble_eq_true rfl) (Nat.le_of_ble_eq_true rfl) (Nat.le_of_ble_eq_true rfl) (Nat.le_of_ble_eq_true rfl) hl.1 (Nat.le_of_ble_eq_true rfl) hPM1 hS d_law_653 (fun H1 locs hk hS => ?_)
  refine lv_icmp_eq (tgt := 684) hx hb d_law_656 (by decide) (fun _ => ?_) (fun h => absurd rfl h)
  exact lw_next rfl C0 hS hl
set_option maxHeartbeats 4000000 in
set_option maxRecDepth 20000 in
/-- count -/
theorem lw_c17 {p : Program} {e : Env} {s : State} {m : MethodId} {below : List Frame} {meth : Method} {c : Code} (l : Launch) {b : Nat} {xs : Nat → Int32} {D : va_G} {cA : Bool → ClassId} {pC pM : Nat → Nat} {xC xM : ai_H} {H : Heap} {locs : List Loc} {ls : Array Slot} (C0 : lw_At p s m meth c b 4 xs) (St : lw_St s b D cA pC pM xC xM H locs ls) :
    W p l e room_1 s m #[Value.ref b] below meth c H locs 72 102720 (lw_Z below #[Value.ref b] s) (F0 m 661 ls []) := by
  obtain ⟨hx, hb, hr, hml, hown, hts, hX, hbl, hlocks, hgv⟩ := id C0
  obtain ⟨hPC, hPM, hdC, hdM, hAC, hAM, hgC, hgM, hS, hl, hK, hN⟩ := St
  have hbA : ¬ (fun q : Nat => s.heap.size ≤ q) b := Nat.not_le.mpr hbl
  obtain ⟨r, h2, h3, c1, c2⟩ := sa_17 hgC hgM (xs (0 + 1 : Int32).toNatClampNeg)
  refine lv_aload_n hx hb d_law_661 rfl (lv_at hl 2 rfl) ?_
  refine lv_aload_n hx hb d_law_662 rfl (lv_at hl 3 rfl) ?_
  refine lv_iload_n hx hb d_law_663 rfl (lv_at hl 0 rfl) ?_
  refine lv_iconst (v := 1) hx hb d_law_664 (by decide +kernel) ?_
  refine lv_iadd hx hb d_law_665 ?_
  refine va_sld hx hb hX hbl hbA hS lw_v1 d_law_666 ?_
  refine lw_call (y := yX7_count) (yb := cX7_count) (yn := 2) (yt := some .int) (ci := 7) (na := 1) (d := 7) (k := 29) (ix := 88) (As := [.int (xs (0 + 1 : Int32).toNatClampNeg)]) (rest := []) (sh := shC) (ad := pC) hx hb hml hown hts lw_in hN hK hAC mokC_95 rfl (ai_sound l hdC ckC mokC 7 95 _ rfl _ _ _ _ c1) (List.mem_of_getElem? (i := 762) (by decide +kernel)) rfl (Nat.le_of_ble_eq_true rfl) (Nat.le_of_ble_eq_true rfl) (Nat.le_of_ble_eq_true rfl) (Nat.le_of_ble_eq_true rfl) hl.1 (Nat.le_of_ble_eq_true rfl) hPC hS d_law_667 (fun H1 locs hk hS => ?_)
  have hPM1 := hPM H1 hk
  refine lv_aload_n hx hb d_law_670 rfl (lv_at hl 1 rfl) ?_
  refine lv_aload_n hx hb d_law_671 rfl (lv_at hl 3 rfl) ?_
  refine lv_iload_n hx hb d_law_672 rfl (lv_at hl 0 rfl) ?_
  refine lv_iconst (v := 1) hx hb d_law_673 (by decide +kernel) ?_
  refine lv_iadd hx hb d_law_674 ?_
  refine va_sld hx hb hX hbl hbA hS lw_v1 d_law_675 ?_
  refine lw_call (y := yX8_count) (yb := cX8_count) (yn := 4) (yt := some .int) (ci := 8) (na := 1) (d := 7) (k := 0) (ix := 91) (As := [.int (xs (0 + 1 : Int32).toNatClampNeg)]) (rest := [.int r]) (sh := shM) (ad := pM) hx hb hml hown hts lw_in hN hK hAM mokM_64 rfl (ai_sound l hdM ckM mokM 7 64 _ rfl _ _ _ _ c2) (List.mem_of_getElem? (i := 1212) (by decide +kernel)) rfl (Nat.le_of_ble_eq_true rfl) (Nat.le_of_ble_eq_true rfl) (Nat.le_of_ble_eq_true rfl) (Nat.le_of_ble_eq_true rfl) hl.1 (Nat.le_of_ble_eq_true rfl) hPM1 hS d_law_676 (fun H1 locs hk hS => ?_)
  refine lv_icmp_eq (tgt := 684) hx hb d_law_679 (by decide) (fun _ => ?_) (fun h => absurd rfl h)
  exact lw_next rfl C0 hS hl
end
section
theorem dd_lC : ∀ j, j < 9 → (parseFieldDescriptor (TX7 j).2.2.1).map defaultValue = some (vp_V dfC j) := by decide +kernel
theorem wl_lC : Cond.classLink R_law 7 RX7 ∈ lw_tbl ∧ Cond.instantiable RX7 9 ∈ lw_tbl ∧ Cond.initialized RX7 ∈ lw_tbl := ⟨List.mem_of_getElem? (i := 84) (by decide +kernel), List.mem_of_getElem? (i := 85) (by decide +kernel), List.mem_of_getElem? (i := 73) (by decide +kernel)⟩
theorem wm_lC : Cond.methodLink R_law 9 yX7_init ∈ lw_tbl ∧ Cond.instanceMethod yX7_init ∈ lw_tbl ∧ Cond.code yX7_init cX7_init 1 none ∈ lw_tbl := ⟨List.mem_of_getElem? (i := 86) (by decide +kernel), List.mem_of_getElem? (i := 87) (by decide +kernel), List.mem_of_getElem? (i := 88) (by decide +kernel)⟩
theorem wy_lC : yX7_init.cls ≠ "java/lang/invoke/MethodHandle" ∧ yX7_init.cls ≠ "java/lang/invoke/VarHandle" ∧ (parseMethodDescriptor yX7_init.desc).map (fun d => d.parameters.length) = some 0 := by decide +kernel
theorem dd_lM : ∀ j, j < 56 → (parseFieldDescriptor (TX8 j).2.2.1).map defaultValue = some (vp_V dfM j) := by decide +kernel
theorem wl_lM : Cond.classLink R_law 10 RX8 ∈ lw_tbl ∧ Cond.instantiable RX8 56 ∈ lw_tbl ∧ Cond.initialized RX8 ∈ lw_tbl := ⟨List.mem_of_getElem? (i := 783) (by decide +kernel), List.mem_of_getElem? (i := 784) (by decide +kernel), List.mem_of_getElem? (i := 81) (by decide +kernel)⟩
theorem wm_lM : Cond.methodLink R_law 12 yX8_init ∈ lw_tbl ∧ Cond.instanceMethod yX8_init ∈ lw_tbl ∧ Cond.code yX8_init cX8_init 2 none ∈ lw_tbl := ⟨List.mem_of_getElem? (i := 785) (by decide +kernel), List.mem_of_getElem? (i := 786) (by decide +kernel), List.mem_of_getElem? (i := 787) (by decide +kernel)⟩
theorem wy_lM : yX8_init.cls ≠ "java/lang/invoke/MethodHandle" ∧ yX8_init.cls ≠ "java/lang/invoke/VarHandle" ∧ (parseMethodDescriptor yX8_init.desc).map (fun d => d.parameters.length) = some 0 := by decide +kernel
set_option maxHeartbeats 4000000 in
set_option maxRecDepth 20000 in
theorem lw_body {p : Program} {e : Env} {s : State} {m : MethodId} {below : List Frame} {meth : Method} {c : Code} (l : Launch) {b L : Nat} {xs : Nat → Int32} {D : va_G} {cA : Bool → ClassId} {pC pM : Nat → Nat} {xC xM : ai_H} {H : Heap} {locs : List Loc} {ls : Array Slot} (hL : L ≤ 4) (C0 : lw_At p s m meth c b L xs) (St : lw_St s b D cA pC pM xC xM H locs ls) :
    W p l e room_1 s m #[Value.ref b] below meth c H locs 72 102720 (lw_Z below #[Value.ref b] s) (F0 m 18 ls []) := by
  obtain ⟨hx, hb, hr, hml, hown, hts, hX, hbl, hlocks, hgv⟩ := id C0
  obtain ⟨hPC, hPM, hdC, hdM, hAC, hAM, hgC, hgM, hS, hl, hK, hN⟩ := id St
  have hbA : ¬ (fun q : Nat => s.heap.size ≤ q) b := Nat.not_le.mpr hbl
  by_cases h4 : L = 4
  · subst h4
    refine lv_iload_n hx hb d_law_18 rfl (lv_at hl 0 rfl) ?_
    refine lv_aload_n hx hb d_law_19 rfl (lv_at hl 3 rfl) ?_
    refine va_slen hx hb hX hbl hbA hS d_law_20 ?_
    refine lv_iconst (v := 4) hx hb d_law_21 (by decide +kernel) ?_
    refine lv_isub hx hb d_law_22 ?_
    refine lv_icmp_gt (tgt := 690) hx hb d_law_23 (by decide) (fun h => absurd h (by decide +kernel)) (fun _ => ?_)
    refine lv_aload_n hx hb d_law_26 rfl (lv_at hl 3 rfl) ?_
    refine lv_iload_n hx hb d_law_27 rfl (lv_at hl 0 rfl) ?_
    refine va_sld hx hb hX hbl hbA hS lw_v0 d_law_28 ?_
    refine lv_bipush (v := 31) hx hb d_law_29 (by decide +kernel) ?_
    refine lv_iand hx hb d_law_31 ?_
    generalize (xs (0 : Int32).toNatClampNeg &&& 31) = v
    have hv : (v.toInt < 0 ∨ 17 < v.toInt) ∨ v = 0 ∨ v = 1 ∨ v = 2 ∨ v = 3 ∨ v = 4 ∨ v = 5 ∨ v = 6 ∨ v = 7 ∨ v = 8 ∨ v = 9 ∨ v = 10 ∨ v = 11 ∨ v = 12 ∨ v = 13 ∨ v = 14 ∨ v = 15 ∨ v = 16 ∨ v = 17 := by
      have hk : ∀ k : Int32, v.toInt = k.toInt → v = k := fun k h => Int32.toInt.inj h
      by_cases h1 : v.toInt < 0 ∨ 17 < v.toInt
      · exact Or.inl h1
      · right
        have hc : v.toInt = 0 ∨ v.toInt = 1 ∨ v.toInt = 2 ∨ v.toInt = 3 ∨ v.toInt = 4 ∨ v.toInt = 5 ∨ v.toInt = 6 ∨ v.toInt = 7 ∨ v.toInt = 8 ∨ v.toInt = 9 ∨ v.toInt = 10 ∨ v.toInt = 11 ∨ v.toInt = 12 ∨ v.toInt = 13 ∨ v.toInt = 14 ∨ v.toInt = 15 ∨ v.toInt = 16 ∨ v.toInt = 17 := by omega
        rcases hc with h | h | h | h | h | h | h | h | h | h | h | h | h | h | h | h | h | h
        · have h9 : v = 0 := hk 0 h
          simp [h9]
        · have h9 : v = 1 := hk 1 h
          simp [h9]
        · have h9 : v = 2 := hk 2 h
          simp [h9]
        · have h9 : v = 3 := hk 3 h
          simp [h9]
        · have h9 : v = 4 := hk 4 h
          simp [h9]
        · have h9 : v = 5 := hk 5 h
          simp [h9]
        · have h9 : v = 6 := hk 6 h
          simp [h9]
        · have h9 : v = 7 := hk 7 h
          simp [h9]
        · have h9 : v = 8 := hk 8 h
          simp [h9]
        · have h9 : v = 9 := hk 9 h
          simp [h9]
        · have h9 : v = 10 := hk 10 h
          simp [h9]
        · have h9 : v = 11 := hk 11 h
          simp [h9]
        · have h9 : v = 12 := hk 12 h
          simp [h9]
        · have h9 : v = 13 := hk 13 h
          simp [h9]
        · have h9 : v = 14 := hk 14 h
          simp [h9]
        · have h9 : v = 15 := hk 15 h
          simp [h9]
        · have h9 : v = 16 := hk 16 h
          simp [h9]
        · have h9 : v = 17 := hk 17 h
          simp [h9]
    rcases hv with hv | rfl | rfl | rfl | rfl | rfl | rfl | rfl | rfl | rfl | rfl | rfl | rfl | rfl | rfl | rfl | rfl | rfl | rfl
    · refine lv_tableOut (tgt := 684) hx hb d_law_32 hv (by decide) ?_
      exact lw_next rfl C0 hS hl
    · refine lv_tableIn (tgt := 120) (off := 88) hx hb d_law_32 (by decide +kernel) (by decide +kernel) (by decide +kernel) (by decide) ?_
      exact lw_c0 l C0 St
    · refine lv_tableIn (tgt := 163) (off := 131) hx hb d_law_32 (by decide +kernel) (by decide +kernel) (by decide +kernel) (by decide) ?_
      exact lw_c1 l C0 St
    · refine lv_tableIn (tgt := 196) (off := 164) hx hb d_law_32 (by decide +kernel) (by decide +kernel) (by decide +kernel) (by decide) ?_
      exact lw_c2 l C0 St
    · refine lv_tableIn (tgt := 239) (off := 207) hx hb d_law_32 (by decide +kernel) (by decide +kernel) (by decide +kernel) (by decide) ?_
      exact lw_c3 l C0 St
    · refine lv_tableIn (tgt := 272) (off := 240) hx hb d_law_32 (by decide +kernel) (by decide +kernel) (by decide +kernel) (by decide) ?_
      exact lw_c4 l C0 St
    · refine lv_tableIn (tgt := 305) (off := 273) hx hb d_law_32 (by decide +kernel) (by decide +kernel) (by decide +kernel) (by decide) ?_
      exact lw_c5 l C0 St
    · refine lv_tableIn (tgt := 338) (off := 306) hx hb d_law_32 (by decide +kernel) (by decide +kernel) (by decide +kernel) (by decide) ?_
      exact lw_c6 l C0 St
    · refine lv_tableIn (tgt := 361) (off := 329) hx hb d_law_32 (by decide +kernel) (by decide +kernel) (by decide +kernel) (by decide) ?_
      exact lw_c7 l C0 St
    · refine lv_tableIn (tgt := 394) (off := 362) hx hb d_law_32 (by decide +kernel) (by decide +kernel) (by decide +kernel) (by decide) ?_
      exact lw_c8 l C0 St
    · refine lv_tableIn (tgt := 427) (off := 395) hx hb d_law_32 (by decide +kernel) (by decide +kernel) (by decide +kernel) (by decide) ?_
      exact lw_c9 l C0 St
    · refine lv_tableIn (tgt := 450) (off := 418) hx hb d_law_32 (by decide +kernel) (by decide +kernel) (by decide +kernel) (by decide) ?_
      exact lw_c10 l C0 St
    · refine lv_tableIn (tgt := 473) (off := 441) hx hb d_law_32 (by decide +kernel) (by decide +kernel) (by decide +kernel) (by decide) ?_
      exact lw_c11 l C0 St
    · refine lv_tableIn (tgt := 506) (off := 474) hx hb d_law_32 (by decide +kernel) (by decide +kernel) (by decide +kernel) (by decide) ?_
      exact lw_c12 l C0 St
    · refine lv_tableIn (tgt := 539) (off := 507) hx hb d_law_32 (by decide +kernel) (by decide +kernel) (by decide +kernel) (by decide) ?_
      exact lw_c13 l C0 St
    · refine lv_tableIn (tgt := 602) (off := 570) hx hb d_law_32 (by decide +kernel) (by decide +kernel) (by decide +kernel) (by decide) ?_
      exact lw_c14 l C0 St
    · refine lv_tableIn (tgt := 615) (off := 583) hx hb d_law_32 (by decide +kernel) (by decide +kernel) (by decide +kernel) (by decide) ?_
      exact lw_c15 l C0 St
    · refine lv_tableIn (tgt := 638) (off := 606) hx hb d_law_32 (by decide +kernel) (by decide +kernel) (by decide +kernel) (by decide) ?_
      exact lw_c16 l C0 St
    · refine lv_tableIn (tgt := 661) (off := 629) hx hb d_law_32 (by decide +kernel) (by decide +kernel) (by decide +kernel) (by decide) ?_
      exact lw_c17 l C0 St
  · refine lw_exit C0 hS hl ?_
    have h3 : L = 0 ∨ L = 1 ∨ L = 2 ∨ L = 3 := by omega
    rcases h3 with rfl | rfl | rfl | rfl <;> decide +kernel
end
section
theorem lw_arr {s : State} {args : Array Value} {ty : FieldType} (h : (Cond.arrayClass ty).before args s = true) : ∃ cA : ClassId, ArrOfT s cA ty ∧ s.vm.findClass ("[" ++ ty.toString) = some cA := by
  obtain ⟨c, k, comp, h1, h2, h3⟩ := Cond.arrayClass_spec h
  exact ⟨c, fun n z => ⟨fun k h => (by cases h), k, h2, comp, h3⟩, h1⟩
set_option maxHeartbeats 4000000 in
set_option maxRecDepth 100000 in
theorem whole_start {p : Program} {e : Env} {s : State} {m : MethodId} {below : List Frame} {meth : Method} {c : Code} (l : Launch) {b L : Nat} {xs : Nat → Int32} (hL : L ≤ 4) (C0 : lw_At p s m meth c b L xs) : W p l e room_1 s m #[Value.ref b] below meth c s.heap [] 0 0 (lw_Z below #[Value.ref b] s) (entryFrame m ([Value.ref b] : List Value).toArray 4) := by
  obtain ⟨hx, hb, hr, hml, hown, hts, hX, hbl, hlocks, hgv⟩ := id C0
  have hA : ∀ q : Nat, s.heap.size ≤ q → (fun q : Nat => s.heap.size ≤ q) q := fun _ h => h
  have hN : ai_N s := by
    intro w hw hn
    have h1 := hts w hw
    cases w with
    | fieldLinkNest a i b n d h => exact va_Nw.of rfl h1
    | methodLinkNest a i x h => exact va_Nw.of rfl h1
    | _ => cases hn
  have hk : ∀ k : Nat, ∃ x : ClassId × (Nat → Nat), ∀ q : vw_C, ai_cl[k]? = some q → u_Kn s q.1 q.2.1 q.2.2 x.1 x.2 := by
    intro k
    match k with
    | 0 => obtain ⟨c0, i0, h0⟩ := u_known (C := RX0) (T := TX0) (N := 12) (n := 12) hts (fun w hw => by obtain ⟨ty0, t1, t2, t3⟩ := ai_cls 0 _ rfl; exact (t3 w hw).1) (hts _ (List.mem_of_getElem? (i := 93) (by decide +kernel))); exact ⟨(c0, i0), fun q hq => by cases hq; exact h0⟩
    | 1 => obtain ⟨c0, i0, h0⟩ := u_known (C := RX1) (T := TX1) (N := 2) (n := 2) hts (fun w hw => by obtain ⟨ty0, t1, t2, t3⟩ := ai_cls 1 _ rfl; exact (t3 w hw).1) (hts _ (List.mem_of_getElem? (i := 189) (by decide +kernel))); exact ⟨(c0, i0), fun q hq => by cases hq; exact h0⟩
    | 2 => obtain ⟨c0, i0, h0⟩ := u_known (C := RX2) (T := TX2) (N := 3) (n := 3) hts (fun w hw => by obtain ⟨ty0, t1, t2, t3⟩ := ai_cls 2 _ rfl; exact (t3 w hw).1) (hts _ (List.mem_of_getElem? (i := 202) (by decide +kernel))); exact ⟨(c0, i0), fun q hq => by cases hq; exact h0⟩
    | 3 => obtain ⟨c0, i0, h0⟩ := u_known (C := RX3) (T := TX3) (N := 5) (n := 5) hts (fun w hw => by obtain ⟨ty0, t1, t2, t3⟩ := ai_cls 3 _ rfl; exact (t3 w hw).1) (hts _ (List.mem_of_getElem? (i := 265) (by decide +kernel))); exact ⟨(c0, i0), fun q hq => by cases hq; exact h0⟩
    | 4 => obtain ⟨c0, i0, h0⟩ := u_known (C := RX4) (T := TX4) (N := 7) (n := 7) hts (fun w hw => by obtain ⟨ty0, t1, t2, t3⟩ := ai_cls 4 _ rfl; exact (t3 w hw).1) (hts _ (List.mem_of_getElem? (i := 237) (by decide +kernel))); exact ⟨(c0, i0), fun q hq => by cases hq; exact h0⟩
    | 5 => obtain ⟨c0, i0, h0⟩ := u_known (C := RX5) (T := TX5) (N := 4) (n := 4) hts (fun w hw => by obtain ⟨ty0, t1, t2, t3⟩ := ai_cls 5 _ rfl; exact (t3 w hw).1) (hts _ (List.mem_of_getElem? (i := 218) (by decide +kernel))); exact ⟨(c0, i0), fun q hq => by cases hq; exact h0⟩
    | 6 => obtain ⟨c0, i0, h0⟩ := u_known (C := RX6) (T := TX6) (N := 13) (n := 13) hts (fun w hw => by obtain ⟨ty0, t1, t2, t3⟩ := ai_cls 6 _ rfl; exact (t3 w hw).1) (hts _ (List.mem_of_getElem? (i := 138) (by decide +kernel))); exact ⟨(c0, i0), fun q hq => by cases hq; exact h0⟩
    | 7 => obtain ⟨c0, i0, h0⟩ := u_known (C := RX7) (T := TX7) (N := 9) (n := 9) hts (fun w hw => by obtain ⟨ty0, t1, t2, t3⟩ := ai_cls 7 _ rfl; exact (t3 w hw).1) (hts _ (List.mem_of_getElem? (i := 85) (by decide +kernel))); exact ⟨(c0, i0), fun q hq => by cases hq; exact h0⟩
    | 8 => obtain ⟨c0, i0, h0⟩ := u_known (C := RX8) (T := TX8) (N := 56) (n := 56) hts (fun w hw => by obtain ⟨ty0, t1, t2, t3⟩ := ai_cls 8 _ rfl; exact (t3 w hw).1) (hts _ (List.mem_of_getElem? (i := 784) (by decide +kernel))); exact ⟨(c0, i0), fun q hq => by cases hq; exact h0⟩
    | k + 9 => exact ⟨(0, fun _ => 0), fun q hq => by simp [ai_cl] at hq⟩
  obtain ⟨f, hf⟩ := Classical.axiomOfChoice hk
  obtain ⟨cI, aI, fI⟩ := lw_arr (hts _ ac_wI)
  obtain ⟨cZ, aZ, fZ⟩ := lw_arr (hts _ ac_wZ)
  obtain ⟨D, hDD⟩ : ∃ D : va_G, D = (fun k => (f k).1, fun k => (f k).2) := ⟨_, rfl⟩
  obtain ⟨cA, hcA0, hcA1⟩ : ∃ cA : Bool → ClassId, cA false = cI ∧ cA true = cZ := ⟨fun z => if z = true then cZ else cI, rfl, rfl⟩
  have hK : va_K D ai_cl [(cA false, .int), (cA true, .boolean)] s := by
    refine ⟨fun k q hq => by rw [hDD]; exact hf k q hq, fun k q hq => ?_⟩
    match k, hq with
    | 0, hq => cases hq; rw [hcA0]; exact ⟨aI, fI⟩
    | 1, hq => cases hq; rw [hcA1]; exact ⟨aZ, fZ⟩
    | k + 2, hq => simp at hq
  have hS : va_S (fun q : Nat => s.heap.size ≤ q) s.heap s.heap [] := va_S.rf
  have hP : va_P D ai_cl [] s.heap := fun k q h => by simp at h
  have hD : va_D (fun q : Nat => s.heap.size ≤ q) [] := ⟨fun i j p q h => by simp at h, fun k q h => by simp at h⟩
  have hl := lv_entry ([.ref b]) (n := 4) (Nat.le_of_ble_eq_true rfl)
  rw [lg_entry_eq]
  generalize (lg_sl ([.ref b]) ++ List.replicate (4 - (lg_sl ([.ref b])).length) Slot.unset).toArray = ls at hl ⊢
  have hl : lv_has ls 4 [(0, .ref b)] := hl
  refine ac_new1 (own := R_law) (cA := cA) (ci := 7) (N := 9) (C := RX7) (T := TX7) (df := dfC) (pc := 0) hx hb hown hts lw_in hK hA rfl dd_lC wl_lC.1 wl_lC.2.1 wl_lC.2.2 hP hD hS (by decide +kernel) (by decide +kernel) d_law_0 d_law_3 (fun qC H hP hD hS => ?_)
  refine ac_call1 (own := R_law) (y := yX7_init) (q := qC) (ci := 7) (df := dfC) (rs := []) (rest := [.ref qC]) (ix := 9) (pc := 4) hx hb hml hown hts lw_in hN hK hA (ct_C l D cA) wm_lC.1 wm_lC.2.1 wl_lC.2.2 wm_lC.2.2 rfl wy_lC (by decide +kernel) hl.1 (Nat.le_of_ble_eq_true rfl) hP hD hS (by decide +kernel) (by decide +kernel) d_law_4 (fun u H locs hu hP2 hD2 hS2 => ?_)
  obtain ⟨pC, xC⟩ := u
  obtain ⟨eC, -, gC_⟩ := hu
  have eC : pC 29 = qC := eC
  have gC_ : ab_h gC xC := gC_
  subst eC
  rw [List.nil_append] at hP2 hD2
  (try dsimp only at hP2 hD2)
  refine W.widen (k := 31) (n := 5978) (by decide +kernel) (by decide +kernel) ?_
  refine lv_astore_n (lv' := [(1, .ref (pC 29)), (0, .ref b)]) hx hb d_law_7 rfl hl (by decide) rfl (fun ls hl => ?_)
  refine ac_new1 (own := R_law) (cA := cA) (ci := 8) (N := 56) (C := RX8) (T := TX8) (df := dfM) (ws := ai_ws cA pC shC xC) (pc := 8) hx hb hown hts lw_in hK hA rfl dd_lM wl_lM.1 wl_lM.2.1 wl_lM.2.2 hP2 hD2 hS2 (by decide +kernel) (by decide +kernel) d_law_8 d_law_11 (fun qM H hP hD hS => ?_)
  refine W.widen (k := 32) (n := 6034) (by decide +kernel) (by decide +kernel) ?_
  refine ac_call1 (own := R_law) (y := yX8_init) (q := qM) (ci := 8) (df := dfM) (rs := []) (rest := [.ref qM]) (ix := 12) (pc := 12) hx hb hml hown hts lw_in hN hK hA (ct_M l D cA) wm_lM.1 wm_lM.2.1 wl_lM.2.2 wm_lM.2.2 rfl wy_lM (by decide +kernel) hl.1 (Nat.le_of_ble_eq_true rfl) hP hD hS (by decide +kernel) (by decide +kernel) d_law_12 (fun u H locs hu hP3 hD3 hS3 => ?_)
  obtain ⟨pM, xM⟩ := u
  obtain ⟨eM, -, gM_⟩ := hu
  have eM : pM 0 = qM := eM
  have gM_ : ab_h gM xM := gM_
  subst eM
  (try dsimp only at hP3 hD3)
  refine lv_astore_n (lv' := [(2, .ref (pM 0)), (1, .ref (pC 29)), (0, .ref b)]) hx hb d_law_15 rfl hl (by decide) rfl (fun ls hl => ?_)
  refine lv_iconst (v := 0) hx hb d_law_16 (by decide +kernel) ?_
  refine lv_istore_n (lv' := [(3, .int 0), (2, .ref (pM 0)), (1, .ref (pC 29)), (0, .ref b)]) hx hb d_law_17 rfl hl (by decide) rfl (fun ls hl => ?_)
  refine W.widen (k := 72) (n := 102720) (by decide +kernel) (by decide +kernel) ?_
  have hlC : (ai_ws cA pC shC xC).length = shC.length := by unfold ai_ws; rw [List.length_mapIdx]
  have inl : ∀ (k : Nat) (x : Nat × va_E), (ai_ws cA pC shC xC)[k]? = some x → (ai_ws cA pC shC xC ++ ai_ws cA pM shM xM)[k]? = some x := fun k x hx => by
    rw [List.getElem?_append_left (List.getElem?_eq_some_iff.mp hx).1]; exact hx
  have inr : ∀ (k : Nat) (x : Nat × va_E), (ai_ws cA pM shM xM)[k]? = some x → (ai_ws cA pC shC xC ++ ai_ws cA pM shM xM)[(ai_ws cA pC shC xC).length + k]? = some x := fun k x hx => by
    rw [List.getElem?_append_right (Nat.le_add_right _ _), Nat.add_sub_cancel_left]; exact hx
  have hPC : va_P D ai_cl (ai_ws cA pC shC xC) H := fun k x hx => hP3 k x (inl k x hx)
  have hPM : va_P D ai_cl (ai_ws cA pM shM xM) H := fun k x hx => hP3 _ x (inr k x hx)
  have hDC : va_D (fun q : Nat => s.heap.size ≤ q) (ai_ws cA pC shC xC) := ⟨fun i j x y hx hy e => hD3.1 i j x y (inl i x hx) (inl j y hy) e, fun k x hx => hD3.2 k x (inl k x hx)⟩
  have hDM : va_D (fun q : Nat => s.heap.size ≤ q) (ai_ws cA pM shM xM) := ⟨fun i j x y hx hy e => by have := hD3.1 _ _ x y (inr i x hx) (inr j y hy) e; omega, fun k x hx => hD3.2 _ x (inr k x hx)⟩
  refine lw_body l hL C0 (D := D) (cA := cA) (pC := pC) (pM := pM) (xC := xC) (xM := xM) ⟨hPC, fun H1 hk => ?_, (ac_dist hDC).1, (ac_dist hDM).1, (ac_dist hDC).2, (ac_dist hDM).2, gC_, gM_, hS3, hl, hK, hN⟩
  refine hPM.kept (fun k x hx => hk x.1 (hPM k x hx).lt (fun hz => ?_))
  obtain ⟨k9, h9, e9⟩ := hz
  have h10 : shC[k9]? = some shC[k9] := List.getElem?_eq_getElem h9
  have h11 := hD3.1 k9 _ _ x (inl k9 _ (ai_ws_at h10)) (inr k x hx) e9
  rw [hlC] at h11
  omega
end
section
set_option maxHeartbeats 4000000 in
theorem lw_walk (l : Launch) (b : Addr) (xs : List Int32) : MetFree l x (headSpec (Jvm.Cond.code x code maxLocals ret :: tables_1) room_1) (lw_P b xs) (fun _ _ _ _ _ => True) lw_Q := by
  refine MetFree.of_bodyS (code := code) (maxLocals := maxLocals) (ret := ret) (by decide) ?_ ?_
  · intro args s m h hn
    obtain ⟨meth, c, h1, h2, h3, h4, h5, h6, -, -⟩ := Cond.code_spec hn (atoms_spec (ws := Jvm.Cond.code x code maxLocals ret :: tables_1) h _ List.mem_cons_self)
    exact ⟨meth, c, h1, h2, h3, h4, h5, h6⟩
  · intro p e s m args below meth c s₁ B hml0 hP _
    obtain ⟨rfl, hx, hbd, hgv⟩ := hP
    obtain ⟨scr, harrAt, hlist, hof, hsmall⟩ := hx
    obtain ⟨hcb, hkn, -, -⟩ := State.arrayAt?_spec harrAt
    have hown : s.vm.findClass R_law = some m.cls := findClass_of_methodNamed B.named
    have hts0 : ∀ c ∈ (Jvm.Cond.code x code maxLocals ret :: tables_1), c.before #[Value.ref b] s = true := atoms_spec (ws := Jvm.Cond.code x code maxLocals ret :: tables_1) B.pre
    have hts : ∀ w ∈ lw_tbl, w.before #[Value.ref b] s = true := k2_hts_sels lw_privs (fun w hw => hts0 w (List.mem_cons_of_mem _ hw)) lw_privs_ok
    have hml : c.maxLocals = 4 := B.maxLocals_eq (hts0 _ List.mem_cons_self)
    have X₀ : Stand p l e room_1 s m #[Value.ref b] below meth c s₁ [] 0 0 := Stand.of_body B
    have hh0 : s₁.heap = s.heap := by rw [B.state]; rfl
    have hsz : scr.slots.size = xs.length := by rw [← Array.length_toList, hlist, List.length_map]
    have hval : ∀ j : Nat, j < xs.length → scr.slots[j]? = some (.int (xs.getD j 0)) := fun j hj => by
      rw [← Array.getElem?_toList, hlist]
      simp [hj]
    have hbl : b < s.heap.size := (Array.getElem?_eq_some_iff.mp hcb).1
    have hX : va_X b xs.length (fun j => xs.getD j 0) s s.heap := ⟨scr, hcb, hof, hkn, hsz, hval⟩
    have K : W p l e room_1 s m #[Value.ref b] below meth c s₁.heap [] 0 0 (lw_Z below #[Value.ref b] s) (entryFrame m ([Value.ref b] : List Value).toArray 4) := by
      rw [hh0]
      exact whole_start l hbd ⟨B.exec, B.bytes, B.returns, hml, hown, hts, hX, hbl, B.notSynchronized, hgv⟩
    obtain ⟨t, a1, o, b1, b2, b3⟩ := K s₁ rfl X₀
    exact ⟨t, o, a1, b1, b2, b3⟩
theorem lw_pre_spec {args : Array Value} {s : State} (h : (Jvm.Cond.and given_1 narrow_1).before args s = true) (hr : rest_1_c.before args s = true) : ∃ (b : Addr) (xs : List Int32), lw_P b xs args s := by
  have hs := flat_of_before _ h
  have hq := flat_of_before _ hr
  have hc : (Cond.count 1).before args s = true := hs _ (by decide +kernel)
  have harr : (Cond.arrayOf (.arg 0) .int).before args s = true := hs _ (by decide +kernel)
  have hle : (Cond.le (.length (.arg 0)) (.int 4)).before args s = true := hs _ (by decide +kernel)
  have hlen : (Cond.isInt (.length (.arg 0))).before args s = true := hq _ (by decide +kernel)
  have hall : (Cond.all (.arg 0) (.isInt (.elem (.arg 0) (.index 0)))).before args s = true := hq _ (by decide +kernel)
  obtain ⟨b, xs, hb, hx⟩ := State.ints_of_pre rfl harr hlen hall
  have hsm : xs.length < 2 ^ 31 := hx.choose_spec.2.2.2
  have hev : (Term.length (.arg 0)).eval args s none [] s = some (.int xs.length.toInt32) := hx.length_eval hb
  have hv := Cond.le_ints hev (show (Term.int 4).eval args s none [] s = some (.int 4) from rfl)
  have hd : xs.length.toInt32 ≤ 4 := by
    simpa [Cond.before, Cond.holds, hv] using hle
  have hN : xs.length ≤ 4 := (Int32.ofNat_le_ofNat hsm (by decide)).mp (show Int32.ofNat xs.length ≤ Int32.ofNat 4 from hd)
  exact ⟨b, xs, Cond.one_arg hc (show args[0]? = some (.ref b) from hb), hx, hN, h⟩
theorem lw_comes (l : Launch) : Comes l x (Jvm.Cond.code x code maxLocals ret :: tables_1) room_1 (fun tb e args s => Calls_1 tb e args s ∧ rest_1 tb e args s ∧ Pre_1 tb e args s)
    (fun _ _ args s o t => lw_Q args s o t) := by
  intro p e ha hc hk s m args below hf hfit hheap happ hpre
  obtain ⟨b, xs, hP⟩ := lw_pre_spec hpre.2.2 hpre.2.1
  obtain ⟨k, o, h1, h2, h3, hQ⟩ := lw_walk l b xs p e ha hc hk s m args below hf ((Spec.applies_iff_loose hf).mp happ).1 hP trivial
  exact ⟨k, o, h1, h2, h3, hQ⟩
theorem lw_frame {s t : State} {o : Outcome} {args : Array Value} (h : Framed s o t [] 600000 7302250) :
    Framed s o t (fieldLocs frame_1_writes args s ++ arrayLocs frame_1_arrays args s ++ staticLocs frame_1_statics s) 600000 7302250 := h
theorem lw_limb (L : Cond) (hL : ∀ (args : Array Value) (s t : State), L.after args s (.returned (some (.int 1))) t = true) :
    ArmFor flags0 classFile x code maxLocals ret World_1 tables_1 room_1 Calls_1 rest_1 Pre_1
      (fun tb e a s o t => postC L tb e a s o t ∧ Framed s o t (fieldLocs frame_1_writes a s ++ arrayLocs frame_1_arrays a s ++ staticLocs frame_1_statics s) 600000 7302250) := by
  intro l _ _ _ p e ha hc hk s m args below hf hfit hheap happ hpre
  obtain ⟨k, o, h1, h2, h3, rfl, hF⟩ := lw_comes l p e ha hc hk s m args below hf hfit hheap happ hpre
  exact ⟨k, _, h1, h2, h3, hL args s _, lw_frame hF⟩
theorem i_vc : Claimed_1_1 ∧ Claimed_1_2 := ⟨lw_limb limb_1_1 (fun args s t => by simp [limb_1_1, Cond.after, Cond.holds, Cond.value]), lw_limb limb_1_2 (fun args s t => Cond.after_iff.mpr (by
  first | (rw [show limb_1_2 = Cond.eq .result (.int 1) from rfl, Cond.eq_ints (x := 1) (y := 1) rfl rfl]; simp; done) | (simp [limb_1_2, Cond.value, Term.eval]; done)))⟩
end
