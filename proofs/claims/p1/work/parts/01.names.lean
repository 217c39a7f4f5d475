-- ===== PART A: goes FIRST, ahead of the names: the tables' words, and 'selects' of the private methods out of them =====
/-- a private method of a class that the tables say can be made, by its rows of tables_1 -/
def lw_okq (q : MethodName × Nat) : Prop := (q.1.cls ≠ "java/lang/invoke/MethodHandle" ∧ q.1.cls ≠ "java/lang/invoke/VarHandle") ∧ Cond.instantiable q.1.cls q.2 ∈ tables_1 ∧ Cond.privateMethod q.1 ∈ tables_1 ∧ Cond.instanceMethod q.1 ∈ tables_1
theorem lw_p0 : lw_okq (⟨"TypeForms2$Types", "setPlain", "(IIII)V"⟩, 13) := ⟨⟨by decide +kernel, by decide +kernel⟩, List.mem_of_getElem? (i := 66) (by decide +kernel), List.mem_of_getElem? (i := 72) (by decide +kernel), List.mem_of_getElem? (i := 73) (by decide +kernel)⟩
theorem lw_p1 : lw_okq (⟨"TypeForms2$Declarations", "hasPlace", "(II)Z"⟩, 12) := ⟨⟨by decide +kernel, by decide +kernel⟩, List.mem_of_getElem? (i := 21) (by decide +kernel), List.mem_of_getElem? (i := 280) (by decide +kernel), List.mem_of_getElem? (i := 281) (by decide +kernel)⟩
theorem lw_p2 : lw_okq (⟨"TypeForms2$Rules", "isAsTold", "(II)Z"⟩, 4) := ⟨⟨by decide +kernel, by decide +kernel⟩, List.mem_of_getElem? (i := 146) (by decide +kernel), List.mem_of_getElem? (i := 304) (by decide +kernel), List.mem_of_getElem? (i := 305) (by decide +kernel)⟩
theorem lw_p3 : lw_okq (⟨"TypeForms2$Rules", "comesTo", "(II)Z"⟩, 4) := ⟨⟨by decide +kernel, by decide +kernel⟩, List.mem_of_getElem? (i := 146) (by decide +kernel), List.mem_of_getElem? (i := 340) (by decide +kernel), List.mem_of_getElem? (i := 341) (by decide +kernel)⟩
theorem lw_p4 : lw_okq (⟨"TypeForms2$Declarations", "findAncestors", "()V"⟩, 12) := ⟨⟨by decide +kernel, by decide +kernel⟩, List.mem_of_getElem? (i := 21) (by decide +kernel), List.mem_of_getElem? (i := 374) (by decide +kernel), List.mem_of_getElem? (i := 375) (by decide +kernel)⟩
theorem lw_p5 : lw_okq (⟨"TypeForms2$Rules", "ofMadeShape", "(IIIII)I"⟩, 4) := ⟨⟨by decide +kernel, by decide +kernel⟩, List.mem_of_getElem? (i := 146) (by decide +kernel), List.mem_of_getElem? (i := 402) (by decide +kernel), List.mem_of_getElem? (i := 403) (by decide +kernel)⟩
theorem lw_p6 : lw_okq (⟨"TypeForms2$Forms", "putIn", "(III)I"⟩, 2) := ⟨⟨by decide +kernel, by decide +kernel⟩, List.mem_of_getElem? (i := 117) (by decide +kernel), List.mem_of_getElem? (i := 430) (by decide +kernel), List.mem_of_getElem? (i := 431) (by decide +kernel)⟩
theorem lw_p7 : lw_okq (⟨"TypeForms2$Forms", "tellerOf", "(II)I"⟩, 2) := ⟨⟨by decide +kernel, by decide +kernel⟩, List.mem_of_getElem? (i := 117) (by decide +kernel), List.mem_of_getElem? (i := 453) (by decide +kernel), List.mem_of_getElem? (i := 454) (by decide +kernel)⟩
theorem lw_p8 : lw_okq (⟨"TypeForms2$Forms", "putInArgument", "(III)I"⟩, 2) := ⟨⟨by decide +kernel, by decide +kernel⟩, List.mem_of_getElem? (i := 117) (by decide +kernel), List.mem_of_getElem? (i := 462) (by decide +kernel), List.mem_of_getElem? (i := 463) (by decide +kernel)⟩
theorem lw_p9 : lw_okq (⟨"TypeForms2$Order", "ask", "(III)I"⟩, 3) := ⟨⟨by decide +kernel, by decide +kernel⟩, List.mem_of_getElem? (i := 130) (by decide +kernel), List.mem_of_getElem? (i := 470) (by decide +kernel), List.mem_of_getElem? (i := 471) (by decide +kernel)⟩
theorem lw_p10 : lw_okq (⟨"TypeForms2$Order", "askBounds", "(III)I"⟩, 3) := ⟨⟨by decide +kernel, by decide +kernel⟩, List.mem_of_getElem? (i := 130) (by decide +kernel), List.mem_of_getElem? (i := 478) (by decide +kernel), List.mem_of_getElem? (i := 479) (by decide +kernel)⟩
theorem lw_p11 : lw_okq (⟨"TypeForms2$Order", "askElements", "(III)I"⟩, 3) := ⟨⟨by decide +kernel, by decide +kernel⟩, List.mem_of_getElem? (i := 130) (by decide +kernel), List.mem_of_getElem? (i := 488) (by decide +kernel), List.mem_of_getElem? (i := 489) (by decide +kernel)⟩
theorem lw_p12 : lw_okq (⟨"TypeForms2$Order", "askClasses", "(III)I"⟩, 3) := ⟨⟨by decide +kernel, by decide +kernel⟩, List.mem_of_getElem? (i := 130) (by decide +kernel), List.mem_of_getElem? (i := 492) (by decide +kernel), List.mem_of_getElem? (i := 493) (by decide +kernel)⟩
theorem lw_p13 : lw_okq (⟨"TypeForms2$Order", "askSame", "(III)I"⟩, 3) := ⟨⟨by decide +kernel, by decide +kernel⟩, List.mem_of_getElem? (i := 130) (by decide +kernel), List.mem_of_getElem? (i := 505) (by decide +kernel), List.mem_of_getElem? (i := 506) (by decide +kernel)⟩
theorem lw_p14 : lw_okq (⟨"TypeForms2$Order", "askIn", "(III)I"⟩, 3) := ⟨⟨by decide +kernel, by decide +kernel⟩, List.mem_of_getElem? (i := 130) (by decide +kernel), List.mem_of_getElem? (i := 513) (by decide +kernel), List.mem_of_getElem? (i := 514) (by decide +kernel)⟩
theorem lw_p15 : lw_okq (⟨"TypeForms2$Types", "keep", "(II)I"⟩, 13) := ⟨⟨by decide +kernel, by decide +kernel⟩, List.mem_of_getElem? (i := 66) (by decide +kernel), List.mem_of_getElem? (i := 532) (by decide +kernel), List.mem_of_getElem? (i := 533) (by decide +kernel)⟩
def lw_privs_1 : List (MethodName × Nat) := [(⟨"TypeForms2$Types", "setPlain", "(IIII)V"⟩, 13), (⟨"TypeForms2$Declarations", "hasPlace", "(II)Z"⟩, 12), (⟨"TypeForms2$Rules", "isAsTold", "(II)Z"⟩, 4), (⟨"TypeForms2$Rules", "comesTo", "(II)Z"⟩, 4), (⟨"TypeForms2$Declarations", "findAncestors", "()V"⟩, 12), (⟨"TypeForms2$Rules", "ofMadeShape", "(IIIII)I"⟩, 4), (⟨"TypeForms2$Forms", "putIn", "(III)I"⟩, 2), (⟨"TypeForms2$Forms", "tellerOf", "(II)I"⟩, 2), (⟨"TypeForms2$Forms", "putInArgument", "(III)I"⟩, 2), (⟨"TypeForms2$Order", "ask", "(III)I"⟩, 3), (⟨"TypeForms2$Order", "askBounds", "(III)I"⟩, 3), (⟨"TypeForms2$Order", "askElements", "(III)I"⟩, 3), (⟨"TypeForms2$Order", "askClasses", "(III)I"⟩, 3), (⟨"TypeForms2$Order", "askSame", "(III)I"⟩, 3), (⟨"TypeForms2$Order", "askIn", "(III)I"⟩, 3), (⟨"TypeForms2$Types", "keep", "(II)I"⟩, 13)]
theorem lw_r1 : ∀ q ∈ lw_privs_1, lw_okq q := List.forall_mem_cons.mpr ⟨lw_p0, List.forall_mem_cons.mpr ⟨lw_p1, List.forall_mem_cons.mpr ⟨lw_p2, List.forall_mem_cons.mpr ⟨lw_p3, List.forall_mem_cons.mpr ⟨lw_p4, List.forall_mem_cons.mpr ⟨lw_p5, List.forall_mem_cons.mpr ⟨lw_p6, List.forall_mem_cons.mpr ⟨lw_p7, List.forall_mem_cons.mpr ⟨lw_p8, List.forall_mem_cons.mpr ⟨lw_p9, List.forall_mem_cons.mpr ⟨lw_p10, List.forall_mem_cons.mpr ⟨lw_p11, List.forall_mem_cons.mpr ⟨lw_p12, List.forall_mem_cons.mpr ⟨lw_p13, List.forall_mem_cons.mpr ⟨lw_p14, List.forall_mem_cons.mpr ⟨lw_p15, fun _ h => absurd h List.not_mem_nil⟩⟩⟩⟩⟩⟩⟩⟩⟩⟩⟩⟩⟩⟩⟩⟩
theorem lw_p16 : lw_okq (⟨"TypeForms2$Types", "keepArgument", "(II)I"⟩, 13) := ⟨⟨by decide +kernel, by decide +kernel⟩, List.mem_of_getElem? (i := 66) (by decide +kernel), List.mem_of_getElem? (i := 536) (by decide +kernel), List.mem_of_getElem? (i := 537) (by decide +kernel)⟩
theorem lw_p17 : lw_okq (⟨"TypeForms2$Reader", "typeText", "(I)I"⟩, 7) := ⟨⟨by decide +kernel, by decide +kernel⟩, List.mem_of_getElem? (i := 165) (by decide +kernel), List.mem_of_getElem? (i := 611) (by decide +kernel), List.mem_of_getElem? (i := 612) (by decide +kernel)⟩
theorem lw_p18 : lw_okq (⟨"TypeForms2$Reader", "baseText", "(I)I"⟩, 7) := ⟨⟨by decide +kernel, by decide +kernel⟩, List.mem_of_getElem? (i := 165) (by decide +kernel), List.mem_of_getElem? (i := 615) (by decide +kernel), List.mem_of_getElem? (i := 616) (by decide +kernel)⟩
theorem lw_p19 : lw_okq (⟨"TypeForms2$Reader", "next", "()I"⟩, 7) := ⟨⟨by decide +kernel, by decide +kernel⟩, List.mem_of_getElem? (i := 165) (by decide +kernel), List.mem_of_getElem? (i := 619) (by decide +kernel), List.mem_of_getElem? (i := 620) (by decide +kernel)⟩
theorem lw_p20 : lw_okq (⟨"TypeForms2$Reader", "variableText", "(I)I"⟩, 7) := ⟨⟨by decide +kernel, by decide +kernel⟩, List.mem_of_getElem? (i := 165) (by decide +kernel), List.mem_of_getElem? (i := 623) (by decide +kernel), List.mem_of_getElem? (i := 624) (by decide +kernel)⟩
theorem lw_p21 : lw_okq (⟨"TypeForms2$Reader", "faultAt", "(I)I"⟩, 7) := ⟨⟨by decide +kernel, by decide +kernel⟩, List.mem_of_getElem? (i := 165) (by decide +kernel), List.mem_of_getElem? (i := 628) (by decide +kernel), List.mem_of_getElem? (i := 629) (by decide +kernel)⟩
theorem lw_p22 : lw_okq (⟨"TypeForms2$Reader", "partText", "(II)I"⟩, 7) := ⟨⟨by decide +kernel, by decide +kernel⟩, List.mem_of_getElem? (i := 165) (by decide +kernel), List.mem_of_getElem? (i := 633) (by decide +kernel), List.mem_of_getElem? (i := 634) (by decide +kernel)⟩
theorem lw_p23 : lw_okq (⟨"TypeForms2$Reader", "argumentText", "(I)I"⟩, 7) := ⟨⟨by decide +kernel, by decide +kernel⟩, List.mem_of_getElem? (i := 165) (by decide +kernel), List.mem_of_getElem? (i := 637) (by decide +kernel), List.mem_of_getElem? (i := 638) (by decide +kernel)⟩
theorem lw_p24 : lw_okq (⟨"TypeForms2$Printer", "writeType", "(II)V"⟩, 5) := ⟨⟨by decide +kernel, by decide +kernel⟩, List.mem_of_getElem? (i := 193) (by decide +kernel), List.mem_of_getElem? (i := 659) (by decide +kernel), List.mem_of_getElem? (i := 660) (by decide +kernel)⟩
theorem lw_p25 : lw_okq (⟨"TypeForms2$Printer", "write", "(I)V"⟩, 5) := ⟨⟨by decide +kernel, by decide +kernel⟩, List.mem_of_getElem? (i := 193) (by decide +kernel), List.mem_of_getElem? (i := 664) (by decide +kernel), List.mem_of_getElem? (i := 665) (by decide +kernel)⟩
theorem lw_p26 : lw_okq (⟨"TypeForms2$Printer", "writeArguments", "(II)V"⟩, 5) := ⟨⟨by decide +kernel, by decide +kernel⟩, List.mem_of_getElem? (i := 193) (by decide +kernel), List.mem_of_getElem? (i := 672) (by decide +kernel), List.mem_of_getElem? (i := 673) (by decide +kernel)⟩
theorem lw_p27 : lw_okq (⟨"TypeForms2Model", "isDecl", "(I)Z"⟩, 56) := ⟨⟨by decide +kernel, by decide +kernel⟩, List.mem_of_getElem? (i := 712) (by decide +kernel), List.mem_of_getElem? (i := 891) (by decide +kernel), List.mem_of_getElem? (i := 892) (by decide +kernel)⟩
theorem lw_p28 : lw_okq (⟨"TypeForms2Model", "write", "(IIIIII)V"⟩, 56) := ⟨⟨by decide +kernel, by decide +kernel⟩, List.mem_of_getElem? (i := 712) (by decide +kernel), List.mem_of_getElem? (i := 898) (by decide +kernel), List.mem_of_getElem? (i := 899) (by decide +kernel)⟩
theorem lw_p29 : lw_okq (⟨"TypeForms2Model", "type", "(IIIII)I"⟩, 56) := ⟨⟨by decide +kernel, by decide +kernel⟩, List.mem_of_getElem? (i := 712) (by decide +kernel), List.mem_of_getElem? (i := 906) (by decide +kernel), List.mem_of_getElem? (i := 907) (by decide +kernel)⟩
theorem lw_p30 : lw_okq (⟨"TypeForms2Model", "isSame", "(IIIIII)Z"⟩, 56) := ⟨⟨by decide +kernel, by decide +kernel⟩, List.mem_of_getElem? (i := 712) (by decide +kernel), List.mem_of_getElem? (i := 910) (by decide +kernel), List.mem_of_getElem? (i := 911) (by decide +kernel)⟩
theorem lw_p31 : lw_okq (⟨"TypeForms2Model", "isNode", "(I)Z"⟩, 56) := ⟨⟨by decide +kernel, by decide +kernel⟩, List.mem_of_getElem? (i := 712) (by decide +kernel), List.mem_of_getElem? (i := 918) (by decide +kernel), List.mem_of_getElem? (i := 919) (by decide +kernel)⟩
def lw_privs_2 : List (MethodName × Nat) := [(⟨"TypeForms2$Types", "keepArgument", "(II)I"⟩, 13), (⟨"TypeForms2$Reader", "typeText", "(I)I"⟩, 7), (⟨"TypeForms2$Reader", "baseText", "(I)I"⟩, 7), (⟨"TypeForms2$Reader", "next", "()I"⟩, 7), (⟨"TypeForms2$Reader", "variableText", "(I)I"⟩, 7), (⟨"TypeForms2$Reader", "faultAt", "(I)I"⟩, 7), (⟨"TypeForms2$Reader", "partText", "(II)I"⟩, 7), (⟨"TypeForms2$Reader", "argumentText", "(I)I"⟩, 7), (⟨"TypeForms2$Printer", "writeType", "(II)V"⟩, 5), (⟨"TypeForms2$Printer", "write", "(I)V"⟩, 5), (⟨"TypeForms2$Printer", "writeArguments", "(II)V"⟩, 5), (⟨"TypeForms2Model", "isDecl", "(I)Z"⟩, 56), (⟨"TypeForms2Model", "write", "(IIIIII)V"⟩, 56), (⟨"TypeForms2Model", "type", "(IIIII)I"⟩, 56), (⟨"TypeForms2Model", "isSame", "(IIIIII)Z"⟩, 56), (⟨"TypeForms2Model", "isNode", "(I)Z"⟩, 56)]
theorem lw_r2 : ∀ q ∈ lw_privs_2, lw_okq q := List.forall_mem_cons.mpr ⟨lw_p16, List.forall_mem_cons.mpr ⟨lw_p17, List.forall_mem_cons.mpr ⟨lw_p18, List.forall_mem_cons.mpr ⟨lw_p19, List.forall_mem_cons.mpr ⟨lw_p20, List.forall_mem_cons.mpr ⟨lw_p21, List.forall_mem_cons.mpr ⟨lw_p22, List.forall_mem_cons.mpr ⟨lw_p23, List.forall_mem_cons.mpr ⟨lw_p24, List.forall_mem_cons.mpr ⟨lw_p25, List.forall_mem_cons.mpr ⟨lw_p26, List.forall_mem_cons.mpr ⟨lw_p27, List.forall_mem_cons.mpr ⟨lw_p28, List.forall_mem_cons.mpr ⟨lw_p29, List.forall_mem_cons.mpr ⟨lw_p30, List.forall_mem_cons.mpr ⟨lw_p31, fun _ h => absurd h List.not_mem_nil⟩⟩⟩⟩⟩⟩⟩⟩⟩⟩⟩⟩⟩⟩⟩⟩
theorem lw_p32 : lw_okq (⟨"TypeForms2Model", "isTellable", "(II)Z"⟩, 56) := ⟨⟨by decide +kernel, by decide +kernel⟩, List.mem_of_getElem? (i := 712) (by decide +kernel), List.mem_of_getElem? (i := 922) (by decide +kernel), List.mem_of_getElem? (i := 923) (by decide +kernel)⟩
theorem lw_p33 : lw_okq (⟨"TypeForms2Model", "hasVariable", "(I)Z"⟩, 56) := ⟨⟨by decide +kernel, by decide +kernel⟩, List.mem_of_getElem? (i := 712) (by decide +kernel), List.mem_of_getElem? (i := 926) (by decide +kernel), List.mem_of_getElem? (i := 927) (by decide +kernel)⟩
theorem lw_p34 : lw_okq (⟨"TypeForms2Model", "reach", "(I)V"⟩, 56) := ⟨⟨by decide +kernel, by decide +kernel⟩, List.mem_of_getElem? (i := 712) (by decide +kernel), List.mem_of_getElem? (i := 930) (by decide +kernel), List.mem_of_getElem? (i := 931) (by decide +kernel)⟩
theorem lw_p35 : lw_okq (⟨"TypeForms2Model", "lower", "(I)I"⟩, 56) := ⟨⟨by decide +kernel, by decide +kernel⟩, List.mem_of_getElem? (i := 712) (by decide +kernel), List.mem_of_getElem? (i := 934) (by decide +kernel), List.mem_of_getElem? (i := 935) (by decide +kernel)⟩
theorem lw_p36 : lw_okq (⟨"TypeForms2Model", "leadsTo", "(II)Z"⟩, 56) := ⟨⟨by decide +kernel, by decide +kernel⟩, List.mem_of_getElem? (i := 712) (by decide +kernel), List.mem_of_getElem? (i := 938) (by decide +kernel), List.mem_of_getElem? (i := 939) (by decide +kernel)⟩
theorem lw_p37 : lw_okq (⟨"TypeForms2Model", "isPlain", "(I)Z"⟩, 56) := ⟨⟨by decide +kernel, by decide +kernel⟩, List.mem_of_getElem? (i := 712) (by decide +kernel), List.mem_of_getElem? (i := 950) (by decide +kernel), List.mem_of_getElem? (i := 951) (by decide +kernel)⟩
theorem lw_p38 : lw_okq (⟨"TypeForms2Model", "wrong", "(III[I[II)I"⟩, 56) := ⟨⟨by decide +kernel, by decide +kernel⟩, List.mem_of_getElem? (i := 712) (by decide +kernel), List.mem_of_getElem? (i := 958) (by decide +kernel), List.mem_of_getElem? (i := 959) (by decide +kernel)⟩
theorem lw_p39 : lw_okq (⟨"TypeForms2Model", "isRaw", "(I)Z"⟩, 56) := ⟨⟨by decide +kernel, by decide +kernel⟩, List.mem_of_getElem? (i := 712) (by decide +kernel), List.mem_of_getElem? (i := 962) (by decide +kernel), List.mem_of_getElem? (i := 963) (by decide +kernel)⟩
theorem lw_p40 : lw_okq (⟨"TypeForms2Model", "putIn", "(II)I"⟩, 56) := ⟨⟨by decide +kernel, by decide +kernel⟩, List.mem_of_getElem? (i := 712) (by decide +kernel), List.mem_of_getElem? (i := 966) (by decide +kernel), List.mem_of_getElem? (i := 967) (by decide +kernel)⟩
theorem lw_p41 : lw_okq (⟨"TypeForms2Model", "erasedOf", "(I)I"⟩, 56) := ⟨⟨by decide +kernel, by decide +kernel⟩, List.mem_of_getElem? (i := 712) (by decide +kernel), List.mem_of_getElem? (i := 970) (by decide +kernel), List.mem_of_getElem? (i := 971) (by decide +kernel)⟩
theorem lw_p42 : lw_okq (⟨"TypeForms2Model", "bare", "(II)I"⟩, 56) := ⟨⟨by decide +kernel, by decide +kernel⟩, List.mem_of_getElem? (i := 712) (by decide +kernel), List.mem_of_getElem? (i := 974) (by decide +kernel), List.mem_of_getElem? (i := 975) (by decide +kernel)⟩
theorem lw_p43 : lw_okq (⟨"TypeForms2Model", "arrayOf", "(I)I"⟩, 56) := ⟨⟨by decide +kernel, by decide +kernel⟩, List.mem_of_getElem? (i := 712) (by decide +kernel), List.mem_of_getElem? (i := 978) (by decide +kernel), List.mem_of_getElem? (i := 979) (by decide +kernel)⟩
theorem lw_p44 : lw_okq (⟨"TypeForms2Model", "higher", "(I)I"⟩, 56) := ⟨⟨by decide +kernel, by decide +kernel⟩, List.mem_of_getElem? (i := 712) (by decide +kernel), List.mem_of_getElem? (i := 982) (by decide +kernel), List.mem_of_getElem? (i := 983) (by decide +kernel)⟩
theorem lw_p45 : lw_okq (⟨"TypeForms2Model", "putPart", "(II)V"⟩, 56) := ⟨⟨by decide +kernel, by decide +kernel⟩, List.mem_of_getElem? (i := 712) (by decide +kernel), List.mem_of_getElem? (i := 986) (by decide +kernel), List.mem_of_getElem? (i := 987) (by decide +kernel)⟩
theorem lw_p46 : lw_okq (⟨"TypeForms2Model", "putVariable", "(II)I"⟩, 56) := ⟨⟨by decide +kernel, by decide +kernel⟩, List.mem_of_getElem? (i := 712) (by decide +kernel), List.mem_of_getElem? (i := 990) (by decide +kernel), List.mem_of_getElem? (i := 991) (by decide +kernel)⟩
theorem lw_p47 : lw_okq (⟨"TypeForms2Model", "isTold", "(II)Z"⟩, 56) := ⟨⟨by decide +kernel, by decide +kernel⟩, List.mem_of_getElem? (i := 712) (by decide +kernel), List.mem_of_getElem? (i := 994) (by decide +kernel), List.mem_of_getElem? (i := 995) (by decide +kernel)⟩
def lw_privs_3 : List (MethodName × Nat) := [(⟨"TypeForms2Model", "isTellable", "(II)Z"⟩, 56), (⟨"TypeForms2Model", "hasVariable", "(I)Z"⟩, 56), (⟨"TypeForms2Model", "reach", "(I)V"⟩, 56), (⟨"TypeForms2Model", "lower", "(I)I"⟩, 56), (⟨"TypeForms2Model", "leadsTo", "(II)Z"⟩, 56), (⟨"TypeForms2Model", "isPlain", "(I)Z"⟩, 56), (⟨"TypeForms2Model", "wrong", "(III[I[II)I"⟩, 56), (⟨"TypeForms2Model", "isRaw", "(I)Z"⟩, 56), (⟨"TypeForms2Model", "putIn", "(II)I"⟩, 56), (⟨"TypeForms2Model", "erasedOf", "(I)I"⟩, 56), (⟨"TypeForms2Model", "bare", "(II)I"⟩, 56), (⟨"TypeForms2Model", "arrayOf", "(I)I"⟩, 56), (⟨"TypeForms2Model", "higher", "(I)I"⟩, 56), (⟨"TypeForms2Model", "putPart", "(II)V"⟩, 56), (⟨"TypeForms2Model", "putVariable", "(II)I"⟩, 56), (⟨"TypeForms2Model", "isTold", "(II)Z"⟩, 56)]
theorem lw_r3 : ∀ q ∈ lw_privs_3, lw_okq q := List.forall_mem_cons.mpr ⟨lw_p32, List.forall_mem_cons.mpr ⟨lw_p33, List.forall_mem_cons.mpr ⟨lw_p34, List.forall_mem_cons.mpr ⟨lw_p35, List.forall_mem_cons.mpr ⟨lw_p36, List.forall_mem_cons.mpr ⟨lw_p37, List.forall_mem_cons.mpr ⟨lw_p38, List.forall_mem_cons.mpr ⟨lw_p39, List.forall_mem_cons.mpr ⟨lw_p40, List.forall_mem_cons.mpr ⟨lw_p41, List.forall_mem_cons.mpr ⟨lw_p42, List.forall_mem_cons.mpr ⟨lw_p43, List.forall_mem_cons.mpr ⟨lw_p44, List.forall_mem_cons.mpr ⟨lw_p45, List.forall_mem_cons.mpr ⟨lw_p46, List.forall_mem_cons.mpr ⟨lw_p47, fun _ h => absurd h List.not_mem_nil⟩⟩⟩⟩⟩⟩⟩⟩⟩⟩⟩⟩⟩⟩⟩⟩
theorem lw_p48 : lw_okq (⟨"TypeForms2Model", "putArgument", "(IIII)V"⟩, 56) := ⟨⟨by decide +kernel, by decide +kernel⟩, List.mem_of_getElem? (i := 712) (by decide +kernel), List.mem_of_getElem? (i := 998) (by decide +kernel), List.mem_of_getElem? (i := 999) (by decide +kernel)⟩
theorem lw_p49 : lw_okq (⟨"TypeForms2Model", "belowOf", "(II)I"⟩, 56) := ⟨⟨by decide +kernel, by decide +kernel⟩, List.mem_of_getElem? (i := 712) (by decide +kernel), List.mem_of_getElem? (i := 1002) (by decide +kernel), List.mem_of_getElem? (i := 1003) (by decide +kernel)⟩
theorem lw_p50 : lw_okq (⟨"TypeForms2Model", "atOnce", "(II)I"⟩, 56) := ⟨⟨by decide +kernel, by decide +kernel⟩, List.mem_of_getElem? (i := 712) (by decide +kernel), List.mem_of_getElem? (i := 1006) (by decide +kernel), List.mem_of_getElem? (i := 1007) (by decide +kernel)⟩
theorem lw_p51 : lw_okq (⟨"TypeForms2Model", "isObject", "(I)Z"⟩, 56) := ⟨⟨by decide +kernel, by decide +kernel⟩, List.mem_of_getElem? (i := 712) (by decide +kernel), List.mem_of_getElem? (i := 1013) (by decide +kernel), List.mem_of_getElem? (i := 1014) (by decide +kernel)⟩
theorem lw_p52 : lw_okq (⟨"TypeForms2Model", "superOf", "(II)I"⟩, 56) := ⟨⟨by decide +kernel, by decide +kernel⟩, List.mem_of_getElem? (i := 712) (by decide +kernel), List.mem_of_getElem? (i := 1017) (by decide +kernel), List.mem_of_getElem? (i := 1018) (by decide +kernel)⟩
theorem lw_p53 : lw_okq (⟨"TypeForms2Model", "comesTo", "(II)Z"⟩, 56) := ⟨⟨by decide +kernel, by decide +kernel⟩, List.mem_of_getElem? (i := 712) (by decide +kernel), List.mem_of_getElem? (i := 1021) (by decide +kernel), List.mem_of_getElem? (i := 1022) (by decide +kernel)⟩
theorem lw_p54 : lw_okq (⟨"TypeForms2Model", "goOn", "(II)I"⟩, 56) := ⟨⟨by decide +kernel, by decide +kernel⟩, List.mem_of_getElem? (i := 712) (by decide +kernel), List.mem_of_getElem? (i := 1025) (by decide +kernel), List.mem_of_getElem? (i := 1026) (by decide +kernel)⟩
theorem lw_p55 : lw_okq (⟨"TypeForms2Model", "ask", "(III)V"⟩, 56) := ⟨⟨by decide +kernel, by decide +kernel⟩, List.mem_of_getElem? (i := 712) (by decide +kernel), List.mem_of_getElem? (i := 1029) (by decide +kernel), List.mem_of_getElem? (i := 1030) (by decide +kernel)⟩
theorem lw_p56 : lw_okq (⟨"TypeForms2Model", "told", "(I)I"⟩, 56) := ⟨⟨by decide +kernel, by decide +kernel⟩, List.mem_of_getElem? (i := 712) (by decide +kernel), List.mem_of_getElem? (i := 1033) (by decide +kernel), List.mem_of_getElem? (i := 1034) (by decide +kernel)⟩
theorem lw_p57 : lw_okq (⟨"TypeForms2Model", "part", "(II)I"⟩, 56) := ⟨⟨by decide +kernel, by decide +kernel⟩, List.mem_of_getElem? (i := 712) (by decide +kernel), List.mem_of_getElem? (i := 1037) (by decide +kernel), List.mem_of_getElem? (i := 1038) (by decide +kernel)⟩
theorem lw_p58 : lw_okq (⟨"TypeForms2Model", "copy", "(I)V"⟩, 56) := ⟨⟨by decide +kernel, by decide +kernel⟩, List.mem_of_getElem? (i := 712) (by decide +kernel), List.mem_of_getElem? (i := 1041) (by decide +kernel), List.mem_of_getElem? (i := 1042) (by decide +kernel)⟩
theorem lw_p59 : lw_okq (⟨"TypeForms2Model", "real", "(I)I"⟩, 56) := ⟨⟨by decide +kernel, by decide +kernel⟩, List.mem_of_getElem? (i := 712) (by decide +kernel), List.mem_of_getElem? (i := 1045) (by decide +kernel), List.mem_of_getElem? (i := 1046) (by decide +kernel)⟩
theorem lw_p60 : lw_okq (⟨"TypeForms2Model", "readType", "()I"⟩, 56) := ⟨⟨by decide +kernel, by decide +kernel⟩, List.mem_of_getElem? (i := 712) (by decide +kernel), List.mem_of_getElem? (i := 1085) (by decide +kernel), List.mem_of_getElem? (i := 1086) (by decide +kernel)⟩
theorem lw_p61 : lw_okq (⟨"TypeForms2Model", "byteAt", "(I)I"⟩, 56) := ⟨⟨by decide +kernel, by decide +kernel⟩, List.mem_of_getElem? (i := 712) (by decide +kernel), List.mem_of_getElem? (i := 1089) (by decide +kernel), List.mem_of_getElem? (i := 1090) (by decide +kernel)⟩
theorem lw_p62 : lw_okq (⟨"TypeForms2Model", "faultAt", "(I)I"⟩, 56) := ⟨⟨by decide +kernel, by decide +kernel⟩, List.mem_of_getElem? (i := 712) (by decide +kernel), List.mem_of_getElem? (i := 1093) (by decide +kernel), List.mem_of_getElem? (i := 1094) (by decide +kernel)⟩
theorem lw_p63 : lw_okq (⟨"TypeForms2Model", "readLetter", "(I)I"⟩, 56) := ⟨⟨by decide +kernel, by decide +kernel⟩, List.mem_of_getElem? (i := 712) (by decide +kernel), List.mem_of_getElem? (i := 1097) (by decide +kernel), List.mem_of_getElem? (i := 1098) (by decide +kernel)⟩
def lw_privs_4 : List (MethodName × Nat) := [(⟨"TypeForms2Model", "putArgument", "(IIII)V"⟩, 56), (⟨"TypeForms2Model", "belowOf", "(II)I"⟩, 56), (⟨"TypeForms2Model", "atOnce", "(II)I"⟩, 56), (⟨"TypeForms2Model", "isObject", "(I)Z"⟩, 56), (⟨"TypeForms2Model", "superOf", "(II)I"⟩, 56), (⟨"TypeForms2Model", "comesTo", "(II)Z"⟩, 56), (⟨"TypeForms2Model", "goOn", "(II)I"⟩, 56), (⟨"TypeForms2Model", "ask", "(III)V"⟩, 56), (⟨"TypeForms2Model", "told", "(I)I"⟩, 56), (⟨"TypeForms2Model", "part", "(II)I"⟩, 56), (⟨"TypeForms2Model", "copy", "(I)V"⟩, 56), (⟨"TypeForms2Model", "real", "(I)I"⟩, 56), (⟨"TypeForms2Model", "readType", "()I"⟩, 56), (⟨"TypeForms2Model", "byteAt", "(I)I"⟩, 56), (⟨"TypeForms2Model", "faultAt", "(I)I"⟩, 56), (⟨"TypeForms2Model", "readLetter", "(I)I"⟩, 56)]
theorem lw_r4 : ∀ q ∈ lw_privs_4, lw_okq q := List.forall_mem_cons.mpr ⟨lw_p48, List.forall_mem_cons.mpr ⟨lw_p49, List.forall_mem_cons.mpr ⟨lw_p50, List.forall_mem_cons.mpr ⟨lw_p51, List.forall_mem_cons.mpr ⟨lw_p52, List.forall_mem_cons.mpr ⟨lw_p53, List.forall_mem_cons.mpr ⟨lw_p54, List.forall_mem_cons.mpr ⟨lw_p55, List.forall_mem_cons.mpr ⟨lw_p56, List.forall_mem_cons.mpr ⟨lw_p57, List.forall_mem_cons.mpr ⟨lw_p58, List.forall_mem_cons.mpr ⟨lw_p59, List.forall_mem_cons.mpr ⟨lw_p60, List.forall_mem_cons.mpr ⟨lw_p61, List.forall_mem_cons.mpr ⟨lw_p62, List.forall_mem_cons.mpr ⟨lw_p63, fun _ h => absurd h List.not_mem_nil⟩⟩⟩⟩⟩⟩⟩⟩⟩⟩⟩⟩⟩⟩⟩⟩
theorem lw_p64 : lw_okq (⟨"TypeForms2Model", "readPart", "()I"⟩, 56) := ⟨⟨by decide +kernel, by decide +kernel⟩, List.mem_of_getElem? (i := 712) (by decide +kernel), List.mem_of_getElem? (i := 1101) (by decide +kernel), List.mem_of_getElem? (i := 1102) (by decide +kernel)⟩
theorem lw_p65 : lw_okq (⟨"TypeForms2Model", "readArgument", "()I"⟩, 56) := ⟨⟨by decide +kernel, by decide +kernel⟩, List.mem_of_getElem? (i := 712) (by decide +kernel), List.mem_of_getElem? (i := 1105) (by decide +kernel), List.mem_of_getElem? (i := 1106) (by decide +kernel)⟩
theorem lw_p66 : lw_okq (⟨"TypeForms2Model", "keep", "(II)V"⟩, 56) := ⟨⟨by decide +kernel, by decide +kernel⟩, List.mem_of_getElem? (i := 712) (by decide +kernel), List.mem_of_getElem? (i := 1109) (by decide +kernel), List.mem_of_getElem? (i := 1110) (by decide +kernel)⟩
theorem lw_p67 : lw_okq (⟨"TypeForms2Model", "readBehind", "()I"⟩, 56) := ⟨⟨by decide +kernel, by decide +kernel⟩, List.mem_of_getElem? (i := 712) (by decide +kernel), List.mem_of_getElem? (i := 1113) (by decide +kernel), List.mem_of_getElem? (i := 1114) (by decide +kernel)⟩
theorem lw_p68 : lw_okq (⟨"TypeForms2Model", "readClosed", "()I"⟩, 56) := ⟨⟨by decide +kernel, by decide +kernel⟩, List.mem_of_getElem? (i := 712) (by decide +kernel), List.mem_of_getElem? (i := 1117) (by decide +kernel), List.mem_of_getElem? (i := 1118) (by decide +kernel)⟩
theorem lw_p69 : lw_okq (⟨"TypeForms2Model", "readSuffix", "()I"⟩, 56) := ⟨⟨by decide +kernel, by decide +kernel⟩, List.mem_of_getElem? (i := 712) (by decide +kernel), List.mem_of_getElem? (i := 1121) (by decide +kernel), List.mem_of_getElem? (i := 1122) (by decide +kernel)⟩
theorem lw_p70 : lw_okq (⟨"TypeForms2Model", "push", "(I)V"⟩, 56) := ⟨⟨by decide +kernel, by decide +kernel⟩, List.mem_of_getElem? (i := 712) (by decide +kernel), List.mem_of_getElem? (i := 1129) (by decide +kernel), List.mem_of_getElem? (i := 1130) (by decide +kernel)⟩
theorem lw_p71 : lw_okq (⟨"TypeForms2Model", "pushParts", "(I)V"⟩, 56) := ⟨⟨by decide +kernel, by decide +kernel⟩, List.mem_of_getElem? (i := 712) (by decide +kernel), List.mem_of_getElem? (i := 1133) (by decide +kernel), List.mem_of_getElem? (i := 1134) (by decide +kernel)⟩
def lw_privs_5 : List (MethodName × Nat) := [(⟨"TypeForms2Model", "readPart", "()I"⟩, 56), (⟨"TypeForms2Model", "readArgument", "()I"⟩, 56), (⟨"TypeForms2Model", "keep", "(II)V"⟩, 56), (⟨"TypeForms2Model", "readBehind", "()I"⟩, 56), (⟨"TypeForms2Model", "readClosed", "()I"⟩, 56), (⟨"TypeForms2Model", "readSuffix", "()I"⟩, 56), (⟨"TypeForms2Model", "push", "(I)V"⟩, 56), (⟨"TypeForms2Model", "pushParts", "(I)V"⟩, 56)]
theorem lw_r5 : ∀ q ∈ lw_privs_5, lw_okq q := List.forall_mem_cons.mpr ⟨lw_p64, List.forall_mem_cons.mpr ⟨lw_p65, List.forall_mem_cons.mpr ⟨lw_p66, List.forall_mem_cons.mpr ⟨lw_p67, List.forall_mem_cons.mpr ⟨lw_p68, List.forall_mem_cons.mpr ⟨lw_p69, List.forall_mem_cons.mpr ⟨lw_p70, List.forall_mem_cons.mpr ⟨lw_p71, fun _ h => absurd h List.not_mem_nil⟩⟩⟩⟩⟩⟩⟩⟩
def lw_privs : List (MethodName × Nat) := lw_privs_1 ++ (lw_privs_2 ++ (lw_privs_3 ++ (lw_privs_4 ++ (lw_privs_5))))
def lw_tbl : List Cond := k2_sels lw_privs ++ tables_1
theorem lw_privs_ok : ∀ q ∈ lw_privs, lw_okq q := by
  show ∀ q ∈ lw_privs_1 ++ (lw_privs_2 ++ (lw_privs_3 ++ (lw_privs_4 ++ (lw_privs_5)))), lw_okq q
  exact List.forall_mem_append.mpr ⟨lw_r1, List.forall_mem_append.mpr ⟨lw_r2, List.forall_mem_append.mpr ⟨lw_r3, List.forall_mem_append.mpr ⟨lw_r4, lw_r5⟩⟩⟩⟩
-- ===== end of PART A; then your names; then what follows =====
def RX0 : String := "TypeForms2$Declarations"
def TX0 : u_T := fun k => match k with
  | 0 => ("TypeForms2$Declarations", "kind", "[I", true)
  | 1 => ("TypeForms2$Declarations", "parameters", "[I", true)
  | 2 => ("TypeForms2$Declarations", "outer", "[I", true)
  | 3 => ("TypeForms2$Declarations", "within", "[I", true)
  | 4 => ("TypeForms2$Declarations", "firstVariable", "[I", true)
  | 5 => ("TypeForms2$Declarations", "bounds", "[I", true)
  | 6 => ("TypeForms2$Declarations", "boundNumber", "[I", true)
  | 7 => ("TypeForms2$Declarations", "parents", "[I", true)
  | 8 => ("TypeForms2$Declarations", "parentOwner", "[I", true)
  | 9 => ("TypeForms2$Declarations", "parentNumber", "[I", true)
  | 10 => ("TypeForms2$Declarations", "ancestors", "[I", true)
  | _ => ("TypeForms2$Declarations", "number", "I", false)
def tyX0 : Nat → FieldType := fun k => match k with
  | 0 => .array .int
  | 1 => .array .int
  | 2 => .array .int
  | 3 => .array .int
  | 4 => .array .int
  | 5 => .array .int
  | 6 => .array .int
  | 7 => .array .int
  | 8 => .array .int
  | 9 => .array .int
  | 10 => .array .int
  | _ => .int
abbrev wsX00 : List Cond := u_ws RX0 TX0 12
theorem nmX0 : ∀ a, a < 12 → ∀ b, b < 12 → a ≠ b → (TX0 a).2.1 ≠ (TX0 b).2.1 := by decide +kernel
theorem tyX0_ok : ∀ k, k < 12 → parseFieldDescriptor (TX0 k).2.2.1 = some (tyX0 k) := by decide +kernel
abbrev cX0_init : ByteArray := prog_2_method_1_code
def yX0_init : MethodName := ⟨RX0, "<init>", "()V"⟩
abbrev cX0_number : ByteArray := prog_2_method_2_code
def yX0_number : MethodName := ⟨RX0, "number", "()I"⟩
abbrev cX0_has : ByteArray := prog_2_method_3_code
def yX0_has : MethodName := ⟨RX0, "has", "(I)Z"⟩
abbrev cX0_hasRoom : ByteArray := prog_2_method_4_code
def yX0_hasRoom : MethodName := ⟨RX0, "hasRoom", "()Z"⟩
abbrev cX0_add : ByteArray := prog_2_method_5_code
def yX0_add : MethodName := ⟨RX0, "add", "(IIII)I"⟩
abbrev cX0_isInterface : ByteArray := prog_2_method_6_code
def yX0_isInterface : MethodName := ⟨RX0, "isInterface", "(I)Z"⟩
abbrev cX0_parametersOf : ByteArray := prog_2_method_7_code
def yX0_parametersOf : MethodName := ⟨RX0, "parametersOf", "(I)I"⟩
abbrev cX0_outerOf : ByteArray := prog_2_method_8_code
def yX0_outerOf : MethodName := ⟨RX0, "outerOf", "(I)I"⟩
abbrev cX0_isWithin : ByteArray := prog_2_method_9_code
def yX0_isWithin : MethodName := ⟨RX0, "isWithin", "(II)Z"⟩
abbrev cX0_hasPlace : ByteArray := prog_2_method_10_code
def yX0_hasPlace : MethodName := ⟨RX0, "hasPlace", "(II)Z"⟩
abbrev cX0_variableAt : ByteArray := prog_2_method_11_code
def yX0_variableAt : MethodName := ⟨RX0, "variableAt", "(II)I"⟩
abbrev cX0_boundsOf : ByteArray := prog_2_method_12_code
def yX0_boundsOf : MethodName := ⟨RX0, "boundsOf", "(II)I"⟩
abbrev cX0_boundAt : ByteArray := prog_2_method_13_code
def yX0_boundAt : MethodName := ⟨RX0, "boundAt", "(III)I"⟩
abbrev cX0_allBoundsOf : ByteArray := prog_2_method_14_code
def yX0_allBoundsOf : MethodName := ⟨RX0, "allBoundsOf", "(I)I"⟩
abbrev cX0_addBound : ByteArray := prog_2_method_15_code
def yX0_addBound : MethodName := ⟨RX0, "addBound", "(III)I"⟩
abbrev cX0_parentsOf : ByteArray := prog_2_method_16_code
def yX0_parentsOf : MethodName := ⟨RX0, "parentsOf", "(I)I"⟩
abbrev cX0_addParent : ByteArray := prog_2_method_17_code
def yX0_addParent : MethodName := ⟨RX0, "addParent", "(III)I"⟩
abbrev cX0_findAncestors : ByteArray := prog_2_method_18_code
def yX0_findAncestors : MethodName := ⟨RX0, "findAncestors", "()V"⟩
abbrev cX0_parentToward : ByteArray := prog_2_method_19_code
def yX0_parentToward : MethodName := ⟨RX0, "parentToward", "(II)I"⟩
def RX1 : String := "TypeForms2$Forms"
def TX1 : u_T := fun k => match k with
  | 0 => ("TypeForms2$Forms", "declarations", "LTypeForms2$Declarations;", true)
  | _ => ("TypeForms2$Forms", "types", "LTypeForms2$Types;", true)
def tyX1 : Nat → FieldType := fun k => match k with
  | 0 => .object "TypeForms2$Declarations"
  | _ => .object "TypeForms2$Types"
abbrev wsX10 : List Cond := u_ws RX1 TX1 2
theorem nmX1 : ∀ a, a < 2 → ∀ b, b < 2 → a ≠ b → (TX1 a).2.1 ≠ (TX1 b).2.1 := by decide +kernel
theorem tyX1_ok : ∀ k, k < 2 → parseFieldDescriptor (TX1 k).2.2.1 = some (tyX1 k) := by decide +kernel
abbrev cX1_init : ByteArray := prog_3_method_1_code
def yX1_init : MethodName := ⟨RX1, "<init>", "(LTypeForms2$Declarations;LTypeForms2$Types;)V"⟩
abbrev cX1_erase : ByteArray := prog_3_method_2_code
def yX1_erase : MethodName := ⟨RX1, "erase", "(I)I"⟩
abbrev cX1_putIn : ByteArray := prog_3_method_3_code
def yX1_putIn : MethodName := ⟨RX1, "putIn", "(III)I"⟩
abbrev cX1_putInArgument : ByteArray := prog_3_method_4_code
def yX1_putInArgument : MethodName := ⟨RX1, "putInArgument", "(III)I"⟩
abbrev cX1_tellerOf : ByteArray := prog_3_method_5_code
def yX1_tellerOf : MethodName := ⟨RX1, "tellerOf", "(II)I"⟩
abbrev cX1_told : ByteArray := prog_3_method_6_code
def yX1_told : MethodName := ⟨RX1, "told", "(II)I"⟩
abbrev cX1_superOf : ByteArray := prog_3_method_7_code
def yX1_superOf : MethodName := ⟨RX1, "superOf", "(II)I"⟩
abbrev cX1_isWhole : ByteArray := prog_3_method_8_code
def yX1_isWhole : MethodName := ⟨RX1, "isWhole", "(I)Z"⟩
def RX2 : String := "TypeForms2$Order"
def TX2 : u_T := fun k => match k with
  | 0 => ("TypeForms2$Order", "declarations", "LTypeForms2$Declarations;", true)
  | 1 => ("TypeForms2$Order", "types", "LTypeForms2$Types;", true)
  | _ => ("TypeForms2$Order", "forms", "LTypeForms2$Forms;", true)
def tyX2 : Nat → FieldType := fun k => match k with
  | 0 => .object "TypeForms2$Declarations"
  | 1 => .object "TypeForms2$Types"
  | _ => .object "TypeForms2$Forms"
abbrev wsX20 : List Cond := u_ws RX2 TX2 3
theorem nmX2 : ∀ a, a < 3 → ∀ b, b < 3 → a ≠ b → (TX2 a).2.1 ≠ (TX2 b).2.1 := by decide +kernel
theorem tyX2_ok : ∀ k, k < 3 → parseFieldDescriptor (TX2 k).2.2.1 = some (tyX2 k) := by decide +kernel
abbrev cX2_init : ByteArray := prog_4_method_1_code
def yX2_init : MethodName := ⟨RX2, "<init>", "(LTypeForms2$Declarations;LTypeForms2$Types;LTypeForms2$Forms;)V"⟩
abbrev cX2_ask : ByteArray := prog_4_method_2_code
def yX2_ask : MethodName := ⟨RX2, "ask", "(III)I"⟩
abbrev cX2_isNarrower : ByteArray := prog_4_method_3_code
def yX2_isNarrower : MethodName := ⟨RX2, "isNarrower", "(II)Z"⟩
abbrev cX2_askBounds : ByteArray := prog_4_method_4_code
def yX2_askBounds : MethodName := ⟨RX2, "askBounds", "(III)I"⟩
abbrev cX2_askElements : ByteArray := prog_4_method_5_code
def yX2_askElements : MethodName := ⟨RX2, "askElements", "(III)I"⟩
abbrev cX2_askClasses : ByteArray := prog_4_method_6_code
def yX2_askClasses : MethodName := ⟨RX2, "askClasses", "(III)I"⟩
abbrev cX2_askSame : ByteArray := prog_4_method_7_code
def yX2_askSame : MethodName := ⟨RX2, "askSame", "(III)I"⟩
abbrev cX2_askIn : ByteArray := prog_4_method_8_code
def yX2_askIn : MethodName := ⟨RX2, "askIn", "(III)I"⟩
def RX3 : String := "TypeForms2$Printer"
def TX3 : u_T := fun k => match k with
  | 0 => ("TypeForms2$Printer", "types", "LTypeForms2$Types;", true)
  | 1 => ("TypeForms2$Printer", "text", "[I", true)
  | 2 => ("TypeForms2$Printer", "line", "[I", true)
  | 3 => ("TypeForms2$Printer", "length", "I", false)
  | _ => ("TypeForms2$Printer", "written", "I", false)
def tyX3 : Nat → FieldType := fun k => match k with
  | 0 => .object "TypeForms2$Types"
  | 1 => .array .int
  | 2 => .array .int
  | 3 => .int
  | _ => .int
abbrev wsX30 : List Cond := u_ws RX3 TX3 5
theorem nmX3 : ∀ a, a < 5 → ∀ b, b < 5 → a ≠ b → (TX3 a).2.1 ≠ (TX3 b).2.1 := by decide +kernel
theorem tyX3_ok : ∀ k, k < 5 → parseFieldDescriptor (TX3 k).2.2.1 = some (tyX3 k) := by decide +kernel
abbrev cX3_init : ByteArray := prog_5_method_1_code
def yX3_init : MethodName := ⟨RX3, "<init>", "(LTypeForms2$Types;)V"⟩
abbrev cX3_length : ByteArray := prog_5_method_2_code
def yX3_length : MethodName := ⟨RX3, "length", "()I"⟩
abbrev cX3_byteAt : ByteArray := prog_5_method_3_code
def yX3_byteAt : MethodName := ⟨RX3, "byteAt", "(I)I"⟩
abbrev cX3_put : ByteArray := prog_5_method_4_code
def yX3_put : MethodName := ⟨RX3, "put", "(I)I"⟩
abbrev cX3_write : ByteArray := prog_5_method_5_code
def yX3_write : MethodName := ⟨RX3, "write", "(I)V"⟩
abbrev cX3_writeType : ByteArray := prog_5_method_6_code
def yX3_writeType : MethodName := ⟨RX3, "writeType", "(II)V"⟩
abbrev cX3_writeArguments : ByteArray := prog_5_method_7_code
def yX3_writeArguments : MethodName := ⟨RX3, "writeArguments", "(II)V"⟩
def RX4 : String := "TypeForms2$Reader"
def TX4 : u_T := fun k => match k with
  | 0 => ("TypeForms2$Reader", "declarations", "LTypeForms2$Declarations;", true)
  | 1 => ("TypeForms2$Reader", "types", "LTypeForms2$Types;", true)
  | 2 => ("TypeForms2$Reader", "rules", "LTypeForms2$Rules;", true)
  | 3 => ("TypeForms2$Reader", "tape", "[I", true)
  | 4 => ("TypeForms2$Reader", "length", "I", false)
  | 5 => ("TypeForms2$Reader", "at", "I", false)
  | _ => ("TypeForms2$Reader", "fault", "I", false)
def tyX4 : Nat → FieldType := fun k => match k with
  | 0 => .object "TypeForms2$Declarations"
  | 1 => .object "TypeForms2$Types"
  | 2 => .object "TypeForms2$Rules"
  | 3 => .array .int
  | 4 => .int
  | 5 => .int
  | _ => .int
abbrev wsX40 : List Cond := u_ws RX4 TX4 7
theorem nmX4 : ∀ a, a < 7 → ∀ b, b < 7 → a ≠ b → (TX4 a).2.1 ≠ (TX4 b).2.1 := by decide +kernel
theorem tyX4_ok : ∀ k, k < 7 → parseFieldDescriptor (TX4 k).2.2.1 = some (tyX4 k) := by decide +kernel
abbrev cX4_init : ByteArray := prog_6_method_1_code
def yX4_init : MethodName := ⟨RX4, "<init>", "(LTypeForms2$Declarations;LTypeForms2$Types;LTypeForms2$Rules;)V"⟩
abbrev cX4_length : ByteArray := prog_6_method_2_code
def yX4_length : MethodName := ⟨RX4, "length", "()I"⟩
abbrev cX4_take : ByteArray := prog_6_method_3_code
def yX4_take : MethodName := ⟨RX4, "take", "(IJ)I"⟩
abbrev cX4_start : ByteArray := prog_6_method_4_code
def yX4_start : MethodName := ⟨RX4, "start", "()V"⟩
abbrev cX4_finish : ByteArray := prog_6_method_5_code
def yX4_finish : MethodName := ⟨RX4, "finish", "()I"⟩
abbrev cX4_next : ByteArray := prog_6_method_6_code
def yX4_next : MethodName := ⟨RX4, "next", "()I"⟩
abbrev cX4_faultAt : ByteArray := prog_6_method_7_code
def yX4_faultAt : MethodName := ⟨RX4, "faultAt", "(I)I"⟩
abbrev cX4_typeText : ByteArray := prog_6_method_8_code
def yX4_typeText : MethodName := ⟨RX4, "typeText", "(I)I"⟩
abbrev cX4_baseText : ByteArray := prog_6_method_9_code
def yX4_baseText : MethodName := ⟨RX4, "baseText", "(I)I"⟩
abbrev cX4_variableText : ByteArray := prog_6_method_10_code
def yX4_variableText : MethodName := ⟨RX4, "variableText", "(I)I"⟩
abbrev cX4_partText : ByteArray := prog_6_method_11_code
def yX4_partText : MethodName := ⟨RX4, "partText", "(II)I"⟩
abbrev cX4_argumentText : ByteArray := prog_6_method_12_code
def yX4_argumentText : MethodName := ⟨RX4, "argumentText", "(I)I"⟩
def RX5 : String := "TypeForms2$Rules"
def TX5 : u_T := fun k => match k with
  | 0 => ("TypeForms2$Rules", "declarations", "LTypeForms2$Declarations;", true)
  | 1 => ("TypeForms2$Rules", "types", "LTypeForms2$Types;", true)
  | 2 => ("TypeForms2$Rules", "forms", "LTypeForms2$Forms;", true)
  | _ => ("TypeForms2$Rules", "order", "LTypeForms2$Order;", true)
def tyX5 : Nat → FieldType := fun k => match k with
  | 0 => .object "TypeForms2$Declarations"
  | 1 => .object "TypeForms2$Types"
  | 2 => .object "TypeForms2$Forms"
  | _ => .object "TypeForms2$Order"
abbrev wsX50 : List Cond := u_ws RX5 TX5 4
theorem nmX5 : ∀ a, a < 4 → ∀ b, b < 4 → a ≠ b → (TX5 a).2.1 ≠ (TX5 b).2.1 := by decide +kernel
theorem tyX5_ok : ∀ k, k < 4 → parseFieldDescriptor (TX5 k).2.2.1 = some (tyX5 k) := by decide +kernel
abbrev cX5_init : ByteArray := prog_7_method_1_code
def yX5_init : MethodName := ⟨RX5, "<init>", "(LTypeForms2$Declarations;LTypeForms2$Types;LTypeForms2$Forms;LTypeForms2$Order;)V"⟩
abbrev cX5_ofBound : ByteArray := prog_7_method_2_code
def yX5_ofBound : MethodName := ⟨RX5, "ofBound", "(III)I"⟩
abbrev cX5_ofParent : ByteArray := prog_7_method_3_code
def yX5_ofParent : MethodName := ⟨RX5, "ofParent", "(II)I"⟩
abbrev cX5_isAsTold : ByteArray := prog_7_method_4_code
def yX5_isAsTold : MethodName := ⟨RX5, "isAsTold", "(II)Z"⟩
abbrev cX5_comesTo : ByteArray := prog_7_method_5_code
def yX5_comesTo : MethodName := ⟨RX5, "comesTo", "(II)Z"⟩
abbrev cX5_ofMade : ByteArray := prog_7_method_6_code
def yX5_ofMade : MethodName := ⟨RX5, "ofMade", "(IIIII)I"⟩
abbrev cX5_ofMadeShape : ByteArray := prog_7_method_7_code
def yX5_ofMadeShape : MethodName := ⟨RX5, "ofMadeShape", "(IIIII)I"⟩
def RX6 : String := "TypeForms2$Types"
def TX6 : u_T := fun k => match k with
  | 0 => ("TypeForms2$Types", "declarations", "LTypeForms2$Declarations;", true)
  | 1 => ("TypeForms2$Types", "form", "[I", true)
  | 2 => ("TypeForms2$Types", "owner", "[I", true)
  | 3 => ("TypeForms2$Types", "place", "[I", true)
  | 4 => ("TypeForms2$Types", "inner", "[I", true)
  | 5 => ("TypeForms2$Types", "arguments", "[I", true)
  | 6 => ("TypeForms2$Types", "size", "[I", true)
  | 7 => ("TypeForms2$Types", "raw", "[Z", true)
  | 8 => ("TypeForms2$Types", "open", "[Z", true)
  | 9 => ("TypeForms2$Types", "nodes", "I", false)
  | 10 => ("TypeForms2$Types", "top", "I", false)
  | 11 => ("TypeForms2$Types", "keeping", "Z", false)
  | _ => ("TypeForms2$Types", "full", "Z", false)
def tyX6 : Nat → FieldType := fun k => match k with
  | 0 => .object "TypeForms2$Declarations"
  | 1 => .array .int
  | 2 => .array .int
  | 3 => .array .int
  | 4 => .array .int
  | 5 => .array .int
  | 6 => .array .int
  | 7 => .array .boolean
  | 8 => .array .boolean
  | 9 => .int
  | 10 => .int
  | 11 => .boolean
  | _ => .boolean
abbrev wsX60 : List Cond := u_ws RX6 TX6 13
theorem nmX6 : ∀ a, a < 13 → ∀ b, b < 13 → a ≠ b → (TX6 a).2.1 ≠ (TX6 b).2.1 := by decide +kernel
theorem tyX6_ok : ∀ k, k < 13 → parseFieldDescriptor (TX6 k).2.2.1 = some (tyX6 k) := by decide +kernel
abbrev cX6_init : ByteArray := prog_8_method_1_code
def yX6_init : MethodName := ⟨RX6, "<init>", "(LTypeForms2$Declarations;)V"⟩
abbrev cX6_setPlain : ByteArray := prog_8_method_2_code
def yX6_setPlain : MethodName := ⟨RX6, "setPlain", "(IIII)V"⟩
abbrev cX6_number : ByteArray := prog_8_method_3_code
def yX6_number : MethodName := ⟨RX6, "number", "()I"⟩
abbrev cX6_isNode : ByteArray := prog_8_method_4_code
def yX6_isNode : MethodName := ⟨RX6, "isNode", "(I)Z"⟩
abbrev cX6_hasRoomFor : ByteArray := prog_8_method_5_code
def yX6_hasRoomFor : MethodName := ⟨RX6, "hasRoomFor", "(I)Z"⟩
abbrev cX6_addVariables : ByteArray := prog_8_method_6_code
def yX6_addVariables : MethodName := ⟨RX6, "addVariables", "(II)I"⟩
abbrev cX6_formOf : ByteArray := prog_8_method_7_code
def yX6_formOf : MethodName := ⟨RX6, "formOf", "(I)I"⟩
abbrev cX6_ownerOf : ByteArray := prog_8_method_8_code
def yX6_ownerOf : MethodName := ⟨RX6, "ownerOf", "(I)I"⟩
abbrev cX6_placeOf : ByteArray := prog_8_method_9_code
def yX6_placeOf : MethodName := ⟨RX6, "placeOf", "(I)I"⟩
abbrev cX6_elementOf : ByteArray := prog_8_method_10_code
def yX6_elementOf : MethodName := ⟨RX6, "elementOf", "(I)I"⟩
abbrev cX6_outerOf : ByteArray := prog_8_method_11_code
def yX6_outerOf : MethodName := ⟨RX6, "outerOf", "(I)I"⟩
abbrev cX6_argumentAt : ByteArray := prog_8_method_12_code
def yX6_argumentAt : MethodName := ⟨RX6, "argumentAt", "(II)I"⟩
abbrev cX6_argumentsOf : ByteArray := prog_8_method_13_code
def yX6_argumentsOf : MethodName := ⟨RX6, "argumentsOf", "(I)I"⟩
abbrev cX6_isRaw : ByteArray := prog_8_method_14_code
def yX6_isRaw : MethodName := ⟨RX6, "isRaw", "(I)Z"⟩
abbrev cX6_isOpen : ByteArray := prog_8_method_15_code
def yX6_isOpen : MethodName := ⟨RX6, "isOpen", "(I)Z"⟩
abbrev cX6_canBeArgument : ByteArray := prog_8_method_16_code
def yX6_canBeArgument : MethodName := ⟨RX6, "canBeArgument", "(I)Z"⟩
abbrev cX6_canBeElement : ByteArray := prog_8_method_17_code
def yX6_canBeElement : MethodName := ⟨RX6, "canBeElement", "(I)Z"⟩
abbrev cX6_mark : ByteArray := prog_8_method_18_code
def yX6_mark : MethodName := ⟨RX6, "mark", "()I"⟩
abbrev cX6_release : ByteArray := prog_8_method_19_code
def yX6_release : MethodName := ⟨RX6, "release", "(I)V"⟩
abbrev cX6_forget : ByteArray := prog_8_method_20_code
def yX6_forget : MethodName := ⟨RX6, "forget", "()V"⟩
abbrev cX6_shaped : ByteArray := prog_8_method_21_code
def yX6_shaped : MethodName := ⟨RX6, "shaped", "(IIIIII)I"⟩
abbrev cX6_answer : ByteArray := prog_8_method_22_code
def yX6_answer : MethodName := ⟨RX6, "answer", "(I)I"⟩
abbrev cX6_keep : ByteArray := prog_8_method_23_code
def yX6_keep : MethodName := ⟨RX6, "keep", "(II)I"⟩
abbrev cX6_keepArgument : ByteArray := prog_8_method_24_code
def yX6_keepArgument : MethodName := ⟨RX6, "keepArgument", "(II)I"⟩
def RX7 : String := "TypeForms2"
def TX7 : u_T := fun k => match k with
  | 0 => ("TypeForms2", "declarations", "LTypeForms2$Declarations;", true)
  | 1 => ("TypeForms2", "types", "LTypeForms2$Types;", true)
  | 2 => ("TypeForms2", "forms", "LTypeForms2$Forms;", true)
  | 3 => ("TypeForms2", "order", "LTypeForms2$Order;", true)
  | 4 => ("TypeForms2", "rules", "LTypeForms2$Rules;", true)
  | 5 => ("TypeForms2", "reader", "LTypeForms2$Reader;", true)
  | 6 => ("TypeForms2", "printer", "LTypeForms2$Printer;", true)
  | 7 => ("TypeForms2", "draft", "[I", true)
  | _ => ("TypeForms2", "drafted", "I", false)
def tyX7 : Nat → FieldType := fun k => match k with
  | 0 => .object "TypeForms2$Declarations"
  | 1 => .object "TypeForms2$Types"
  | 2 => .object "TypeForms2$Forms"
  | 3 => .object "TypeForms2$Order"
  | 4 => .object "TypeForms2$Rules"
  | 5 => .object "TypeForms2$Reader"
  | 6 => .object "TypeForms2$Printer"
  | 7 => .array .int
  | _ => .int
abbrev wsX70 : List Cond := u_ws RX7 TX7 9
theorem nmX7 : ∀ a, a < 9 → ∀ b, b < 9 → a ≠ b → (TX7 a).2.1 ≠ (TX7 b).2.1 := by decide +kernel
theorem tyX7_ok : ∀ k, k < 9 → parseFieldDescriptor (TX7 k).2.2.1 = some (tyX7 k) := by decide +kernel
abbrev cX7_init : ByteArray := prog_1_method_1_code
def yX7_init : MethodName := ⟨RX7, "<init>", "()V"⟩
abbrev cX7_declare : ByteArray := prog_1_method_2_code
def yX7_declare : MethodName := ⟨RX7, "declare", "(III)I"⟩
abbrev cX7_variable : ByteArray := prog_1_method_3_code
def yX7_variable : MethodName := ⟨RX7, "variable", "(II)I"⟩
abbrev cX7_bound : ByteArray := prog_1_method_4_code
def yX7_bound : MethodName := ⟨RX7, "bound", "(III)I"⟩
abbrev cX7_parent : ByteArray := prog_1_method_5_code
def yX7_parent : MethodName := ⟨RX7, "parent", "(II)I"⟩
abbrev cX7_argument : ByteArray := prog_1_method_6_code
def yX7_argument : MethodName := ⟨RX7, "argument", "(II)I"⟩
abbrev cX7_make : ByteArray := prog_1_method_7_code
def yX7_make : MethodName := ⟨RX7, "make", "(II)I"⟩
abbrev cX7_array : ByteArray := prog_1_method_8_code
def yX7_array : MethodName := ⟨RX7, "array", "(I)I"⟩
abbrev cX7_about : ByteArray := prog_1_method_9_code
def yX7_about : MethodName := ⟨RX7, "about", "(II)I"⟩
abbrev cX7_below : ByteArray := prog_1_method_10_code
def yX7_below : MethodName := ⟨RX7, "below", "(II)I"⟩
abbrev cX7_erased : ByteArray := prog_1_method_11_code
def yX7_erased : MethodName := ⟨RX7, "erased", "(I)I"⟩
abbrev cX7_whole : ByteArray := prog_1_method_12_code
def yX7_whole : MethodName := ⟨RX7, "whole", "(I)I"⟩
abbrev cX7_above : ByteArray := prog_1_method_13_code
def yX7_above : MethodName := ⟨RX7, "above", "(II)I"⟩
abbrev cX7_member : ByteArray := prog_1_method_14_code
def yX7_member : MethodName := ⟨RX7, "member", "(II)I"⟩
abbrev cX7_feed : ByteArray := prog_1_method_15_code
def yX7_feed : MethodName := ⟨RX7, "feed", "(IJ)I"⟩
abbrev cX7_read : ByteArray := prog_1_method_16_code
def yX7_read : MethodName := ⟨RX7, "read", "()I"⟩
abbrev cX7_print : ByteArray := prog_1_method_17_code
def yX7_print : MethodName := ⟨RX7, "print", "(I)I"⟩
abbrev cX7_out : ByteArray := prog_1_method_18_code
def yX7_out : MethodName := ⟨RX7, "out", "(I)I"⟩
abbrev cX7_count : ByteArray := prog_1_method_19_code
def yX7_count : MethodName := ⟨RX7, "count", "(I)I"⟩
abbrev cX7_argumentOf : ByteArray := prog_1_method_20_code
def yX7_argumentOf : MethodName := ⟨RX7, "argumentOf", "(II)I"⟩
abbrev cX7_wildOf : ByteArray := prog_1_method_21_code
def yX7_wildOf : MethodName := ⟨RX7, "wildOf", "(I)I"⟩
abbrev cX7_typeOf : ByteArray := prog_1_method_22_code
def yX7_typeOf : MethodName := ⟨RX7, "typeOf", "(I)I"⟩
def RX8 : String := "TypeForms2Model"
def TX8 : u_T := fun k => match k with
  | 0 => ("TypeForms2Model", "many", "I", false)
  | 1 => ("TypeForms2Model", "top", "I", false)
  | 2 => ("TypeForms2Model", "form", "[I", true)
  | 3 => ("TypeForms2Model", "decl", "[I", true)
  | 4 => ("TypeForms2Model", "place", "[I", true)
  | 5 => ("TypeForms2Model", "elem", "[I", true)
  | 6 => ("TypeForms2Model", "outer", "[I", true)
  | 7 => ("TypeForms2Model", "argMany", "[I", true)
  | 8 => ("TypeForms2Model", "size", "[I", true)
  | 9 => ("TypeForms2Model", "wild", "[I", true)
  | 10 => ("TypeForms2Model", "arg", "[I", true)
  | 11 => ("TypeForms2Model", "mark", "[Z", true)
  | 12 => ("TypeForms2Model", "map", "[I", true)
  | 13 => ("TypeForms2Model", "decls", "I", false)
  | 14 => ("TypeForms2Model", "dKind", "[I", true)
  | 15 => ("TypeForms2Model", "dParams", "[I", true)
  | 16 => ("TypeForms2Model", "dOuter", "[I", true)
  | 17 => ("TypeForms2Model", "parentMany", "[I", true)
  | 18 => ("TypeForms2Model", "parents", "[I", true)
  | 19 => ("TypeForms2Model", "boundMany", "[I", true)
  | 20 => ("TypeForms2Model", "bounds", "[I", true)
  | 21 => ("TypeForms2Model", "drafted", "I", false)
  | 22 => ("TypeForms2Model", "draftWild", "[I", true)
  | 23 => ("TypeForms2Model", "draftArg", "[I", true)
  | 24 => ("TypeForms2Model", "newMany", "I", false)
  | 25 => ("TypeForms2Model", "newWild", "[I", true)
  | 26 => ("TypeForms2Model", "newArg", "[I", true)
  | 27 => ("TypeForms2Model", "taped", "I", false)
  | 28 => ("TypeForms2Model", "tape", "[I", true)
  | 29 => ("TypeForms2Model", "outMany", "I", false)
  | 30 => ("TypeForms2Model", "out", "[I", true)
  | 31 => ("TypeForms2Model", "chain", "[I", true)
  | 32 => ("TypeForms2Model", "toldWild", "I", false)
  | 33 => ("TypeForms2Model", "toldArg", "I", false)
  | 34 => ("TypeForms2Model", "askA", "[I", true)
  | 35 => ("TypeForms2Model", "askB", "[I", true)
  | 36 => ("TypeForms2Model", "askStep", "[I", true)
  | 37 => ("TypeForms2Model", "askWorst", "[I", true)
  | 38 => ("TypeForms2Model", "stack", "[I", true)
  | 39 => ("TypeForms2Model", "stage", "[I", true)
  | 40 => ("TypeForms2Model", "madeType", "I", false)
  | 41 => ("TypeForms2Model", "partDecl", "[I", true)
  | 42 => ("TypeForms2Model", "partAt", "[I", true)
  | 43 => ("TypeForms2Model", "partOuter", "[I", true)
  | 44 => ("TypeForms2Model", "partMany", "[I", true)
  | 45 => ("TypeForms2Model", "partWild", "[I", true)
  | 46 => ("TypeForms2Model", "partArg", "[I", true)
  | 47 => ("TypeForms2Model", "argWild", "[I", true)
  | 48 => ("TypeForms2Model", "argAt", "[I", true)
  | 49 => ("TypeForms2Model", "at", "I", false)
  | 50 => ("TypeForms2Model", "deep", "I", false)
  | 51 => ("TypeForms2Model", "node", "I", false)
  | 52 => ("TypeForms2Model", "fault", "I", false)
  | 53 => ("TypeForms2Model", "printed", "[I", true)
  | 54 => ("TypeForms2Model", "printMany", "I", false)
  | _ => ("TypeForms2Model", "stacked", "I", false)
def tyX8 : Nat → FieldType := fun k => match k with
  | 0 => .int
  | 1 => .int
  | 2 => .array .int
  | 3 => .array .int
  | 4 => .array .int
  | 5 => .array .int
  | 6 => .array .int
  | 7 => .array .int
  | 8 => .array .int
  | 9 => .array .int
  | 10 => .array .int
  | 11 => .array .boolean
  | 12 => .array .int
  | 13 => .int
  | 14 => .array .int
  | 15 => .array .int
  | 16 => .array .int
  | 17 => .array .int
  | 18 => .array .int
  | 19 => .array .int
  | 20 => .array .int
  | 21 => .int
  | 22 => .array .int
  | 23 => .array .int
  | 24 => .int
  | 25 => .array .int
  | 26 => .array .int
  | 27 => .int
  | 28 => .array .int
  | 29 => .int
  | 30 => .array .int
  | 31 => .array .int
  | 32 => .int
  | 33 => .int
  | 34 => .array .int
  | 35 => .array .int
  | 36 => .array .int
  | 37 => .array .int
  | 38 => .array .int
  | 39 => .array .int
  | 40 => .int
  | 41 => .array .int
  | 42 => .array .int
  | 43 => .array .int
  | 44 => .array .int
  | 45 => .array .int
  | 46 => .array .int
  | 47 => .array .int
  | 48 => .array .int
  | 49 => .int
  | 50 => .int
  | 51 => .int
  | 52 => .int
  | 53 => .array .int
  | 54 => .int
  | _ => .int
abbrev wsX80 : List Cond := u_ws RX8 TX8 56
theorem nmX8 : ∀ a, a < 56 → ∀ b, b < 56 → a ≠ b → (TX8 a).2.1 ≠ (TX8 b).2.1 := by decide +kernel
theorem tyX8_ok : ∀ k, k < 56 → parseFieldDescriptor (TX8 k).2.2.1 = some (tyX8 k) := by decide +kernel
abbrev cX8_init : ByteArray := prog_10_method_1_code
def yX8_init : MethodName := ⟨RX8, "<init>", "()V"⟩
abbrev cX8_in : ByteArray := prog_10_method_3_code
def yX8_in : MethodName := ⟨RX8, "in", "(III)Z"⟩
abbrev cX8_isNode : ByteArray := prog_10_method_4_code
def yX8_isNode : MethodName := ⟨RX8, "isNode", "(I)Z"⟩
abbrev cX8_isDecl : ByteArray := prog_10_method_5_code
def yX8_isDecl : MethodName := ⟨RX8, "isDecl", "(I)Z"⟩
abbrev cX8_isSame : ByteArray := prog_10_method_6_code
def yX8_isSame : MethodName := ⟨RX8, "isSame", "(IIIIII)Z"⟩
abbrev cX8_write : ByteArray := prog_10_method_7_code
def yX8_write : MethodName := ⟨RX8, "write", "(IIIIII)V"⟩
abbrev cX8_type : ByteArray := prog_10_method_8_code
def yX8_type : MethodName := ⟨RX8, "type", "(IIIII)I"⟩
abbrev cX8_arrayOf : ByteArray := prog_10_method_9_code
def yX8_arrayOf : MethodName := ⟨RX8, "arrayOf", "(I)I"⟩
abbrev cX8_bare : ByteArray := prog_10_method_10_code
def yX8_bare : MethodName := ⟨RX8, "bare", "(II)I"⟩
abbrev cX8_lower : ByteArray := prog_10_method_11_code
def yX8_lower : MethodName := ⟨RX8, "lower", "(I)I"⟩
abbrev cX8_higher : ByteArray := prog_10_method_12_code
def yX8_higher : MethodName := ⟨RX8, "higher", "(I)I"⟩
abbrev cX8_reach : ByteArray := prog_10_method_13_code
def yX8_reach : MethodName := ⟨RX8, "reach", "(I)V"⟩
abbrev cX8_hasVariable : ByteArray := prog_10_method_14_code
def yX8_hasVariable : MethodName := ⟨RX8, "hasVariable", "(I)Z"⟩
abbrev cX8_isRaw : ByteArray := prog_10_method_15_code
def yX8_isRaw : MethodName := ⟨RX8, "isRaw", "(I)Z"⟩
abbrev cX8_erasedOf : ByteArray := prog_10_method_16_code
def yX8_erasedOf : MethodName := ⟨RX8, "erasedOf", "(I)I"⟩
abbrev cX8_isTold : ByteArray := prog_10_method_17_code
def yX8_isTold : MethodName := ⟨RX8, "isTold", "(II)Z"⟩
abbrev cX8_putVariable : ByteArray := prog_10_method_18_code
def yX8_putVariable : MethodName := ⟨RX8, "putVariable", "(II)I"⟩
abbrev cX8_putArgument : ByteArray := prog_10_method_19_code
def yX8_putArgument : MethodName := ⟨RX8, "putArgument", "(IIII)V"⟩
abbrev cX8_putIn : ByteArray := prog_10_method_20_code
def yX8_putIn : MethodName := ⟨RX8, "putIn", "(II)I"⟩
abbrev cX8_putPart : ByteArray := prog_10_method_21_code
def yX8_putPart : MethodName := ⟨RX8, "putPart", "(II)V"⟩
abbrev cX8_comesTo : ByteArray := prog_10_method_22_code
def yX8_comesTo : MethodName := ⟨RX8, "comesTo", "(II)Z"⟩
abbrev cX8_superOf : ByteArray := prog_10_method_23_code
def yX8_superOf : MethodName := ⟨RX8, "superOf", "(II)I"⟩
abbrev cX8_isPlain : ByteArray := prog_10_method_24_code
def yX8_isPlain : MethodName := ⟨RX8, "isPlain", "(I)Z"⟩
abbrev cX8_isWider : ByteArray := prog_10_method_25_code
def yX8_isWider : MethodName := ⟨RX8, "isWider", "(II)Z"⟩
abbrev cX8_atOnce : ByteArray := prog_10_method_26_code
def yX8_atOnce : MethodName := ⟨RX8, "atOnce", "(II)I"⟩
abbrev cX8_isObject : ByteArray := prog_10_method_27_code
def yX8_isObject : MethodName := ⟨RX8, "isObject", "(I)Z"⟩
abbrev cX8_belowOf : ByteArray := prog_10_method_28_code
def yX8_belowOf : MethodName := ⟨RX8, "belowOf", "(II)I"⟩
abbrev cX8_goOn : ByteArray := prog_10_method_29_code
def yX8_goOn : MethodName := ⟨RX8, "goOn", "(II)I"⟩
abbrev cX8_ask : ByteArray := prog_10_method_30_code
def yX8_ask : MethodName := ⟨RX8, "ask", "(III)V"⟩
abbrev cX8_part : ByteArray := prog_10_method_31_code
def yX8_part : MethodName := ⟨RX8, "part", "(II)I"⟩
abbrev cX8_told : ByteArray := prog_10_method_32_code
def yX8_told : MethodName := ⟨RX8, "told", "(I)I"⟩
abbrev cX8_real : ByteArray := prog_10_method_33_code
def yX8_real : MethodName := ⟨RX8, "real", "(I)I"⟩
abbrev cX8_copy : ByteArray := prog_10_method_34_code
def yX8_copy : MethodName := ⟨RX8, "copy", "(I)V"⟩
abbrev cX8_declare : ByteArray := prog_10_method_35_code
def yX8_declare : MethodName := ⟨RX8, "declare", "(III)I"⟩
abbrev cX8_variable : ByteArray := prog_10_method_36_code
def yX8_variable : MethodName := ⟨RX8, "variable", "(II)I"⟩
abbrev cX8_isTellable : ByteArray := prog_10_method_37_code
def yX8_isTellable : MethodName := ⟨RX8, "isTellable", "(II)Z"⟩
abbrev cX8_bound : ByteArray := prog_10_method_38_code
def yX8_bound : MethodName := ⟨RX8, "bound", "(III)I"⟩
abbrev cX8_leadsTo : ByteArray := prog_10_method_39_code
def yX8_leadsTo : MethodName := ⟨RX8, "leadsTo", "(II)Z"⟩
abbrev cX8_parent : ByteArray := prog_10_method_40_code
def yX8_parent : MethodName := ⟨RX8, "parent", "(II)I"⟩
abbrev cX8_argument : ByteArray := prog_10_method_41_code
def yX8_argument : MethodName := ⟨RX8, "argument", "(II)I"⟩
abbrev cX8_wrong : ByteArray := prog_10_method_42_code
def yX8_wrong : MethodName := ⟨RX8, "wrong", "(III[I[II)I"⟩
abbrev cX8_make : ByteArray := prog_10_method_43_code
def yX8_make : MethodName := ⟨RX8, "make", "(II)I"⟩
abbrev cX8_array : ByteArray := prog_10_method_44_code
def yX8_array : MethodName := ⟨RX8, "array", "(I)I"⟩
abbrev cX8_about : ByteArray := prog_10_method_45_code
def yX8_about : MethodName := ⟨RX8, "about", "(II)I"⟩
abbrev cX8_below : ByteArray := prog_10_method_46_code
def yX8_below : MethodName := ⟨RX8, "below", "(II)I"⟩
abbrev cX8_erased : ByteArray := prog_10_method_47_code
def yX8_erased : MethodName := ⟨RX8, "erased", "(I)I"⟩
abbrev cX8_whole : ByteArray := prog_10_method_48_code
def yX8_whole : MethodName := ⟨RX8, "whole", "(I)I"⟩
abbrev cX8_above : ByteArray := prog_10_method_49_code
def yX8_above : MethodName := ⟨RX8, "above", "(II)I"⟩
abbrev cX8_member : ByteArray := prog_10_method_50_code
def yX8_member : MethodName := ⟨RX8, "member", "(II)I"⟩
abbrev cX8_feed : ByteArray := prog_10_method_51_code
def yX8_feed : MethodName := ⟨RX8, "feed", "(IJ)I"⟩
abbrev cX8_byteAt : ByteArray := prog_10_method_52_code
def yX8_byteAt : MethodName := ⟨RX8, "byteAt", "(I)I"⟩
abbrev cX8_faultAt : ByteArray := prog_10_method_53_code
def yX8_faultAt : MethodName := ⟨RX8, "faultAt", "(I)I"⟩
abbrev cX8_readType : ByteArray := prog_10_method_54_code
def yX8_readType : MethodName := ⟨RX8, "readType", "()I"⟩
abbrev cX8_readLetter : ByteArray := prog_10_method_55_code
def yX8_readLetter : MethodName := ⟨RX8, "readLetter", "(I)I"⟩
abbrev cX8_readPart : ByteArray := prog_10_method_56_code
def yX8_readPart : MethodName := ⟨RX8, "readPart", "()I"⟩
abbrev cX8_readArgument : ByteArray := prog_10_method_57_code
def yX8_readArgument : MethodName := ⟨RX8, "readArgument", "()I"⟩
abbrev cX8_keep : ByteArray := prog_10_method_58_code
def yX8_keep : MethodName := ⟨RX8, "keep", "(II)V"⟩
abbrev cX8_readBehind : ByteArray := prog_10_method_59_code
def yX8_readBehind : MethodName := ⟨RX8, "readBehind", "()I"⟩
abbrev cX8_readClosed : ByteArray := prog_10_method_60_code
def yX8_readClosed : MethodName := ⟨RX8, "readClosed", "()I"⟩
abbrev cX8_readSuffix : ByteArray := prog_10_method_61_code
def yX8_readSuffix : MethodName := ⟨RX8, "readSuffix", "()I"⟩
abbrev cX8_read : ByteArray := prog_10_method_62_code
def yX8_read : MethodName := ⟨RX8, "read", "()I"⟩
abbrev cX8_push : ByteArray := prog_10_method_63_code
def yX8_push : MethodName := ⟨RX8, "push", "(I)V"⟩
abbrev cX8_pushParts : ByteArray := prog_10_method_64_code
def yX8_pushParts : MethodName := ⟨RX8, "pushParts", "(I)V"⟩
abbrev cX8_print : ByteArray := prog_10_method_65_code
def yX8_print : MethodName := ⟨RX8, "print", "(I)I"⟩
abbrev cX8_out : ByteArray := prog_10_method_66_code
def yX8_out : MethodName := ⟨RX8, "out", "(I)I"⟩
abbrev cX8_count : ByteArray := prog_10_method_67_code
def yX8_count : MethodName := ⟨RX8, "count", "(I)I"⟩
